def op_j (i : ClassFile.Instr) : Option ((Int32 → Int32 → Int32) × (tv_T → tv_T → tv_T)) := match i with
  | .ishl => some (fun x y => x <<< (y &&& 31), iv_shl)
  | .ishr => some (fun x y => x >>> (y &&& 31), iv_shr)
  | i => op_i i
theorem op_j_ty {ta : Nat → Option Nat} {i : ClassFile.Instr} {f : Int32 → Int32 → Int32} {g : tv_T → tv_T → tv_T} (h : op_j i = some (f, g)) {t u : tv_T} {x y : Int32} (h1 : t.2.1 ≤ x.toInt) (h2 : x.toInt ≤ t.2.2.1) (h3 : u.2.1 ≤ y.toInt) (h4 : y.toInt ≤ u.2.2.1) : tv_ok ta (g t u) (.int (f x y)) := by
  unfold op_j at h
  split at h
  · cases h; exact iv_shl_ok h1 h2 h3 h4
  · cases h; exact iv_shr_ok h1 h2 h3 h4
  · exact op_i_ty h h1 h2 h3 h4
/-- how far a new name lies from an old one -/
def sy_off (y : sy_T) (new old : Nat) (lo hi : Int) : sy_T := (y.1, y.2.1, y.2.2.1, y.2.2.2.1, (new, old, lo, hi) :: (y.2.2.2.2.1.filterMap (fun q => if q.1 = old then some (new, q.2.1, lo + q.2.2.1, hi + q.2.2.2) else none)) ++ y.2.2.2.2.1, y.2.2.2.2.2)
theorem sy_off_ok {ta : Nat → Option Nat} {ws : va_W} {vs : List Value} {ls : Array Slot} {nL : Nat} {st : List Value} {y : sy_T} {new old : Nat} {lo hi : Int} (h : sy_ok ta ws vs ls nL st y) (ho : sy_ofs vs (new, old, lo, hi)) : sy_ok ta ws vs ls nL st (sy_off y new old lo hi) := by
  refine ⟨h.1, h.2.1, h.2.2.1, h.2.2.2.1, fun q hq => ?_, h.2.2.2.2.2⟩
  rcases List.mem_append.mp hq with hq | hq
  · rcases List.mem_cons.mp hq with rfl | hq
    · exact ho
    · obtain ⟨z, hz, e⟩ := List.mem_filterMap.mp hq
      split at e
      · rename_i e1
        obtain rfl := Option.some.inj e
        obtain ⟨x1, x2, a1, a2, a3, a4⟩ := ho
        obtain ⟨x3, x4, b1, b2, b3, b4⟩ := h.2.2.2.2.1 z hz
        rw [e1] at b1
        have e2 : x2 = x3 := by
          have a2' : vs[old]? = some (.int x2) := a2
          rw [b1] at a2'
          exact (Value.int.inj (Option.some.inj a2')).symm
        have a3' : x2.toInt + lo ≤ x1.toInt := a3
        have a4' : x1.toInt ≤ x2.toInt + hi := a4
        rw [e2] at a3' a4'
        exact ⟨x1, x4, a1, b2, by show x4.toInt + (lo + z.2.2.1) ≤ x1.toInt; omega, by show x1.toInt ≤ x4.toInt + (hi + z.2.2.2); omega⟩
      · cases e
  · exact h.2.2.2.2.1 q hq
def sy_dvA (y : sy_T) (n M : Nat) : sy_T := (y.1, y.2.1, y.2.2.1, y.2.2.2.1, y.2.2.2.2.1, (n, M) :: y.2.2.2.2.2)
theorem sy_dvA_ok {ta : Nat → Option Nat} {ws : va_W} {vs : List Value} {ls : Array Slot} {nL : Nat} {st : List Value} {y : sy_T} {n M : Nat} (h : sy_ok ta ws vs ls nL st y) (hd : sy_dv vs (n, M)) : sy_ok ta ws vs ls nL st (sy_dvA y n M) :=
  ⟨h.1, h.2.1, h.2.2.1, h.2.2.2.1, h.2.2.2.2.1, fun q hq => by
    rcases List.mem_cons.mp hq with rfl | hq
    · exact hd
    · exact h.2.2.2.2.2 q hq⟩
def of_in (d : Int) (t : tv_T) : Bool := decide (-2147483648 ≤ t.2.1 + d) && decide (t.2.2.1 + d ≤ 2147483647)
def ad_in (t u : tv_T) : Bool := decide (-2147483648 ≤ t.2.1 + u.2.1) && decide (t.2.2.1 + u.2.2.1 ≤ 2147483647)
def sb_in (t u : tv_T) : Bool := decide (-2147483648 ≤ t.2.1 - u.2.2.1) && decide (t.2.2.1 - u.2.1 ≤ 2147483647)
def isK (t : tv_T) : Bool := decide (t.2.1 = t.2.2.1)
/-- a sum of what a number divides and a multiple of it -/
def sy_dvs (y : sy_T) (n a : Nat) (d : Int) : sy_T := match y.2.2.2.2.2.find? (fun q => q.1 == a && decide (d % (q.2 : Int) = 0)) with
  | some q => sy_dvA y n q.2
  | none => y
def sy_offs (i : ClassFile.Instr) (y : sy_T) (n a b : Nat) (t u : tv_T) : sy_T := match i with
  | .iadd => if ad_in t u then (let y1 := if isK t then y else sy_off y n a u.2.1 u.2.2.1
      let y2 := if isK u then y1 else sy_off y1 n b t.2.1 t.2.2.1
      if isK u then sy_dvs y2 n a u.2.1 else y2) else y
  | .isub => if sb_in t u && !(isK t) then sy_off y n a (-u.2.2.1) (-u.2.1) else y
  | .imul => if isK u && decide (1 ≤ u.2.1) && decide (-2147483648 ≤ t.2.1 * u.2.1) && decide (t.2.2.1 * u.2.1 ≤ 2147483647) then sy_dvA y n u.2.1.toNat
      else if isK t && decide (1 ≤ t.2.1) && decide (-2147483648 ≤ u.2.1 * t.2.1) && decide (u.2.2.1 * t.2.1 ≤ 2147483647) then sy_dvA y n t.2.1.toNat else y
  | _ => y
theorem sy_dvs_ok {ta : Nat → Option Nat} {ws : va_W} {vs : List Value} {ls : Array Slot} {nL : Nat} {st : List Value} {y : sy_T} {n a : Nat} {d : Int} {x z : Int32} (h : sy_ok ta ws vs ls nL st y) (hn : vs[n]? = some (.int x)) (ha : vs[a]? = some (.int z)) (e : x.toInt = z.toInt + d) : sy_ok ta ws vs ls nL st (sy_dvs y n a d) := by
  unfold sy_dvs
  split
  · rename_i q hq
    have h1 := List.find?_some hq
    simp only [Bool.and_eq_true, beq_iff_eq, decide_eq_true_eq] at h1
    obtain ⟨w, k, e1, e2⟩ := h.2.2.2.2.2 q (List.mem_of_find?_eq_some hq)
    rw [h1.1, ha] at e1
    obtain rfl := Value.int.inj (Option.some.inj e1)
    refine sy_dvA_ok h ⟨x, k + d / (q.2 : Int), hn, ?_⟩
    have e3 := Int.mul_ediv_add_emod d (q.2 : Int)
    rw [h1.2] at e3
    show x.toInt = (q.2 : Int) * (k + d / (q.2 : Int))
    rw [Int.mul_add, ← e2]
    omega
  · exact h
theorem isK_ok {t : tv_T} (h : isK t = true) : t.2.1 = t.2.2.1 := by unfold isK at h; simpa using h
theorem sy_offs_ok {ta : Nat → Option Nat} {ws : va_W} {vs : List Value} {ls : Array Slot} {nL : Nat} {st : List Value} {y : sy_T} {n a b : Nat} {i : ClassFile.Instr} {t u : tv_T} {f : Int32 → Int32 → Int32} {g : tv_T → tv_T → tv_T} (hop : op_j i = some (f, g)) {x z : Int32} (h : sy_ok ta ws vs ls nL st y) (hn : vs[n]? = some (.int (f x z))) (ha : vs[a]? = some (.int x)) (hb : vs[b]? = some (.int z)) (h1 : t.2.1 ≤ x.toInt) (h2 : x.toInt ≤ t.2.2.1) (h3 : u.2.1 ≤ z.toInt) (h4 : z.toInt ≤ u.2.2.1) : sy_ok ta ws vs ls nL st (sy_offs i y n a b t u) := by
  unfold sy_offs
  split
  · have ef : (fun x y : Int32 => x + y) = f := by
      have : some ((fun x y : Int32 => x + y), fun t u : tv_T => iv_mk (t.2.1 + u.2.1) (t.2.2.1 + u.2.2.1)) = some (f, g) := hop
      exact (Prod.mk.inj (Option.some.inj this)).1
    rw [← ef] at hn
    split
    · rename_i q
      simp only [ad_in, Bool.and_eq_true, decide_eq_true_eq] at q
      have hs : (x + z).toInt = x.toInt + z.toInt := by rw [Int32.toInt_add, iv_bm (lo := t.2.1 + u.2.1) (hi := t.2.2.1 + u.2.2.1) (by omega) (by omega) (by omega) (by omega)]
      have s1 : sy_ok ta ws vs ls nL st (if isK t then y else sy_off y n a u.2.1 u.2.2.1) := by
        split
        · exact h
        · exact sy_off_ok h ⟨x + z, x, hn, ha, by show x.toInt + u.2.1 ≤ _; omega, by show _ ≤ x.toInt + u.2.2.1; omega⟩
      have s2 : sy_ok ta ws vs ls nL st (if isK u then (if isK t then y else sy_off y n a u.2.1 u.2.2.1) else sy_off (if isK t then y else sy_off y n a u.2.1 u.2.2.1) n b t.2.1 t.2.2.1) := by
        split
        · exact s1
        · exact sy_off_ok s1 ⟨x + z, z, hn, hb, by show z.toInt + t.2.1 ≤ _; omega, by show _ ≤ z.toInt + t.2.2.1; omega⟩
      show sy_ok ta ws vs ls nL st (if isK u then _ else _)
      by_cases hk : isK u = true
      · rw [if_pos hk]
        have e := isK_ok hk
        exact sy_dvs_ok (x := x + z) s2 hn ha (by omega)
      · rw [if_neg hk]; exact s2
    · exact h
  · have ef : (fun x y : Int32 => x - y) = f := by
      have : some ((fun x y : Int32 => x - y), fun t u : tv_T => iv_mk (t.2.1 - u.2.2.1) (t.2.2.1 - u.2.1)) = some (f, g) := hop
      exact (Prod.mk.inj (Option.some.inj this)).1
    rw [← ef] at hn
    split
    · rename_i q
      simp only [sb_in, Bool.and_eq_true, decide_eq_true_eq] at q
      have hs : (x - z).toInt = x.toInt - z.toInt := by rw [Int32.toInt_sub, iv_bm (lo := t.2.1 - u.2.2.1) (hi := t.2.2.1 - u.2.1) (by omega) (by omega) (by omega) (by omega)]
      exact sy_off_ok h ⟨x - z, x, hn, ha, by show x.toInt + -u.2.2.1 ≤ _; omega, by show _ ≤ x.toInt + -u.2.1; omega⟩
    · exact h
  · have ef : (fun x y : Int32 => x * y) = f := by
      have : some ((fun x y : Int32 => x * y), _) = some (f, g) := hop
      exact (Prod.mk.inj (Option.some.inj this)).1
    rw [← ef] at hn
    have hm := Int32.toInt_mul x z
    split
    · rename_i q
      simp only [Bool.and_eq_true, decide_eq_true_eq] at q
      have e := isK_ok q.1.1.1
      have e2 : z.toInt = u.2.1 := by omega
      have m1 := Int.mul_le_mul_of_nonneg_right h1 (show 0 ≤ u.2.1 by omega)
      have m2 := Int.mul_le_mul_of_nonneg_right h2 (show 0 ≤ u.2.1 by omega)
      rw [e2, iv_bm m1 m2 q.1.2 q.2] at hm
      refine sy_dvA_ok h ⟨x * z, x.toInt, hn, ?_⟩
      show (x * z).toInt = ((u.2.1.toNat : Nat) : Int) * x.toInt
      rw [hm, Int.toNat_of_nonneg (by omega), Int.mul_comm]
    · split
      · rename_i q
        simp only [Bool.and_eq_true, decide_eq_true_eq] at q
        have e := isK_ok q.1.1.1
        have e2 : x.toInt = t.2.1 := by omega
        have m1 := Int.mul_le_mul_of_nonneg_right h3 (show 0 ≤ t.2.1 by omega)
        have m2 := Int.mul_le_mul_of_nonneg_right h4 (show 0 ≤ t.2.1 by omega)
        rw [e2, Int.mul_comm, iv_bm m1 m2 q.1.2 q.2] at hm
        refine sy_dvA_ok h ⟨x * z, z.toInt, hn, ?_⟩
        show (x * z).toInt = ((t.2.1.toNat : Nat) : Int) * z.toInt
        rw [hm, Int.toNat_of_nonneg (by omega), Int.mul_comm]
      · exact h
  · exact h
/-- a difference of names whose distance is known -/
def sb_cut (i : ClassFile.Instr) (y : sy_T) (a b : Nat) (t u w : tv_T) : tv_T := match i with
  | .isub => if sb_in t u then (match y.2.2.2.2.1.find? (fun q => q.1 == a && q.2.1 == b) with
    | some q => (0, mx2 (t.2.1 - u.2.2.1) q.2.2.1, mn2 (t.2.2.1 - u.2.1) q.2.2.2, [])
    | none => (match y.2.2.2.2.1.find? (fun q => q.1 == b && q.2.1 == a) with
      | some q => (0, mx2 (t.2.1 - u.2.2.1) (-q.2.2.2), mn2 (t.2.2.1 - u.2.1) (-q.2.2.1), [])
      | none => w)) else w
  | _ => w
theorem sb_cut_ok {ta : Nat → Option Nat} {ws : va_W} {vs : List Value} {ls : Array Slot} {nL : Nat} {st : List Value} {y : sy_T} {a b : Nat} {i : ClassFile.Instr} {t u w : tv_T} {f : Int32 → Int32 → Int32} {g : tv_T → tv_T → tv_T} (hop : op_j i = some (f, g)) {x z : Int32} (h : sy_ok ta ws vs ls nL st y) (ha : vs[a]? = some (.int x)) (hb : vs[b]? = some (.int z)) (h1 : t.2.1 ≤ x.toInt) (h2 : x.toInt ≤ t.2.2.1) (h3 : u.2.1 ≤ z.toInt) (h4 : z.toInt ≤ u.2.2.1) (hw : tv_ok ta w (.int (f x z))) : tv_ok ta (sb_cut i y a b t u w) (.int (f x z)) := by
  unfold sb_cut
  split
  · have ef : (fun x y : Int32 => x - y) = f := by
      have : some ((fun x y : Int32 => x - y), fun t u : tv_T => iv_mk (t.2.1 - u.2.2.1) (t.2.2.1 - u.2.1)) = some (f, g) := hop
      exact (Prod.mk.inj (Option.some.inj this)).1
    rw [← ef] at hw ⊢
    split
    · rename_i q
      simp only [sb_in, Bool.and_eq_true, decide_eq_true_eq] at q
      have hs : (x - z).toInt = x.toInt - z.toInt := by rw [Int32.toInt_sub, iv_bm (lo := t.2.1 - u.2.2.1) (hi := t.2.2.1 - u.2.1) (by omega) (by omega) (by omega) (by omega)]
      split
      · rename_i q2 hq
        have e1 := List.find?_some hq
        simp only [Bool.and_eq_true, beq_iff_eq] at e1
        obtain ⟨x2, z2, c1, c2, c3, c4⟩ := h.2.2.2.2.1 q2 (List.mem_of_find?_eq_some hq)
        rw [e1.1, ha] at c1
        rw [e1.2, hb] at c2
        obtain rfl := Value.int.inj (Option.some.inj c1)
        obtain rfl := Value.int.inj (Option.some.inj c2)
        refine Or.inl ⟨rfl, _, rfl, ?_, ?_⟩
        · show mx2 _ _ ≤ (x - z).toInt
          unfold mx2; split <;> omega
        · show (x - z).toInt ≤ mn2 _ _
          unfold mn2; split <;> omega
      · split
        · rename_i q2 hq
          have e1 := List.find?_some hq
          simp only [Bool.and_eq_true, beq_iff_eq] at e1
          obtain ⟨z2, x2, c1, c2, c3, c4⟩ := h.2.2.2.2.1 q2 (List.mem_of_find?_eq_some hq)
          rw [e1.1, hb] at c1
          rw [e1.2, ha] at c2
          obtain rfl := Value.int.inj (Option.some.inj c1)
          obtain rfl := Value.int.inj (Option.some.inj c2)
          refine Or.inl ⟨rfl, _, rfl, ?_, ?_⟩
          · show mx2 _ _ ≤ (x - z).toInt
            unfold mx2; split <;> omega
          · show (x - z).toInt ≤ mn2 _ _
            unfold mn2; split <;> omega
        · exact hw
    · exact hw
  · exact hw
def tr_opi (i : ClassFile.Instr) (len : Nat) (y : sy_T) : Option sy_T := match op_j i with
  | some (_, g) => match y.2.2.1 with
    | b :: a :: r => match y.1[a]?, y.1[b]? with
      | some t, some u => if t.1 = 0 ∧ u.1 = 0 ∧ len = 1 then some (sy_offs i (sy_push y (sb_cut i y a b t u (g t u)) r) y.1.length a b t u) else none
      | _, _ => none
    | _ => none
  | none => none
def tr_opl (i : ClassFile.Instr) (len : Nat) (y : sy_T) : Option sy_T := match op_l i with
  | some (_, g) => match y.2.2.1 with
    | b :: a :: r => match y.1[a]?, y.1[b]? with
      | some t, some u => if t.1 = 1 ∧ u.1 = 1 ∧ len = 1 then some (sy_push y (g t u) r) else none
      | _, _ => none
    | _ => none
  | none => none
/-- divisions by what is positive -/
def tr_dv (i : ClassFile.Instr) (len : Nat) (y : sy_T) : Option sy_T := match y.2.2.1 with
  | b :: a :: r => match y.1[a]?, y.1[b]? with
    | some t, some u => match i with
      | .idiv => if t.1 = 0 ∧ u.1 = 0 ∧ len = 1 ∧ 1 ≤ u.2.1 then some (sy_push y (iv_div t u) r) else none
      | .irem => if t.1 = 0 ∧ u.1 = 0 ∧ len = 1 ∧ 1 ≤ u.2.1 then some (if u.2.1 = u.2.2.1 then sy_push y (iv_rem t u) r else sy_off (sy_push y (iv_rem t u) r) y.1.length b (-4294967295) (-1)) else none
      | .ldiv => if t.1 = 1 ∧ u.1 = 1 ∧ len = 1 ∧ (1 ≤ u.2.1 ∨ u.2.2.1 ≤ -1) then some (sy_push y lv_top r) else none
      | .lrem => if t.1 = 1 ∧ u.1 = 1 ∧ len = 1 ∧ (1 ≤ u.2.1 ∨ u.2.2.1 ≤ -1) then some (sy_push y lv_top r) else none
      | .lcmp => if t.1 = 1 ∧ u.1 = 1 ∧ len = 1 then some (sy_push y (0, -1, 1, []) r) else none
      | .lshl => if t.1 = 1 ∧ u.1 = 0 ∧ len = 1 then some (sy_push y lv_top r) else none
      | .lshr => if t.1 = 1 ∧ u.1 = 0 ∧ len = 1 then some (sy_push y lv_top r) else none
      | .lushr => if t.1 = 1 ∧ u.1 = 0 ∧ len = 1 then some (sy_push y lv_top r) else none
      | .dup2 => if t.1 ≠ 1 ∧ u.1 ≠ 1 ∧ len = 1 then some (y.1, y.2.1, b :: a :: b :: a :: r, y.2.2.2.1, y.2.2.2.2) else none
      | .pop2 => if t.1 ≠ 1 ∧ u.1 ≠ 1 ∧ len = 1 then some (y.1, y.2.1, r, y.2.2.2.1, y.2.2.2.2) else none
      | _ => none
    | _, _ => none
  | _ => none
/-- one value -/
def tr_un (i : ClassFile.Instr) (len : Nat) (y : sy_T) : Option sy_T := match y.2.2.1 with
  | a :: r => match y.1[a]? with
    | some t => match i with
      | .ineg => if t.1 = 0 ∧ len = 1 then some (sy_push y (iv_mk (-t.2.2.1) (-t.2.1)) r) else none
      | .lneg => if t.1 = 1 ∧ len = 1 then some (sy_push y (lv_mk (-t.2.2.1) (-t.2.1)) r) else none
      | .i2l => if t.1 = 0 ∧ len = 1 then some (sy_push y (1, t.2.1, t.2.2.1, []) r) else none
      | .l2i => if t.1 = 1 ∧ len = 1 then some (sy_push y (iv_mk t.2.1 t.2.2.1) r) else none
      | .i2b => if t.1 = 0 ∧ len = 1 then some (sy_push y (if decide (-128 ≤ t.2.1) && decide (t.2.2.1 ≤ 127) then (0, t.2.1, t.2.2.1, []) else (0, -128, 127, [])) r) else none
      | .i2c => if t.1 = 0 ∧ len = 1 then some (sy_push y (0, 0, 65535, []) r) else none
      | .dup => if t.1 ≠ 1 ∧ len = 1 then some (y.1, y.2.1, a :: a :: r, y.2.2.2.1, y.2.2.2.2) else none
      | .pop => if t.1 ≠ 1 ∧ len = 1 then some (y.1, y.2.1, r, y.2.2.2.1, y.2.2.2.2) else none
      | .dup2 => if t.1 = 1 ∧ len = 1 then some (y.1, y.2.1, a :: a :: r, y.2.2.2.1, y.2.2.2.2) else none
      | .pop2 => if t.1 = 1 ∧ len = 1 then some (y.1, y.2.1, r, y.2.2.2.1, y.2.2.2.2) else none
      | _ => none
    | none => none
  | [] => none
/-- a local and a number -/
def tr_inc (nL : Nat) (i : ClassFile.Instr) (len : Nat) (y : sy_T) : Option sy_T := match i with
  | .iinc j n => match sy_find y.2.1 j with
    | some a => match y.1[a]? with
      | some t => if t.1 = 0 ∧ len = 3 ∧ j < nL then
          (let d := (Int32.ofInt n).toInt
           let z : sy_T := (y.1 ++ [iv_mk (t.2.1 + d) (t.2.2.1 + d)], (sy_sto y j 0 y.1.length y.2.2.1).2.1, y.2.2.1, y.2.2.2.1, y.2.2.2.2)
           some (if of_in d t then sy_off z y.1.length a d d else z)) else none
      | none => none
    | none => none
  | _ => none
