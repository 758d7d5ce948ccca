theorem sh_31 : ∀ n, n < 32 → ((nI n).toBitVec.smod 32).toNat = n ∧ nI n &&& 31 = nI n := by decide
theorem sh_at {y : Int32} {a : Int} (h1 : y.toInt = a) (h2 : 0 ≤ a) (h3 : a ≤ 31) : ((y &&& 31).toBitVec.smod 32).toNat = a.toNat := by
  have e : y = nI a.toNat := Int32.toInt_inj.mp (by rw [nI_toInt (by omega)]; omega)
  have q := sh_31 a.toNat (by omega)
  rw [e, q.2]; exact q.1
def iv_shl (t u : tv_T) : tv_T := if decide (0 ≤ t.2.1) && decide (0 ≤ u.2.1) && decide (u.2.2.1 ≤ 30) && decide (t.2.2.1 * (2 ^ u.2.2.1.toNat : Nat) ≤ 2147483647) then (0, t.2.1 * (2 ^ u.2.1.toNat : Nat), t.2.2.1 * (2 ^ u.2.2.1.toNat : Nat), []) else iv_top
theorem iv_shl_ok {ta : Nat → Option Nat} {t u : tv_T} {x y : Int32} (h1 : t.2.1 ≤ x.toInt) (h2 : x.toInt ≤ t.2.2.1) (h3 : u.2.1 ≤ y.toInt) (h4 : y.toInt ≤ u.2.2.1) : tv_ok ta (iv_shl t u) (.int (x <<< (y &&& 31))) := by
  unfold iv_shl
  split
  · rename_i h
    simp only [Bool.and_eq_true, decide_eq_true_eq] at h
    obtain ⟨⟨⟨a, b⟩, q⟩, r⟩ := h
    have e := pk_shl x (y &&& 31) y.toInt.toNat (sh_at rfl (by omega) (by omega))
    obtain ⟨e1, e2⟩ := nn_nat (x := x) (by omega)
    rw [e1] at e
    have p1 : 2 ^ u.2.1.toNat ≤ 2 ^ y.toInt.toNat := Nat.pow_le_pow_right (by decide) (by omega)
    have p2 : 2 ^ y.toInt.toNat ≤ 2 ^ u.2.2.1.toNat := Nat.pow_le_pow_right (by decide) (by omega)
    generalize 2 ^ u.2.1.toNat = P1 at *
    generalize 2 ^ y.toInt.toNat = P at *
    generalize 2 ^ u.2.2.1.toNat = P2 at *
    have m1 : x.toInt.toNat * P ≤ t.2.2.1.toNat * P2 := Nat.mul_le_mul (by omega) p2
    have m2 : t.2.1.toNat * P1 ≤ x.toInt.toNat * P := Nat.mul_le_mul (by omega) p1
    have m3 : ((t.2.2.1.toNat * P2 : Nat) : Int) = t.2.2.1 * (P2 : Nat) := by rw [Int.natCast_mul, Int.toNat_of_nonneg (by omega)]
    have m4 : ((t.2.1.toNat * P1 : Nat) : Int) = t.2.1 * (P1 : Nat) := by rw [Int.natCast_mul, Int.toNat_of_nonneg (by omega)]
    generalize x.toInt.toNat * P = X at *
    generalize t.2.2.1.toNat * P2 = X2 at *
    generalize t.2.1.toNat * P1 = X1 at *
    rw [Nat.mod_eq_of_lt (by omega)] at e
    have e5 := nat_nn (x := x <<< (y &&& 31)) (by omega)
    exact Or.inl ⟨rfl, _, rfl, by show t.2.1 * (P1 : Nat) ≤ _; omega, by show _ ≤ t.2.2.1 * (P2 : Nat); omega⟩
  · exact iv_any _
def iv_shr (t u : tv_T) : tv_T := if 0 ≤ t.2.1 then (if decide (0 ≤ u.2.1) && decide (u.2.2.1 ≤ 31) then (0, t.2.1 / (2 ^ u.2.2.1.toNat : Nat), t.2.2.1 / (2 ^ u.2.1.toNat : Nat), []) else (0, 0, t.2.2.1, [])) else iv_top
theorem sh_any (y : Int32) : ∃ j, j < 32 ∧ ((y &&& 31).toBitVec.smod 32).toNat = j := by
  obtain ⟨j, hj, e⟩ := pk_andE y (m := 31) 5 (by decide)
  exact ⟨j, hj, by rw [e]; exact (sh_31 j hj).1⟩
theorem iv_shr_ok {ta : Nat → Option Nat} {t u : tv_T} {x y : Int32} (h1 : t.2.1 ≤ x.toInt) (h2 : x.toInt ≤ t.2.2.1) (h3 : u.2.1 ≤ y.toInt) (h4 : y.toInt ≤ u.2.2.1) : tv_ok ta (iv_shr t u) (.int (x >>> (y &&& 31))) := by
  unfold iv_shr
  split
  · rename_i h0
    have gen : ∀ k : Nat, (x.toInt >>> k) = x.toInt / (2 ^ k : Nat) := fun k => Int.shiftRight_eq_div_pow _ _
    split
    · rename_i h
      simp only [Bool.and_eq_true, decide_eq_true_eq] at h
      have e := pk_shr x (y &&& 31) y.toInt.toNat (sh_at rfl (by omega) (by omega))
      rw [gen] at e
      have p1 : 2 ^ u.2.1.toNat ≤ 2 ^ y.toInt.toNat := Nat.pow_le_pow_right (by decide) (by omega)
      have p0 : 0 < 2 ^ u.2.1.toNat := Nat.pow_pos (by decide)
      have p2 : 2 ^ y.toInt.toNat ≤ 2 ^ u.2.2.1.toNat := Nat.pow_le_pow_right (by decide) (by omega)
      generalize 2 ^ u.2.2.1.toNat = P2 at *
      generalize 2 ^ u.2.1.toNat = P1 at *
      generalize 2 ^ y.toInt.toNat = P at *
      have q2 : t.2.1 / (P2 : Int) ≤ x.toInt / (P : Int) := by
        refine Int.le_ediv_of_mul_le (by omega) ?_
        have r3 : t.2.1 / (P2 : Int) * P2 ≤ t.2.1 := Int.ediv_mul_le _ (by omega)
        have r4 : t.2.1 / (P2 : Int) * P ≤ t.2.1 / (P2 : Int) * P2 := Int.mul_le_mul_of_nonneg_left (by omega) (Int.ediv_nonneg (by omega) (by omega))
        omega
      have q0 : 0 ≤ x.toInt / (P : Int) := Int.ediv_nonneg (by omega) (by omega)
      have q1 : x.toInt / (P : Int) ≤ t.2.2.1 / (P1 : Int) := by
        refine Int.le_ediv_of_mul_le (by omega) ?_
        have r1 : x.toInt / (P : Int) * P ≤ x.toInt := Int.ediv_mul_le _ (by omega)
        have r2 : x.toInt / (P : Int) * P1 ≤ x.toInt / (P : Int) * P := Int.mul_le_mul_of_nonneg_left (by omega) q0
        omega
      exact Or.inl ⟨rfl, _, rfl, by show t.2.1 / (P2 : Int) ≤ _; rw [e]; exact q2, by show _ ≤ t.2.2.1 / (P1 : Int); rw [e]; exact q1⟩
    · obtain ⟨j, _, hj⟩ := sh_any y
      have e := pk_shr x (y &&& 31) j hj
      rw [gen] at e
      have p0 : 0 < 2 ^ j := Nat.pow_pos (by decide)
      generalize 2 ^ j = P at *
      have q0 : 0 ≤ x.toInt / (P : Int) := Int.ediv_nonneg (by omega) (by omega)
      have q1 : x.toInt / (P : Int) ≤ x.toInt := Int.ediv_le_self _ (by omega)
      exact Or.inl ⟨rfl, _, rfl, by show (0 : Int) ≤ _; rw [e]; exact q0, by show _ ≤ t.2.2.1; rw [e]; omega⟩
  · exact iv_any _
/-! divisions by what is positive -/
def iv_div (t u : tv_T) : tv_T := if 0 ≤ t.2.1 then (0, 0, t.2.2.1 / u.2.1, []) else (0, mn2 t.2.1 0, mx2 t.2.2.1 0, [])
def iv_rem (t u : tv_T) : tv_T := if 0 ≤ t.2.1 then (0, 0, mn2 t.2.2.1 (u.2.2.1 - 1), []) else (0, -(u.2.2.1 - 1), u.2.2.1 - 1, [])
theorem td_in {a b : Int} (hb : 1 ≤ b) : mn2 a 0 ≤ a.tdiv b ∧ a.tdiv b ≤ mx2 a 0 := by
  rcases Int.le_total 0 a with h | h
  · have e : a.tdiv b = a / b := Int.tdiv_eq_ediv_of_nonneg h
    rw [e]
    have q0 : 0 ≤ a / b := Int.ediv_nonneg h (by omega)
    have q1 : a / b ≤ a := Int.ediv_le_self _ h
    unfold mn2 mx2
    split <;> omega
  · have e : a.tdiv b = -((-a) / b) := by rw [← Int.tdiv_eq_ediv_of_nonneg (by omega : 0 ≤ -a), Int.neg_tdiv]; omega
    rw [e]
    have q0 : 0 ≤ (-a) / b := Int.ediv_nonneg (by omega) (by omega)
    have q1 : (-a) / b ≤ -a := Int.ediv_le_self _ (by omega)
    unfold mn2 mx2
    split <;> omega
theorem td_i32 {x y : Int32} (hy : 1 ≤ y.toInt) : (x / y).toInt = x.toInt.tdiv y.toInt := by
  rw [Int32.toInt_div]
  have h := td_in (a := x.toInt) hy
  have h1 := x.le_toInt
  have h2 := x.toInt_lt
  unfold mn2 mx2 at h
  refine Int.bmod_eq_of_le_mul_two ?_ ?_
  · show -(4294967296 : Int) ≤ _
    split at h <;> omega
  · show _ < (4294967296 : Int)
    split at h <;> omega
theorem iv_div_ok {ta : Nat → Option Nat} {t u : tv_T} {x y : Int32} (hu : 1 ≤ u.2.1) (h1 : t.2.1 ≤ x.toInt) (h2 : x.toInt ≤ t.2.2.1) (h3 : u.2.1 ≤ y.toInt) (h4 : y.toInt ≤ u.2.2.1) : tv_ok ta (iv_div t u) (.int (x / y)) := by
  have e := td_i32 (x := x) (y := y) (by omega)
  have h := td_in (a := x.toInt) (b := y.toInt) (by omega)
  unfold iv_div
  split
  · rename_i h0
    have e2 : x.toInt.tdiv y.toInt = x.toInt / y.toInt := Int.tdiv_eq_ediv_of_nonneg (by omega)
    have q0 : 0 ≤ x.toInt / y.toInt := Int.ediv_nonneg (by omega) (by omega)
    have q1 : x.toInt / y.toInt ≤ t.2.2.1 / u.2.1 := by
      refine Int.le_ediv_of_mul_le (by omega) ?_
      have r1 : x.toInt / y.toInt * y.toInt ≤ x.toInt := Int.ediv_mul_le _ (by omega)
      have r2 : x.toInt / y.toInt * u.2.1 ≤ x.toInt / y.toInt * y.toInt := Int.mul_le_mul_of_nonneg_left (by omega) q0
      omega
    exact Or.inl ⟨rfl, _, rfl, by show (0 : Int) ≤ _; omega, by show _ ≤ t.2.2.1 / u.2.1; omega⟩
  · refine Or.inl ⟨rfl, _, rfl, ?_, ?_⟩
    · show mn2 t.2.1 0 ≤ (x / y).toInt
      have := h.1
      unfold mn2 at this ⊢
      split at this <;> split <;> omega
    · show (x / y).toInt ≤ mx2 t.2.2.1 0
      have := h.2
      unfold mx2 at this ⊢
      split at this <;> split <;> omega
theorem tm_i32 {x y : Int32} (hy : 1 ≤ y.toInt) : (x - x / y * y).toInt = x.toInt.tmod y.toInt := by
  have e : x.toInt.tmod y.toInt = x.toInt - x.toInt.tdiv y.toInt * y.toInt := by
    have := Int.mul_tdiv_add_tmod x.toInt y.toInt
    rw [Int.mul_comm] at this
    omega
  have h1 := x.le_toInt
  have h2 := x.toInt_lt
  have hm : -2147483648 ≤ x.toInt.tmod y.toInt ∧ x.toInt.tmod y.toInt ≤ 2147483647 := by
    rcases Int.le_total 0 x.toInt with h | h
    · have a := Int.tmod_nonneg y.toInt h
      have b := Int.tmod_lt_of_pos x.toInt (by omega : 0 < y.toInt)
      have := y.toInt_lt
      omega
    · have a : (-(-x.toInt)).tmod y.toInt = -((-x.toInt).tmod y.toInt) := Int.neg_tmod ..
      rw [Int.neg_neg] at a
      have b := Int.tmod_nonneg y.toInt (by omega : 0 ≤ -x.toInt)
      have c := Int.tmod_lt_of_pos (-x.toInt) (by omega : 0 < y.toInt)
      have := y.toInt_lt
      omega
  rw [Int32.toInt_sub, Int32.toInt_mul, td_i32 hy, Int.sub_bmod_bmod, ← e]
  exact Int.bmod_eq_of_le_mul_two (by show -(4294967296 : Int) ≤ _; omega) (by show _ < (4294967296 : Int); omega)
theorem iv_rem_ok {ta : Nat → Option Nat} {t u : tv_T} {x y : Int32} (hu : 1 ≤ u.2.1) (h1 : t.2.1 ≤ x.toInt) (h2 : x.toInt ≤ t.2.2.1) (h3 : u.2.1 ≤ y.toInt) (h4 : y.toInt ≤ u.2.2.1) : tv_ok ta (iv_rem t u) (.int (x - x / y * y)) := by
  have e := tm_i32 (x := x) (y := y) (by omega)
  unfold iv_rem
  split
  · have a := Int.tmod_nonneg y.toInt (by omega : 0 ≤ x.toInt)
    have b := Int.tmod_lt_of_pos x.toInt (by omega : 0 < y.toInt)
    have d : x.toInt.tmod y.toInt ≤ x.toInt := by
      rw [Int.tmod_eq_emod_of_nonneg (by omega)]
      have q := Int.mul_ediv_add_emod x.toInt y.toInt
      have r := Int.mul_nonneg (by omega : 0 ≤ y.toInt) (Int.ediv_nonneg (by omega : 0 ≤ x.toInt) (by omega : 0 ≤ y.toInt))
      omega
    refine Or.inl ⟨rfl, _, rfl, by show (0 : Int) ≤ _; omega, ?_⟩
    show _ ≤ mn2 t.2.2.1 (u.2.2.1 - 1)
    unfold mn2
    split <;> omega
  · have hm : -(y.toInt - 1) ≤ x.toInt.tmod y.toInt ∧ x.toInt.tmod y.toInt ≤ y.toInt - 1 := by
      rcases Int.le_total 0 x.toInt with h | h
      · have a := Int.tmod_nonneg y.toInt h
        have b := Int.tmod_lt_of_pos x.toInt (by omega : 0 < y.toInt)
        omega
      · have a : (-(-x.toInt)).tmod y.toInt = -((-x.toInt).tmod y.toInt) := Int.neg_tmod ..
        rw [Int.neg_neg] at a
        have b := Int.tmod_nonneg y.toInt (by omega : 0 ≤ -x.toInt)
        have c := Int.tmod_lt_of_pos (-x.toInt) (by omega : 0 < y.toInt)
        omega
    exact Or.inl ⟨rfl, _, rfl, by show -(u.2.2.1 - 1) ≤ _; omega, by show _ ≤ u.2.2.1 - 1; omega⟩
