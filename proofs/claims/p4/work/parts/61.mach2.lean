/-! intervals -/
def iv_top : tv_T := (0, -2147483648, 2147483647, [])
def lv_top : tv_T := (1, -9223372036854775808, 9223372036854775807, [])
theorem iv_any {ta : Nat → Option Nat} (x : Int32) : tv_ok ta iv_top (.int x) := Or.inl ⟨rfl, x, rfl, by have := x.le_toInt; show (-2147483648 : Int) ≤ x.toInt; omega, by have := x.toInt_lt; show x.toInt ≤ 2147483647; omega⟩
theorem lv_any {ta : Nat → Option Nat} (x : Int64) : tv_ok ta lv_top (.long x) := Or.inr (Or.inl ⟨rfl, x, rfl, by have := x.le_toInt; show (-9223372036854775808 : Int) ≤ x.toInt; omega, by have := x.toInt_lt; show x.toInt ≤ 9223372036854775807; omega⟩)
def iv_mk (lo hi : Int) : tv_T := if decide (-2147483648 ≤ lo) && decide (hi ≤ 2147483647) then (0, lo, hi, []) else iv_top
def lv_mk (lo hi : Int) : tv_T := if decide (-9223372036854775808 ≤ lo) && decide (hi ≤ 9223372036854775807) then (1, lo, hi, []) else lv_top
theorem iv_bm {z lo hi : Int} (h1 : lo ≤ z) (h2 : z ≤ hi) (a : -2147483648 ≤ lo) (b : hi ≤ 2147483647) : z.bmod (2 ^ 32) = z := Int.bmod_eq_of_le_mul_two (by show -(4294967296 : Int) ≤ z * 2; omega) (by show z * 2 < (4294967296 : Int); omega)
theorem lv_bm {z lo hi : Int} (h1 : lo ≤ z) (h2 : z ≤ hi) (a : -9223372036854775808 ≤ lo) (b : hi ≤ 9223372036854775807) : z.bmod (2 ^ 64) = z := Int.bmod_eq_of_le_mul_two (by show -(18446744073709551616 : Int) ≤ z * 2; omega) (by show z * 2 < (18446744073709551616 : Int); omega)
theorem iv_mk_ok {ta : Nat → Option Nat} {x : Int32} {z lo hi : Int} (e : x.toInt = z.bmod (2 ^ 32)) (h1 : lo ≤ z) (h2 : z ≤ hi) : tv_ok ta (iv_mk lo hi) (.int x) := by
  unfold iv_mk
  by_cases h : (decide (-2147483648 ≤ lo) && decide (hi ≤ 2147483647)) = true
  · rw [if_pos h]
    simp only [Bool.and_eq_true, decide_eq_true_eq] at h
    rw [iv_bm h1 h2 h.1 h.2] at e
    exact Or.inl ⟨rfl, x, rfl, by show lo ≤ x.toInt; omega, by show x.toInt ≤ hi; omega⟩
  · rw [if_neg h]; exact iv_any x
theorem lv_mk_ok {ta : Nat → Option Nat} {x : Int64} {z lo hi : Int} (e : x.toInt = z.bmod (2 ^ 64)) (h1 : lo ≤ z) (h2 : z ≤ hi) : tv_ok ta (lv_mk lo hi) (.long x) := by
  unfold lv_mk
  by_cases h : (decide (-9223372036854775808 ≤ lo) && decide (hi ≤ 9223372036854775807)) = true
  · rw [if_pos h]
    simp only [Bool.and_eq_true, decide_eq_true_eq] at h
    rw [lv_bm h1 h2 h.1 h.2] at e
    exact Or.inr (Or.inl ⟨rfl, x, rfl, by show lo ≤ x.toInt; omega, by show x.toInt ≤ hi; omega⟩)
  · rw [if_neg h]; exact lv_any x
def mn2 (a b : Int) : Int := if a ≤ b then a else b
def mx2 (a b : Int) : Int := if a ≤ b then b else a
theorem mn2_l (a b : Int) : mn2 a b ≤ a := by unfold mn2; split <;> omega
theorem mn2_r (a b : Int) : mn2 a b ≤ b := by unfold mn2; split <;> omega
theorem mx2_l (a b : Int) : a ≤ mx2 a b := by unfold mx2; split <;> omega
theorem mx2_r (a b : Int) : b ≤ mx2 a b := by unfold mx2; split <;> omega
theorem mul_lo {a b x y : Int} (h1 : a ≤ x) (h2 : x ≤ b) : mn2 (a * y) (b * y) ≤ x * y ∧ x * y ≤ mx2 (a * y) (b * y) := by
  rcases Int.le_total 0 y with hy | hy
  · have e1 := Int.mul_le_mul_of_nonneg_right h1 hy
    have e2 := Int.mul_le_mul_of_nonneg_right h2 hy
    exact ⟨Int.le_trans (mn2_l _ _) e1, Int.le_trans e2 (mx2_r _ _)⟩
  · have e1 := Int.mul_le_mul_of_nonpos_right h1 hy
    have e2 := Int.mul_le_mul_of_nonpos_right h2 hy
    exact ⟨Int.le_trans (mn2_r _ _) e2, Int.le_trans e1 (mx2_l _ _)⟩
theorem mul_iv {a b x c d y : Int} (h1 : a ≤ x) (h2 : x ≤ b) (h3 : c ≤ y) (h4 : y ≤ d) : mn2 (mn2 (a * c) (a * d)) (mn2 (b * c) (b * d)) ≤ x * y ∧ x * y ≤ mx2 (mx2 (a * c) (a * d)) (mx2 (b * c) (b * d)) := by
  have e := mul_lo (y := y) h1 h2
  have f1 := mul_lo (y := a) h3 h4
  have f2 := mul_lo (y := b) h3 h4
  rw [Int.mul_comm c a, Int.mul_comm d a, Int.mul_comm y a] at f1
  rw [Int.mul_comm c b, Int.mul_comm d b, Int.mul_comm y b] at f2
  refine ⟨Int.le_trans ?_ e.1, Int.le_trans e.2 ?_⟩
  · generalize a * y = p at *
    generalize b * y = q at *
    have g1 := mn2_l (mn2 (a * c) (a * d)) (mn2 (b * c) (b * d))
    have g2 := mn2_r (mn2 (a * c) (a * d)) (mn2 (b * c) (b * d))
    unfold mn2 at *
    split <;> omega
  · generalize a * y = p at *
    generalize b * y = q at *
    have g1 := mx2_l (mx2 (a * c) (a * d)) (mx2 (b * c) (b * d))
    have g2 := mx2_r (mx2 (a * c) (a * d)) (mx2 (b * c) (b * d))
    have h5 := f1.2
    have h6 := f2.2
    generalize mx2 (a * c) (a * d) = P at *
    generalize mx2 (b * c) (b * d) = Q at *
    generalize mx2 P Q = Z at *
    unfold mx2
    split <;> omega
theorem nn_nat {x : Int32} (h : 0 ≤ x.toInt) : x.toBitVec.toNat = x.toInt.toNat ∧ x.toBitVec.toNat < 2147483648 := by
  have e : x.toInt = x.toBitVec.toInt := rfl
  rw [e] at h ⊢
  rw [BitVec.toInt_eq_toNat_cond] at h ⊢
  have hb := x.toBitVec.isLt
  split at h
  · rename_i q
    rw [if_pos q]
    exact ⟨by omega, by omega⟩
  · exact absurd h (by omega)
theorem nat_nn {x : Int32} (h : x.toBitVec.toNat < 2147483648) : x.toInt = x.toBitVec.toNat := by
  have e : x.toInt = x.toBitVec.toInt := rfl
  rw [e, BitVec.toInt_eq_toNat_cond, if_pos (by omega)]
def iv_and (t u : tv_T) : tv_T := if 0 ≤ u.2.1 then (if 0 ≤ t.2.1 then (0, 0, mn2 t.2.2.1 u.2.2.1, []) else (0, 0, u.2.2.1, [])) else if 0 ≤ t.2.1 then (0, 0, t.2.2.1, []) else iv_top
theorem and_r {x y : Int32} (h : 0 ≤ y.toInt) : 0 ≤ (x &&& y).toInt ∧ (x &&& y).toInt ≤ y.toInt := by
  obtain ⟨e, b⟩ := nn_nat h
  have e2 : (x &&& y).toBitVec.toNat = x.toBitVec.toNat &&& y.toBitVec.toNat := by rw [Int32.toBitVec_and, BitVec.toNat_and]
  have e3 : (x &&& y).toBitVec.toNat ≤ y.toBitVec.toNat := by rw [e2]; exact Nat.and_le_right
  rw [nat_nn (x := x &&& y) (by omega)]
  omega
theorem and_l {x y : Int32} (h : 0 ≤ x.toInt) : 0 ≤ (x &&& y).toInt ∧ (x &&& y).toInt ≤ x.toInt := by
  obtain ⟨e, b⟩ := nn_nat h
  have e2 : (x &&& y).toBitVec.toNat = x.toBitVec.toNat &&& y.toBitVec.toNat := by rw [Int32.toBitVec_and, BitVec.toNat_and]
  have e3 : (x &&& y).toBitVec.toNat ≤ x.toBitVec.toNat := by rw [e2]; exact Nat.and_le_left
  rw [nat_nn (x := x &&& y) (by omega)]
  omega
theorem iv_and_ok {ta : Nat → Option Nat} {t u : tv_T} {x y : Int32} (h1 : t.2.1 ≤ x.toInt) (h2 : x.toInt ≤ t.2.2.1) (h3 : u.2.1 ≤ y.toInt) (h4 : y.toInt ≤ u.2.2.1) : tv_ok ta (iv_and t u) (.int (x &&& y)) := by
  unfold iv_and
  split
  · rename_i hu
    have a := and_r (x := x) (y := y) (by omega)
    split
    · rename_i hq
      have b := and_l (x := x) (y := y) (by omega)
      refine Or.inl ⟨rfl, _, rfl, a.1, ?_⟩
      show (x &&& y).toInt ≤ mn2 t.2.2.1 u.2.2.1
      unfold mn2
      split <;> omega
    · exact Or.inl ⟨rfl, _, rfl, a.1, by show (x &&& y).toInt ≤ u.2.2.1; omega⟩
  · split
    · have b := and_l (x := x) (y := y) (by omega)
      exact Or.inl ⟨rfl, _, rfl, b.1, by show (x &&& y).toInt ≤ t.2.2.1; omega⟩
    · exact iv_any _
def pw2 (n : Int) : Int := ((2 ^ (n.toNat.log2 + 1) : Nat) : Int) - 1
theorem pw2_lt {n : Int} {k : Nat} (h : (k : Int) ≤ n) : k < 2 ^ (n.toNat.log2 + 1) := by
  have h2 : n.toNat < 2 ^ (n.toNat.log2 + 1) := Nat.lt_log2_self
  omega
def iv_or (t u : tv_T) : tv_T := if decide (0 ≤ t.2.1) && decide (0 ≤ u.2.1) && decide (pw2 (mx2 t.2.2.1 u.2.2.1) ≤ 2147483647) then (0, 0, pw2 (mx2 t.2.2.1 u.2.2.1), []) else iv_top
theorem iv_or_ok {ta : Nat → Option Nat} {t u : tv_T} {x y : Int32} (z : Int32) (hz : z.toBitVec.toNat = x.toBitVec.toNat ||| y.toBitVec.toNat ∨ z.toBitVec.toNat = x.toBitVec.toNat ^^^ y.toBitVec.toNat) (h1 : t.2.1 ≤ x.toInt) (h2 : x.toInt ≤ t.2.2.1) (h3 : u.2.1 ≤ y.toInt) (h4 : y.toInt ≤ u.2.2.1) : tv_ok ta (iv_or t u) (.int z) := by
  unfold iv_or
  split
  · rename_i h
    simp only [Bool.and_eq_true, decide_eq_true_eq] at h
    obtain ⟨⟨a, b⟩, q⟩ := h
    obtain ⟨e1, _⟩ := nn_nat (x := x) (by omega)
    obtain ⟨e2, _⟩ := nn_nat (x := y) (by omega)
    have m1 := mx2_l t.2.2.1 u.2.2.1
    have m2 := mx2_r t.2.2.1 u.2.2.1
    generalize mx2 t.2.2.1 u.2.2.1 = M at *
    have p1 : x.toBitVec.toNat < 2 ^ (M.toNat.log2 + 1) := pw2_lt (by omega)
    have p2 : y.toBitVec.toNat < 2 ^ (M.toNat.log2 + 1) := pw2_lt (by omega)
    have p3 : z.toBitVec.toNat < 2 ^ (M.toNat.log2 + 1) := by
      rcases hz with hz | hz
      · rw [hz]; exact Nat.or_lt_two_pow p1 p2
      · rw [hz]; exact Nat.xor_lt_two_pow p1 p2
    unfold pw2 at q ⊢
    generalize 2 ^ (M.toNat.log2 + 1) = B at *
    have e3 := nat_nn (x := z) (by omega)
    exact Or.inl ⟨rfl, _, rfl, by show (0 : Int) ≤ z.toInt; omega, by show z.toInt ≤ (B : Int) - 1; omega⟩
  · exact iv_any _
