/-! up to four values named at once -/
theorem n_v_newk {vs L : List Value} {v : Value} {n k : Nat} (h : vs.length = n) (hk : L[k]? = some v) : n_v (vs ++ L) (n + k) = v := by
  unfold n_v
  rw [List.getElem?_append_right (by omega), h, show n + k - n = k from by omega, hk]; rfl
theorem ag_three {ta : Nat → Option Nat} {t t2 t3 : tv_T} {v v2 v3 : Value} (h : tv_ok ta t v) (h2 : tv_ok ta t2 v2) (h3 : tv_ok ta t3 v3) : ag_ok ta [t, t2, t3] [v, v2, v3] := ⟨h, h2, h3, trivial⟩
theorem ag_four {ta : Nat → Option Nat} {t t2 t3 t4 : tv_T} {v v2 v3 v4 : Value} (h : tv_ok ta t v) (h2 : tv_ok ta t2 v2) (h3 : tv_ok ta t3 v3) (h4 : tv_ok ta t4 v4) : ag_ok ta [t, t2, t3, t4] [v, v2, v3, v4] := ⟨h, h2, h3, h4, trivial⟩
/-! divisions -/
theorem fdv {x y q : Int} (hq : q = Int.tdiv x y) (hy : 1 ≤ y) : (0 ≤ x → y * q ≤ x ∧ x < y * q + y) ∧ (x < 0 → y * q - y < x ∧ x ≤ y * q) := by
  constructor
  · intro hx
    rw [Int.tdiv_eq_ediv_of_nonneg hx] at hq
    have h1 := Int.mul_ediv_add_emod x y
    have h2 := Int.emod_nonneg x (show y ≠ 0 from by omega)
    have h3 := Int.emod_lt_of_pos x (show 0 < y from by omega)
    rw [← hq] at h1
    omega
  · intro hx
    have e : q = -((-x) / y) := by
      rw [hq, show x = -(-x) from by omega, Int.neg_tdiv, Int.tdiv_eq_ediv_of_nonneg (show 0 ≤ -x from by omega), Int.neg_neg]
    have h1 := Int.mul_ediv_add_emod (-x) y
    have h2 := Int.emod_nonneg (-x) (show y ≠ 0 from by omega)
    have h3 := Int.emod_lt_of_pos (-x) (show 0 < y from by omega)
    have h4 : y * q = -(y * ((-x) / y)) := by rw [e, Int.mul_neg]
    omega
theorem fd_1 {y q n : Int} (h : n = q - 1) : y * n = y * q - y := by rw [h, Int.mul_sub, Int.mul_one]
theorem xor_sg {n a b : Int} (h : bv n = bv a ^^^ bv b) (hn : -2147483648 ≤ n ∧ n ≤ 2147483647) (ha : -2147483648 ≤ a ∧ a ≤ 2147483647) (hb : 0 ≤ b ∧ b ≤ 2147483647) : (n < 0 ↔ a < 0) := by
  have sg : ∀ z : Int, -2147483648 ≤ z → z ≤ 2147483647 → ((bv z).msb = true ↔ z < 0) := fun z h0 h1 => by
    unfold bv
    rw [BitVec.msb_eq_toInt, BitVec.toInt_ofInt, show z.bmod (2 ^ 32) = z from Int.bmod_eq_of_le_mul_two (by show -(4294967296 : Int) ≤ z * 2; omega) (by show z * 2 < (4294967296 : Int); omega)]
    simp
  have e : (bv n).msb = ((bv a).msb ^^ (bv b).msb) := by rw [h, BitVec.msb_xor]
  have eb : (bv b).msb = false := by
    cases hc : (bv b).msb with
    | false => rfl
    | true => have := (sg b (by omega) hb.2).mp hc; omega
  rw [eb, Bool.xor_false] at e
  rw [← sg n hn.1 hn.2, ← sg a ha.1 ha.2, e]
/-- a point of a line -/
theorem dl_in {a c n k q p e : Int} (he : e = c - a) (hp : p = 2 * k * e + n) (hn : 1 ≤ n) (hk0 : 0 ≤ k) (hk : k ≤ n) (h1 : 2 * n * q ≤ p) (h2 : p < 2 * n * q + 2 * n) (e1 : e ≤ n) (e2 : -n ≤ e) : (a ≤ a + q ∧ a + q ≤ c) ∨ (c ≤ a + q ∧ a + q ≤ a) := by
  by_cases s : 0 ≤ e
  · left
    have m1 : 0 ≤ k * e := Int.mul_nonneg hk0 s
    have m2 : k * e ≤ n * e := Int.mul_le_mul_of_nonneg_right hk s
    have p1 : p = 2 * (k * e) + n := by rw [hp, Int.mul_assoc]
    have q0 : 0 ≤ q := by
      apply Classical.byContradiction
      intro h
      have : 2 * n * q ≤ 2 * n * (-1) := Int.mul_le_mul_of_nonneg_left (by omega) (by omega)
      omega
    have q1 : q ≤ e := by
      apply Classical.byContradiction
      intro h
      have h3 : 2 * n * (e + 1) ≤ 2 * n * q := Int.mul_le_mul_of_nonneg_left (by omega) (by omega)
      have h4 : 2 * n * (e + 1) = 2 * (n * e) + 2 * n := by rw [Int.mul_add, Int.mul_one, Int.mul_assoc]
      omega
    omega
  · right
    have m1 : k * e ≤ 0 := by
      have := Int.mul_nonneg hk0 (show 0 ≤ -e from by omega)
      rw [Int.mul_neg] at this; omega
    have m2 : n * e ≤ k * e := by
      have := Int.mul_le_mul_of_nonneg_right hk (show 0 ≤ -e from by omega)
      rw [Int.mul_neg, Int.mul_neg] at this; omega
    have p1 : p = 2 * (k * e) + n := by rw [hp, Int.mul_assoc]
    have q0 : q ≤ 0 := by
      apply Classical.byContradiction
      intro h
      have : 2 * n * 1 ≤ 2 * n * q := Int.mul_le_mul_of_nonneg_left (by omega) (by omega)
      omega
    have q1 : e ≤ q := by
      apply Classical.byContradiction
      intro h
      have h3 : 2 * n * q ≤ 2 * n * (e - 1) := Int.mul_le_mul_of_nonneg_left (by omega) (by omega)
      have h4 : 2 * n * (e - 1) = 2 * (n * e) - 2 * n := by rw [Int.mul_sub, Int.mul_one, Int.mul_assoc]
      omega
    omega
/-- a place in a row of dots -/
theorem dot_in {a w D p q : Int} (hp : p = a * w) (hq : q = Int.tdiv p D) (ha : 0 ≤ a) (hD : a ≤ D) (h1 : 1 ≤ D) (hw : 0 ≤ w) : 0 ≤ q ∧ q ≤ w := by
  have p0 : 0 ≤ p := by rw [hp]; exact Int.mul_nonneg ha hw
  have h := (fdv hq h1).1 p0
  have m : a * w ≤ D * w := Int.mul_le_mul_of_nonneg_right hD hw
  constructor
  · apply Classical.byContradiction
    intro hn
    have : D * q ≤ D * (-1) := Int.mul_le_mul_of_nonneg_left (by omega) (by omega)
    omega
  · apply Classical.byContradiction
    intro hn
    have h3 : D * (w + 1) ≤ D * q := Int.mul_le_mul_of_nonneg_left (by omega) (by omega)
    rw [Int.mul_add, Int.mul_one] at h3
    omega
theorem ag_five {ta : Nat → Option Nat} {t t2 t3 t4 t5 : tv_T} {v v2 v3 v4 v5 : Value} (h : tv_ok ta t v) (h2 : tv_ok ta t2 v2) (h3 : tv_ok ta t3 v3) (h4 : tv_ok ta t4 v4) (h5 : tv_ok ta t5 v5) : ag_ok ta [t, t2, t3, t4, t5] [v, v2, v3, v4, v5] := ⟨h, h2, h3, h4, h5, trivial⟩
theorem ag_six {ta : Nat → Option Nat} {t t2 t3 t4 t5 t6 : tv_T} {v v2 v3 v4 v5 v6 : Value} (h : tv_ok ta t v) (h2 : tv_ok ta t2 v2) (h3 : tv_ok ta t3 v3) (h4 : tv_ok ta t4 v4) (h5 : tv_ok ta t5 v5) (h6 : tv_ok ta t6 v6) : ag_ok ta [t, t2, t3, t4, t5, t6] [v, v2, v3, v4, v5, v6] := ⟨h, h2, h3, h4, h5, h6, trivial⟩
