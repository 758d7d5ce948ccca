/-! tables of orders -/
def PTB (pb pm pp : Int → Int) : Prop := ∀ s, 0 ≤ s → s ≤ 6 → (0 ≤ pb s ∧ 1 ≤ pm s ∧ pm s ≤ 720 ∧ pb s + s * pm s ≤ 6000 ∧ ∀ i, 0 ≤ i → i < s * pm s → (0 ≤ pp (pb s + i) ∧ pp (pb s + i) < s)) ∧ ∀ k i j, 0 ≤ k → k < pm s → 0 ≤ i → i < j → j < s → pp (pb s + s * k + i) ≠ pp (pb s + s * k + j)
def PWX (pp : Int → Int) (s b : Int) : Prop := ∀ j, 0 ≤ j → j < s → (0 ≤ b + j ∧ b + j ≤ 5999) ∧ 0 ≤ pp (b + j) ∧ pp (b + j) < s
theorem pwx_start {pb pm pp : Int → Int} {s k b a p : Int} (h : PTB pb pm pp) (s0 : 0 ≤ s) (s6 : s ≤ 6) (k0 : 0 ≤ k) (k1 : k < pm s) (ha : a = pb s) (hp : p = s * k) (hb : b = a + p) : PWX pp s b := by
  intro j j0 j1
  obtain ⟨⟨h1, h2, _, h3, h4⟩, _⟩ := h s s0 s6
  have e1 : s * (k + 1) ≤ s * pm s := Int.mul_le_mul_of_nonneg_left (by omega) s0
  rw [Int.mul_add, Int.mul_one] at e1
  have e2 := Int.mul_nonneg s0 k0
  have := h4 (s * k + j) (by omega) (by omega)
  rw [show b + j = pb s + (s * k + j) by omega]
  exact ⟨by omega, this⟩
def LSL (m : Int) (ls a b : Int → Int) : Prop := ∀ i, 0 ≤ i → i < m → (0 ≤ ls (a i) ∧ ls (a i) ≤ 5) ∧ 0 ≤ ls (b i) ∧ ls (b i) ≤ 5
