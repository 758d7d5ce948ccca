/-! forces: the places stay near, so squares of distances do not wrap and are not 0 -/
def FXK (fx fy : Int → Int) (k a b : Int) : Prop := ∀ i, a ≤ i → i < b → (-(4096 + 256 * k) ≤ fx i ∧ fx i ≤ 4096 + 256 * k) ∧ (-(4096 + 256 * k) ≤ fy i ∧ fy i ≤ 4096 + 256 * k)
def FX0 (fx fy : Int → Int) (j : Int) : Prop := FXK fx fy 0 0 j
def FXB (fx fy : Int → Int) (n k : Int) : Prop := FXK fx fy k 0 n
def FXM (fx fy : Int → Int) (n k j : Int) : Prop := FXK fx fy (k + 1) 0 j ∧ FXK fx fy k j n
theorem fx0_start {fx fy : Int → Int} {j : Int} (h : j = 0) : FX0 fx fy j := fun i a b => by omega
theorem fx0_step {fx fy fx' fy' : Int → Int} {j j' v w p q : Int} (h : FX0 fx fy j) (j0 : 0 ≤ j) (hj : j' = j + 1) (h1 : st1 fx fx' p v) (hp : p = j) (h2 : st1 fy fy' q w) (hq : q = j) (v0 : 0 ≤ v) (v1 : v ≤ 4096) (w0 : 0 ≤ w) (w1 : w ≤ 4096) : FX0 fx' fy' j' := by
  intro i a b
  by_cases e : i = j
  · rw [(h1 i a).1 (by omega), (h2 i a).1 (by omega)]; omega
  · rw [(h1 i a).2 (by omega), (h2 i a).2 (by omega)]; exact h i a (by omega)
theorem fxb_start {fx fy : Int → Int} {j n k : Int} (h : FX0 fx fy j) (hn : n ≤ j) (hk : k = 0) : FXB fx fy n k := fun i a b => by
  have := h i a (by omega)
  omega
theorem fxm_start {fx fy : Int → Int} {n k j : Int} (h : FXB fx fy n k) (hj : j = 0) : FXM fx fy n k j := ⟨fun i a b => by omega, fun i a b => h i (by omega) b⟩
theorem fxm_step {fx fy fx' fy' : Int → Int} {n k j j' v w p q d f x y : Int} (h : FXM fx fy n k j) (j0 : 0 ≤ j) (jn : j < n) (hj : j' = j + 1) (h1 : st1 fx fx' p v) (hp : p = j) (h2 : st1 fy fy' q w) (hq : q = j) (hx : x = fx j) (hy : y = fy j) (hv : v = x + d) (hw : w = y + f) (d0 : -256 ≤ d) (d1 : d ≤ 256) (f0 : -256 ≤ f) (f1 : f ≤ 256) : FXM fx' fy' n k j' := by
  refine ⟨fun i a b => ?_, fun i a b => ?_⟩
  · by_cases e : i = j
    · rw [(h1 i a).1 (by omega), (h2 i a).1 (by omega)]
      have q := h.2 j (by omega) jn
      omega
    · rw [(h1 i a).2 (by omega), (h2 i a).2 (by omega)]; exact h.1 i a (by omega)
  · rw [(h1 i (by omega)).2 (by omega), (h2 i (by omega)).2 (by omega)]; exact h.2 i (by omega) b
theorem fxb_next {fx fy : Int → Int} {n k j k' : Int} (h : FXM fx fy n k j) (hj : n ≤ j) (hk : k' = k + 1) : FXB fx fy n k' := fun i a b => by
  have := h.1 i a (by omega)
  omega
def FXD (fx fy : Int → Int) (n : Int) : Prop := ∀ i, 0 ≤ i → i < n → (-60000 ≤ fx i ∧ fx i ≤ 60000) ∧ (-60000 ≤ fy i ∧ fy i ≤ 60000)
theorem fxd_of {fx fy : Int → Int} {n k : Int} (h : FXB fx fy n k) (k1 : k ≤ 200) : FXD fx fy n := fun i a b => by
  have := h i a b
  omega
theorem sq_pos2 {x y a b s : Int} (ha : a = x * x) (hb : b = y * y) (hs : s = a + b) (h : x ≠ 0 ∨ y ≠ 0) (a1 : a ≤ 14400000000) (b1 : b ≤ 14400000000) : 1 ≤ s ∧ s ≤ 28800000000 := by
  have p : ∀ z : Int, 0 ≤ z * z := fun z => by
    rcases Int.le_total 0 z with q | q
    · exact Int.mul_nonneg q q
    · exact Int.mul_nonneg_of_nonpos_of_nonpos q q
  have p' : ∀ z : Int, z ≠ 0 → z * z ≠ 0 := fun z hz e => by
    rcases Int.mul_eq_zero.mp e with q | q <;> exact hz q
  have px := p x
  have py := p y
  rcases h with h | h
  · have := p' x h; omega
  · have := p' y h; omega
