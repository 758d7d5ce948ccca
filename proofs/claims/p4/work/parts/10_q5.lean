/-! the class's forces: as the reference's -/
def FZ0 (fx fy : Int → Int) (j : Int) : Prop := FXK fx fy 0 0 j
def FZB (n : Int) (fx fy : Int → Int) (k : Int) : Prop := FXK fx fy k 0 n
def FZM (n : Int) (fx fy : Int → Int) (k j : Int) : Prop := FXK fx fy (k + 1) 0 j ∧ FXK fx fy k j n
theorem fzb_start {n : Int} {fx fy : Int → Int} {k j : Int} (h : FZ0 fx fy j) (hj : n ≤ j) (hk : k = 0) : FZB n fx fy k := fun i a b => by
  have := h i a (by omega)
  omega
theorem fzm_start {n : Int} {fx fy : Int → Int} {k j : Int} (h : FZB n fx fy k) (hj : j = 0) : FZM n fx fy k j := ⟨fun i a b => by omega, fun i a b => h i (by omega) b⟩
theorem fzm_step {n : Int} {fx fy fx' fy' : Int → Int} {k j j' v w p q : Int} (h : FZM n fx fy k j) (k0 : 0 ≤ k) (j0 : 0 ≤ j) (jn : j < n) (hj : j' = j + 1) (h1 : st1 fx fx' p v) (hp : p = j) (h2 : st1 fy fy' q w) (hq : q = j) (v0 : fx j - 256 ≤ v) (v1 : v ≤ fx j + 256) (w0 : fy j - 256 ≤ w) (w1 : w ≤ fy j + 256) : FZM n fx' fy' k j' := by
  refine ⟨fun i a b => ?_, fun i a b => ?_⟩
  · by_cases e : i = j
    · rw [(h1 i a).1 (by omega), (h2 i a).1 (by omega)]
      have q := h.2 j (by omega) jn
      subst e
      omega
    · rw [(h1 i a).2 (by omega), (h2 i a).2 (by omega)]; exact h.1 i a (by omega)
  · rw [(h1 i (by omega)).2 (by omega), (h2 i (by omega)).2 (by omega)]; exact h.2 i (by omega) b
theorem fzb_next {n : Int} {fx fy : Int → Int} {k j k' : Int} (h : FZM n fx fy k j) (hj : n ≤ j) (hk : k' = k + 1) : FZB n fx fy k' := fun i a b => by
  have := h.1 i a (by omega)
  omega
