/-! route: the rectangle -/
def RTB (l t g : Int) (X Y : Int → Int) (a b k : Int) : Prop := ∀ v, 0 ≤ v → v < k → l + 3 ≤ X (24 * g + v) ∧ X (24 * g + v) + 3 ≤ a ∧ t + 3 ≤ Y (24 * g + v) ∧ Y (24 * g + v) + 3 ≤ b
theorem rtb_step {l t g l' t' a b a' b' k k' x y w : Int} {X Y : Int → Int} (h : RTB l t g X Y a b k) (hk : k' = k + 1) (w3 : 3 ≤ w) (hx : x = X (24 * g + k)) (hy : y = Y (24 * g + k)) (l1 : l' ≤ l) (l2 : l' ≤ x - w) (t1 : t' ≤ t) (t2 : t' ≤ y - 3) (a1 : a ≤ a') (a2 : x + w ≤ a') (b1 : b ≤ b') (b2 : y + 3 ≤ b') : RTB l' t' g X Y a' b' k' := by
  intro v v0 v1
  by_cases q : v = k
  · rw [q, ← hx, ← hy]; omega
  · have := h v v0 (by omega); omega
theorem grid_cell {l t w h a b x y c : Int} (hw : w = a - l + 1) (hh : h = b - t + 1) (x1 : l + 3 ≤ x) (x2 : x + 3 ≤ a) (y1 : t + 3 ≤ y) (y2 : y + 3 ≤ b) (hc : c = (y - t) * w + x - l) : 1 ≤ w ∧ 1 ≤ h ∧ 0 ≤ c ∧ c < w * h := by
  refine ⟨by omega, by omega, ?_, ?_⟩
  · have := Int.mul_nonneg (show 0 ≤ y - t by omega) (show 0 ≤ w by omega); omega
  · have h1 : (y - t + 1) * w ≤ h * w := Int.mul_le_mul_of_nonneg_right (by omega) (by omega)
    rw [Int.add_mul, Int.one_mul] at h1
    rw [Int.mul_comm w h]; omega
def RTW (r l t g w h : Int) (A X Y : Int → Int) : Prop := (1 ≤ w ∧ 1 ≤ h ∧ w * h ≤ 6000) ∧ ∀ v, 0 ≤ v → v < A r → (l + 3 ≤ X (24 * g + v) ∧ X (24 * g + v) + 3 ≤ l + w - 1) ∧ t + 3 ≤ Y (24 * g + v) ∧ Y (24 * g + v) + 3 ≤ t + h - 1
theorem rtw_start {r l t g w h a b k p x y : Int} {A X Y : Int → Int} (hB : RTB l t g X Y a b k) (hk : A r ≤ k) (hg : SG A r) (he : 1 ≤ A (r + 1)) (hw : w = a - l + 1) (hh : h = b - t + 1) (hx : x = w) (hy : y = h) (hp : p = x * y) (h6 : p ≤ 6000) : RTW r l t g w h A X Y := by
  have h0 := hg.2.1 0 (by omega) (by omega)
  have h1 := hB _ h0.1 (by have := h0.2.1; omega)
  rw [hx, hy] at hp
  exact ⟨⟨by omega, by omega, by omega⟩, fun v a b => by have := hB v a (by omega); omega⟩
theorem rtw_cell {r l t g w h e v x y d p s q c : Int} {A X Y : Int → Int} (hR : RTW r l t g w h A X Y) (v0 : 0 ≤ v) (v1 : v < A r) (hx : x = X (24 * g + v)) (hy : y = Y (24 * g + v)) (hd : d = y - t) (he : e = w) (hp : p = d * e) (hs : s = p + x) (hc : c = s - l) : 0 ≤ c ∧ c ≤ 5999 := by
  have h1 := hR.2 v v0 v1
  rw [← hx, ← hy] at h1
  have := grid_cell (l := l) (t := t) (w := w) (h := h) (a := l + w - 1) (b := t + h - 1) (x := x) (y := y) (c := (y - t) * w + x - l) (by omega) (by omega) h1.1.1 h1.1.2 h1.2.1 h1.2.2 rfl
  have h6 := hR.1.2.2
  rw [hd, he] at hp
  omega
