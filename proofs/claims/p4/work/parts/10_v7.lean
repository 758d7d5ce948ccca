-- heights of a drawing of the house; the class's grid
def DYB (y : Int → Int) (n : Int) : Prop := ∀ v, 0 ≤ v → v < 24 → -1000000 ≤ y v ∧ y v ≤ 70000000 + 200000 * n
def DYG (y : Int → Int) (n g i : Int) : Prop := DYB y n ∧ ∀ v, 0 ≤ v → v < i → y v ≤ g
def DYI (m : Int) (y : Int → Int) (g i : Int) : Prop := ∀ v, i ≤ v → 0 ≤ v → v < m → v < 24 → -1000000 ≤ y v ∧ y v ≤ g
theorem dyg_step {y : Int → Int} {n g g' i i' v : Int} (h : DYG y n g i) (hi : i' = i + 1) (hv : v = y i) (g1 : g ≤ g') (g2 : v ≤ g') : DYG y n g' i' := ⟨h.1, fun j a b => by
  by_cases e : j = i
  · rw [e, ← hv]; exact g2
  · have := h.2 j a (by omega); omega⟩
theorem dyi_of {y : Int → Int} {n g i k m : Int} (h : DYG y n g i) (hi : m ≤ i) : DYI m y g k := fun v _ a b c => ⟨(h.1 v a c).1, h.2 v a (by omega)⟩
theorem dyi_step {y y' : Int → Int} {g i i' m s v : Int} (h : DYI m y g i) (hi : i' = i + 1) (hs : st1 y y' s v) (hss : s = i) : DYI m y' g i' := fun j a b c d => by
  rw [(hs j b).2 (by omega)]; exact h j (by omega) b c d
