/-! layers of at most six items -/
def LS6 (lc : Int) (ls : Int → Int) : Prop := ∀ m, 0 ≤ m → m < lc → 0 ≤ ls m ∧ ls m ≤ ls (m + 1) ∧ ls (m + 1) - ls m ≤ 6 ∧ ls (m + 1) ≤ 72
theorem ls6_of {lc wd : Int} {ls : Int → Int} (h : LST lc ls wd) (hw : wd ≤ 6) : LS6 lc ls := fun m a b => by
  obtain ⟨q1, q2, q3, q4⟩ := h m a b
  exact ⟨q1, q2, by omega, q4⟩
theorem ls6_size {lc l a b c d : Int} {ls : Int → Int} (h : LS6 lc ls) (l0 : 0 ≤ l) (l1 : l + 1 ≤ lc) (ha : a = ls d) (hd : d = l + 1) (hb : b = ls l) (hc : c = a - b) : 0 ≤ c ∧ c ≤ 6 := by
  obtain ⟨q1, q2, q3, q4⟩ := h l l0 (by omega)
  rw [hc, ha, hb, hd]; omega
