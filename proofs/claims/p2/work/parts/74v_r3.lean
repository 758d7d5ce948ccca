/-! a way turned round, and put into the line -/
def LVW (lv : Int → Int) (k : Int) : Prop := ∀ j, 0 ≤ j → j < k → 0 ≤ lv j ∧ lv j ≤ 23
theorem lvw_start {lv : Int → Int} {k : Int} (hk : k = 0) : LVW lv k := fun j a b => by omega
theorem lvw_step {lv lv' : Int → Int} {k k' p x : Int} (h : LVW lv k) (hs : st1 lv lv' p x) (hp : p = k) (x0 : 0 ≤ x) (x1 : x ≤ 23) (hk : k' = k + 1) : LVW lv' k' := fun j a b => by
  by_cases e : j = k
  · rw [(hs j a).1 (by omega)]; exact ⟨x0, x1⟩
  · rw [(hs j a).2 (by omega)]; exact h j a (by omega)
/-- what is copied: nodes -/
def CPN (d s : Int → Int) (sp dp n : Int) : Prop := ∀ j, 0 ≤ j → j < n → 0 ≤ s (sp + j) ∧ s (sp + j) ≤ 23
def CP0 (d s : Int → Int) (sp dp n : Int) : Prop := n = n
theorem cpn_of {d lv : Int → Int} {sp dp n k : Int} (h : LVW lv k) (hs : sp = 0) (hn : n ≤ k) : CPN d lv sp dp n := fun j a b => by
  have := h (sp + j) (by omega) (by omega); exact this
theorem cpn_le {Dd S : Int → Int} {sp dp n : Int} (_ : 0 ≤ sp) (_ : 0 ≤ dp) (_ : 0 ≤ n) (h : CPN Dd S sp dp n) : ∀ j, 0 ≤ j → j < n → 0 ≤ S (sp + j) ∧ S (sp + j) ≤ 23 := h
theorem cpn_cp0 {Dd S D' S' : Int → Int} {sp dp n : Int} (_ : 0 ≤ sp) (_ : 0 ≤ dp) (_ : 0 ≤ n) (_ : ∀ j, 0 ≤ j → D' j = if dp ≤ j ∧ j < dp + n then S (sp + (j - dp)) else Dd j) (_ : (∀ j, S' j = S j) ∨ ((∀ j, S' j = D' j) ∧ ∀ j, S j = Dd j)) (_ : CPN Dd S sp dp n) : CP0 D' S' sp dp n := rfl
