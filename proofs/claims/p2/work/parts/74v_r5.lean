/-! faces left and right of an edge -/
def FGE (en : Int) (fo : Int → Int) : Prop := 1 ≤ en ∧ ∀ d, 0 ≤ d → d < 2 * en → 0 ≤ fo d
def LFA (fo : Int → Int) (e an : Int) : Prop := an = fo (2 * e) ∨ an = fo (2 * e + 1)
theorem fge_lfa {en e an : Int} {fo : Int → Int} (h : FGE en fo) (hl : LFA fo e an) (e0 : 0 ≤ e) (e1 : e < en) : 0 ≤ an := by
  rcases hl with q | q
  · rw [q]; exact h.2 _ (by omega) (by omega)
  · rw [q]; exact h.2 _ (by omega) (by omega)
theorem lfa_0 {fo : Int → Int} {e an d : Int} (h : an = fo d) (hd : d = 2 * e) : LFA fo e an := Or.inl (by rw [h, hd])
theorem lfa_1 {fo : Int → Int} {e an d : Int} (h : an = fo d) (hd : d = 2 * e + 1) : LFA fo e an := Or.inr (by rw [h, hd])
