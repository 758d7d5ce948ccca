/-! layers as a whole -/
def ILX (r : Int) (A il y : Int → Int) : Prop := ILE il y (A r)
def JMX (r it : Int) (A tu il fj : Int → Int) (e m : Int) : Prop := (m = jn r A tu il e ∧ 0 ≤ m ∧ m ≤ 22) ∧ A r ≤ fj e ∧ fj e + m ≤ it ∧ it ≤ 72
theorem jmx_of {r it lm li e m a b ya yb : Int} {A tu il fj la lb : Int → Int} (h : LSA r it lm li A tu il fj la lb) (e0 : 0 ≤ e) (e1 : e < A (r + 1)) (hb : TOO r A tu e b) (hyb : yb = il b) (ha : FRO r A tu e a) (hya : ya = il a) (hm : m = yb - ya - 1) : JMX r it A tu il fj e m := by
  have j := jn_bd h.1.1 e0 e1
  have f := h.2.2.2.2 e e0 e1
  have k := h.2.1
  have e : m = jn r A tu il e := by unfold jn; rw [← hb, ← ha, ← hyb, ← hya]; exact hm
  exact ⟨by omega, by omega, by omega, by omega⟩
theorem ft_in {r e x : Int} {A tu : Int → Int} (h : SG A r) (e0 : 0 ≤ e) (e1 : e < A (r + 1)) (hx : FRO r A tu e x ∨ TOO r A tu e x) : 0 ≤ x ∧ x < A r := by
  have f := ft_bd (tu := tu) h e0 e1
  rcases hx with z | z
  · unfold FRO at z; omega
  · unfold TOO at z; omega
theorem lyp_d {r e a b ya yb : Int} {A tu y : Int → Int} (h : LYP r A tu y) (e0 : 0 ≤ e) (e1 : e < A (r + 1)) (hb : TOO r A tu e b) (hyb : yb = y b) (ha : FRO r A tu e a) (hya : ya = y a) : (0 ≤ ya ∧ ya ≤ 23) ∧ (0 ≤ yb ∧ yb ≤ 23) ∧ ya + 1 ≤ yb := by
  have f := ft_bd (tu := tu) h.1 e0 e1
  have q := h.2.2 e e0 e1
  unfold FRO at ha
  unfold TOO at hb
  rw [← ha, ← hb, ← hya, ← hyb] at q
  have q1 := h.2.1 a (by omega) (by omega)
  have q2 := h.2.1 b (by omega) (by omega)
  omega
def LIE (r it : Int) (A tu il fj : Int → Int) (e x l : Int) : Prop := ∃ il0, LID r it A tu il0 fj e x l ∧ l < il0 (toT r A tu e) ∧ st1 il0 il it l
def LIG (r it : Int) (A tu il fj : Int → Int) (e x l : Int) : Prop := LID r it A tu il fj e x l ∧ il (toT r A tu e) ≤ l
theorem lie_next {r it it' e x x' l l' : Int} {A tu il fj : Int → Int} (h : LIE r it A tu il fj e x l) (hx : x' = it) (hi : it' = it + 1) (hl : l' = l + 1) : LID r it' A tu il fj e x' l' := by
  obtain ⟨il0, h1, h2, h3⟩ := h
  exact lid_step h1 h2 h3 rfl rfl hx hi hl
theorem lig_next {r it e e' x l : Int} {A tu il fj : Int → Int} (h : LIG r it A tu il fj e x l) (he : e' = e + 1) : LIC r it A tu il fj e' := lid_end h.1 h.2 he
