/-! a piece's way in the class's embedder -/
def SYE (n : Int) (nr : Int → Int) : Prop := SYMN nr n
def FRE (pn n : Int) : Prop := FRN n pn
def PEN (pn pe : Int) : Prop := (∃ u, 0 ≤ u ∧ u < 32 ∧ bit pe u) ∧ (pn = 0 → ∃ u v, 0 ≤ u ∧ u < 32 ∧ 0 ≤ v ∧ v < 32 ∧ u ≠ v ∧ bit pe u ∧ bit pe v)
theorem pen_low {pn pe an : Int} (h : PEN pn pe) (hL : LOW pe an) (p0 : 0 ≤ pe) (p1 : pe ≤ 33554431) : 0 ≤ an ∧ an < 25 ∧ bit pe an := by
  obtain ⟨u, u0, u1, u2⟩ := h.1
  have : pe ≠ 0 := fun e => absurd (e ▸ u2) (bit_zero u)
  exact hL (by omega) (by omega)
theorem pen_two {pn pe an q r ot x one m1 : Int} (h : PEN pn pe) (hn : pn = 0) (a0 : 0 ≤ an) (hq : bvp q = bvp one <<< an.toNat) (h1 : one = 1) (hr : bvp r = bvp q ^^^ bvp m1) (hm : m1 = -1) (ho : bvp ot = bvp pe &&& bvp r) (o0 : 0 ≤ ot) (o1 : ot ≤ 33554431) (hL : LOW ot x) : 0 ≤ x ∧ x < 25 := by
  obtain ⟨u, v, u0, u1, v0, v1, uv, bu, bv⟩ := h.2 hn
  have key : ∀ w, 0 ≤ w → w < 32 → bit pe w → w ≠ an → ot ≠ 0 := fun w w0 w1 bw wa e => by
    have : bit ot w := by
      rw [bit_and ho, bit_xor hr hm w0 w1, bit_shl hq h1 a0 w0 w1]; exact ⟨bw, wa⟩
    exact absurd (e ▸ this) (bit_zero w)
  have : ot ≠ 0 := by
    by_cases e : u = an
    · exact key v v0 v1 bv (fun z => uv (e.trans z.symm))
    · exact key u u0 u1 bu e
  have q := hL (by omega) (by omega)
  exact ⟨q.1, q.2.1⟩
