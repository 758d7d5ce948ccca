/-! two values named at once -/
theorem n_v_new0 {vs t : List Value} {v : Value} {n : Nat} (h : vs.length = n) : n_v (vs ++ v :: t) n = v := by
  unfold n_v
  rw [List.getElem?_append_right (by omega), h, Nat.sub_self]; rfl
theorem n_v_new1 {vs t : List Value} {v u : Value} {n : Nat} (h : vs.length = n) : n_v (vs ++ v :: u :: t) (n + 1) = u := by
  unfold n_v
  rw [List.getElem?_append_right (by omega), h, show n + 1 - n = 1 from by omega]; rfl
theorem ag_two {ta : Nat → Option Nat} {t t2 : tv_T} {v v2 : Value} (h : tv_ok ta t v) (h2 : tv_ok ta t2 v2) : ag_ok ta [t, t2] [v, v2] := ⟨h, h2, trivial⟩
/-! points of a rectangle -/
theorem grid_lt {x y w h : Int} (hx0 : 0 ≤ x) (hx : x < w) (hy : y < h) : y * w + x < w * h := by
  have h1 := Int.mul_le_mul_of_nonneg_right (show y + 1 ≤ h from by omega) (show 0 ≤ w from by omega)
  rw [Int.add_mul, Int.one_mul, Int.mul_comm h w] at h1
  omega
theorem grid_row {p w h : Int} (hp0 : 0 ≤ p) (hw : 0 < w) (hp : p < w * h) : 0 ≤ p / w ∧ p / w < h := by
  refine ⟨Int.ediv_nonneg hp0 (by omega), ?_⟩
  exact Int.ediv_lt_of_lt_mul hw (by rw [Int.mul_comm]; exact hp)
theorem grid_right {p w h : Int} (hp0 : 0 ≤ p) (hp : p < w * h) (hc : p % w + 1 < w) (hw : 0 < w) : p + 1 < w * h := by
  have h1 := Int.mul_ediv_add_emod p w
  have h2 := (grid_row hp0 hw hp).2
  have h3 := grid_lt (x := p % w + 1) (y := p / w) (w := w) (h := h) (by have := Int.emod_nonneg p (show w ≠ 0 from by omega); omega) hc h2
  rw [Int.mul_comm] at h1
  omega
