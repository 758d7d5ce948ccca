/-! longs and divisions -/
theorem tv_inL {ta : Nat → Option Nat} {lo hi lo' hi' : Int} {rs rs' : List Nat} {v : Value} (h : tv_ok ta (1, lo, hi, rs) v) (h1 : lo' ≤ v_iv v) (h2 : v_iv v ≤ hi') : tv_ok ta (1, lo', hi', rs') v := by
  obtain ⟨x, rfl, _, _⟩ := tv_long h rfl
  exact Or.inr (Or.inl ⟨rfl, x, rfl, h1, h2⟩)
theorem dv_c {q a b : Int} (h : q = a.tdiv b) (ha : 0 ≤ a) (hb : 1 ≤ b) : b * q ≤ a ∧ a < b * q + b := by
  rw [Int.tdiv_eq_ediv_of_nonneg ha] at h
  subst h
  have h1 := Int.mul_ediv_add_emod a b
  have h2 := Int.emod_nonneg a (show b ≠ 0 from by omega)
  have h3 := Int.emod_lt_of_pos a (show 0 < b from by omega)
  omega
theorem dv_ten {q a b : Int} (h : q = a.tdiv b) (ha : 0 ≤ a) (hb : 1 ≤ b) : 10 ≤ q → 10 * b ≤ a := by
  intro hq
  have h1 := (dv_c h ha hb).1
  have h2 := Int.mul_le_mul_of_nonneg_left hq (show 0 ≤ b from by omega)
  rw [Int.mul_comm b 10] at h2
  omega
/-! groups lie inside lower ones: the last eight places of a row -/
theorem pl_g8 {k : Int} (h1 : 1 ≤ k) (h7 : k ≤ 7) : (pl_L 1)[(531 + k).toNat]? = some (0, -1, k - 1, []) := by
  rcases (show k = 1 ∨ k = 2 ∨ k = 3 ∨ k = 4 ∨ k = 5 ∨ k = 6 ∨ k = 7 from by omega) with rfl | rfl | rfl | rfl | rfl | rfl | rfl <;> decide +kernel
theorem pl_gin {j : Nat} {x k : Int} (h : pl_ok 1 j x) (h1 : 1 ≤ k) (h7 : k ≤ 7) (hj : ((j % 539 : Nat) : Int) = 531 + k) : x ≤ k - 1 := by
  have e : j % (pl_L 1).length = (531 + k).toNat := by rw [pl_M1]; omega
  have h2 := h (0, -1, k - 1, []) (by rw [e]; exact pl_g8 h1 h7)
  exact h2.2
theorem pl_ginS {j : Nat} {x k : Int} (h1 : 1 ≤ k) (h7 : k ≤ 7) (hj : ((j % 539 : Nat) : Int) = 531 + k) (hx : -1 ≤ x) (hk : x ≤ k - 1) : pl_ok 1 j x := by
  intro t ht
  have e : j % (pl_L 1).length = (531 + k).toNat := by rw [pl_M1]; omega
  rw [e, pl_g8 h1 h7] at ht
  cases ht
  exact ⟨hx, hk⟩
theorem em_of {b q r M : Int} (h : b = M * q + r) (h0 : 0 ≤ r) (h1 : r < M) (hb : 0 ≤ b) : b % M = r := by
  subst h
  rw [Int.add_comm, Int.add_mul_emod_self_left]
  exact Int.emod_eq_of_lt h0 h1
/-! steps on a rectangle of points -/
theorem grid_bd {w h : Int} (hw : 1 ≤ w) (hh : 1 ≤ h) (hp : w * h ≤ 6000) : w ≤ 6000 ∧ h ≤ 6000 := by
  have h1 := Int.mul_le_mul_of_nonneg_left hh (show 0 ≤ w from by omega)
  have h2 := Int.mul_le_mul_of_nonneg_right hw (show 0 ≤ h from by omega)
  rw [Int.mul_one] at h1
  rw [Int.one_mul] at h2
  omega
theorem nx_right {c p w W h : Int} (hc : c = p.tmod w) (hW : W = w) (hp0 : 0 ≤ p) (hw : 1 ≤ w) (hlt : c + 1 < w) (hp : p + 1 ≤ W * h) : p + 2 ≤ W * h := by
  subst hW
  rw [Int.tmod_eq_emod_of_nonneg hp0] at hc
  have := grid_right hp0 (show p < W * h from by omega) (by omega) (by omega)
  omega
/-- one byte of a text that never changes -/
theorem cl_tbyte1 {l : Launch} {D : va_G} {kA : Nat → ClassId} {G : List rg_T} {own : String} {i n k : Nat} {lo hi : Int} (hg : G[5200 + i]? = none) (hi' : i < ro_N) (hn : (ro_txt.getD i []).length = n) (hk : k < n) (hb : (decide (lo ≤ ((ro_txt.getD i []).getD k 0).toInt) && decide (((ro_txt.getD i []).getD k 0).toInt ≤ hi)) = true) : cl_ok l D kA G own .baload 1 (en_ro [(2, 0, 0, [5200 + i]), (0, (k : Int), (k : Int), [])] (0, lo, hi, [])) := by
  refine cl_look (fun p e R s m args below meth c H locs cells slots Q cc pc nL ret nm A ws ta ls av rest X hN hS hth hag hdec kk => ?_)
  match av, hag with
  | [v0, v1], ⟨h0, h1, _⟩ =>
    rw [ro_is hth hg h0]
    obtain ⟨x, rfl, x1, x2⟩ := tv_int h1 rfl
    have y1 : (k : Int) ≤ x.toInt := x1
    have y2 : x.toInt ≤ (k : Int) := x2
    have hx : 0 ≤ x.toInt := by omega
    obtain ⟨z1, z2, z3⟩ := in_nat (x := x) (n := n) hx (by omega)
    have hT := (hN.2.2.1 i hi').2.2.2
    rw [hn] at hT
    refine va_tb X.1 X.2.1 hT hS z1 rfl hdec (kk _ (Or.inl ⟨rfl, _, rfl, ?_⟩))
    rw [z2, show x.toInt.toNat = k by omega]
    simp only [Bool.and_eq_true, decide_eq_true_eq] at hb
    exact hb
