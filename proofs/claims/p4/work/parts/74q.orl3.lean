/-! masks of bytes -/
theorem and255_all : ∀ i : Fin 256, bv ((i.val : Int) - 128) &&& bv 255 = bv (((i.val : Int) - 128) % 256) := by decide +kernel
theorem bv_inj255 {x y : Int} (h : bv x = bv y) (hx : 0 ≤ x ∧ x ≤ 255) (hy : 0 ≤ y ∧ y ≤ 255) : x = y := by
  have h1 : (bv x).toNat = (bv y).toNat := by rw [h]
  unfold bv at h1
  rw [BitVec.toNat_ofInt, BitVec.toNat_ofInt] at h1
  have e : ((2 ^ 32 : Nat) : Int) = 4294967296 := by decide
  rw [e] at h1
  omega
theorem and255 {n a b : Int} (h : bv n = bv a &&& bv b) (hn : 0 ≤ n ∧ n ≤ 255) (ha : -128 ≤ a ∧ a ≤ 127) (hb : 255 ≤ b ∧ b ≤ 255) : n = a % 256 := by
  have e : b = 255 := by omega
  rw [e] at h
  have k := and255_all ⟨(a + 128).toNat, by omega⟩
  simp only at k
  rw [show (((a + 128).toNat : Nat) : Int) - 128 = a from by omega] at k
  rw [k] at h
  exact bv_inj255 h hn (by omega)
