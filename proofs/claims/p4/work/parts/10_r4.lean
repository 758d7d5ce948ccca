/-! the bars' order -/
def SYG (n : Int) (nr : Int → Int) : Prop := SYMN nr n
def ALB (n al : Int) : Prop := ∀ w, 0 ≤ w → w < 32 → bit al w → w < n
theorem alb_of {n p al one two : Int} (hp : bvp p = bvp one <<< n.toNat) (h1 : one = 1) (hm : al = p - two) (h2 : two = 1) (n0 : 0 ≤ n) (n1 : n ≤ 24) (p0 : -2147483648 ≤ p) (p1 : p ≤ 2147483647) : ALB n al := by
  have hx : (bvp p).toInt = p := by unfold bvp; rw [BitVec.toInt_ofInt]; unfold Int.bmod; simp only; split <;> omega
  have ep : p = (2 : Int) ^ n.toNat := by
    have : ∀ k : Nat, k < 25 → (bvp 1 <<< k).toInt = (2 : Int) ^ k := by decide +kernel
    rw [← hx, hp, h1]; exact this n.toNat (by omega)
  intro w w0 w1 z
  have e : al = (2 : Int) ^ n.toNat - 1 := by omega
  have : ∀ k : Nat, k < 25 → ∀ j : Nat, j < 32 → ((bvp ((2 : Int) ^ k - 1)).getLsbD j = true ↔ j < k) := by decide +kernel
  have q := this n.toNat (by omega) w.toNat (by omega)
  unfold bit at z
  rw [e, q] at z; omega
theorem frn_of {n al r fr : Int} (h : ALB n al) (hf : bvp fr = bvp al &&& bvp r) : FRN n fr := fun w a b z => h w a b ((bit_and hf w).mp z).1
