/-! tables of orders: how many, where they begin -/
def cof (n : Int) : Int := if n ≤ 1 then 1 else if n = 2 then 2 else if n = 3 then 6 else if n = 4 then 24 else if n = 5 then 120 else 720
def sof (n : Int) : Int := if n ≤ 1 then 0 else if n = 2 then 1 else if n = 3 then 3 else if n = 4 then 9 else if n = 5 then 33 else 153
def TBC (i v : Int) : Prop := v = cof i
def TBS (i v : Int) : Prop := v = sof i
theorem cof_rng (n : Int) : 1 ≤ cof n ∧ cof n ≤ 720 ∧ (n ≤ 5 → cof n ≤ 120) ∧ 0 ≤ sof n ∧ sof n + cof n ≤ 873 := by unfold cof sof; split <;> (try split) <;> (try split) <;> (try split) <;> (try split) <;> omega
/-- the digits of an order of so many are below it -/
def ORD (od : Int → Int) : Prop := ∀ n k i, 1 ≤ n → n ≤ 6 → 0 ≤ k → k < cof n → 0 ≤ i → i < n → od (sof n + k) / 8 ^ i.toNat % 8 < n
/-- an order's number is below how many there are -/
def KLT (ls : Int → Int) (l k : Int) : Prop := 0 ≤ k ∧ k < cof (ls (l + 1) - ls l)
theorem dig_shr {p s q d i three sv m : Int} (hs : bvp q = bvp p >>> s.toNat) (h3 : s = i * three) (ht : three = 3) (hd : bvp d = bvp q &&& bvp sv) (hv : sv = 7) (p0 : 0 ≤ p) (p1 : p ≤ 2147483647) (i0 : 0 ≤ i) (i1 : i < 6) (d0 : 0 ≤ d) (d1 : d ≤ 7) (_ : m = m) : d = p / 8 ^ i.toNat % 8 := by
  subst ht
  have tn : ∀ z : Int, 0 ≤ z → z ≤ 2147483647 → (bvp z).toNat = z.toNat := fun z z0 z1 => by
    unfold bvp; rw [BitVec.toNat_ofInt]
    show (z % 4294967296).toNat = z.toNat
    rw [Int.emod_eq_of_lt z0 (by omega)]
  have e1 : (bvp q).toNat = p.toNat / 2 ^ s.toNat := by
    rw [hs, BitVec.toNat_ushiftRight, tn p p0 p1, Nat.shiftRight_eq_div_pow]
  have e2 : (bvp d).toNat = (bvp q).toNat &&& 7 := by
    rw [hd, BitVec.toNat_and, hv]; rfl
  rw [tn d d0 (by omega), e1, show (7 : Nat) = 2 ^ 3 - 1 from rfl, Nat.and_two_pow_sub_one_eq_mod] at e2
  have hp : (2 : Nat) ^ s.toNat = 8 ^ i.toNat := by
    rw [show s.toNat = 3 * i.toNat by omega, Nat.pow_mul]
  rw [hp] at e2
  have : d = ((p.toNat / 8 ^ i.toNat % 2 ^ 3 : Nat) : Int) := by omega
  rw [this]
  push_cast
  rw [show ((p.toNat : Nat) : Int) = p by omega]
theorem ord_dig {od ls : Int → Int} {l k n f x p i d a b : Int} (h : ORD od) (hk : KLT ls l k) (ha : a = ls (l + 1)) (hb : b = ls l) (hn : n = a - b) (n1 : n ≤ 6) (hf : TBS n f) (hx : x = f + k) (hp : p = od x) (i0 : 0 ≤ i) (i1 : i < n) (hd : d = p / 8 ^ i.toNat % 8) : d < n := by
  have e : n = ls (l + 1) - ls l := by omega
  have := h n k i (by omega) n1 hk.1 (by rw [e]; exact hk.2) i0 i1
  rw [hd, hp, hx, hf]; exact this
