-- dots: all points lie in the rectangle that was measured, so what is scaled is small
def inr (l m v : Int) : Prop := l ≤ v ∧ v ≤ m
/-- nodes up to one -/
def MNA (l m : Int) (x : Int → Int) (i : Int) : Prop := l ≤ m ∧ 1 ≤ i ∧ ∀ j, 0 ≤ j → j < i → inr l m (x j)
def MNAy (l m : Int) (x : Int → Int) (i : Int) : Prop := MNA l m x i
/-- all nodes, the bends of edges up to one, of one up to a bend -/
def MN3 (l m n : Int) (x bn bx : Int → Int) (e k : Int) : Prop := l ≤ m ∧ (0 ≤ e ∧ 1 ≤ k) ∧ (∀ j, 0 ≤ j → j < n → inr l m (x j)) ∧ (∀ f, 0 ≤ f → f < e → ∀ i, 0 ≤ i → i < bn f → inr l m (bx (24 * f + i))) ∧ ∀ i, 0 ≤ i → i < k - 1 → inr l m (bx (24 * e + i))
def MN3y (l m n : Int) (x bn bx : Int → Int) (e k : Int) : Prop := MN3 l m n x bn bx e k
def MN2 (l m n : Int) (x bn bx : Int → Int) (e : Int) : Prop := MN3 l m n x bn bx e 1
def MN2y (l m n : Int) (x bn bx : Int → Int) (e : Int) : Prop := MN2 l m n x bn bx e
def MSX (l m n me : Int) (x bn bx : Int → Int) : Prop := MN2 l m n x bn bx me
def MSY (l m n me : Int) (x bn bx : Int → Int) : Prop := MN2 l m n x bn bx me
theorem inr_mono {l m l' m' v : Int} (h : inr l m v) (hl : l' ≤ l) (hm : m ≤ m') : inr l' m' v := ⟨by have := h.1; omega, by have := h.2; omega⟩
theorem mna_start {l m i a b : Int} {x : Int → Int} (ha : a = x 0) (hb : b = x 0) (hl : l = a) (hm : m = b) (hi : i = 1) : MNA l m x i := ⟨by omega, by omega, fun j a b => by rw [show j = 0 by omega]; exact ⟨by omega, by omega⟩⟩
theorem mna_step {l m l' m' i i' v : Int} {x : Int → Int} (h : MNA l m x i) (hv : v = x i) (h1 : l' ≤ l) (h2 : m ≤ m') (h3 : l' ≤ v) (h4 : v ≤ m') (hi : i' = i + 1) : MNA l' m' x i' := ⟨by omega, by have := h.2.1; omega, fun j a b => by
  by_cases e : j = i
  · rw [e]; exact ⟨by omega, by omega⟩
  · exact inr_mono (h.2.2 j a (by omega)) h1 h2⟩
theorem mn2_start {l m i n e : Int} {x bn bx : Int → Int} (h : MNA l m x i) (hn : n ≤ i) (he : e = 0) : MN2 l m n x bn bx e := ⟨h.1, by omega, fun j a b => h.2.2 j a (by omega), fun f a b => by omega, fun i a b => by omega⟩
theorem mn3_start {l m n e k : Int} {x bn bx : Int → Int} (h : MN2 l m n x bn bx e) (hk : k = 1) : MN3 l m n x bn bx e k := by rw [hk]; exact h
theorem mn3_step {l m l' m' n e k k' v q : Int} {x bn bx : Int → Int} (h : MN3 l m n x bn bx e k) (hv : v = bx q) (hq : q = 24 * e + k - 1) (h1 : l' ≤ l) (h2 : m ≤ m') (h3 : l' ≤ v) (h4 : v ≤ m') (hk : k' = k + 1) : MN3 l' m' n x bn bx e k' := by
  obtain ⟨a, b, c, d, f⟩ := h
  refine ⟨by omega, by omega, fun j j0 j1 => inr_mono (c j j0 j1) h1 h2, fun g g0 g1 i i0 i1 => inr_mono (d g g0 g1 i i0 i1) h1 h2, fun i i0 i1 => ?_⟩
  by_cases z : i = k - 1
  · rw [z, show 24 * e + (k - 1) = q by omega, ← hv]; exact ⟨h3, h4⟩
  · exact inr_mono (f i i0 (by omega)) h1 h2
theorem mn2_next {l m n e e' k : Int} {x bn bx : Int → Int} (h : MN3 l m n x bn bx e k) (hk : bn e < k) (he : e' = e + 1) : MN2 l m n x bn bx e' := by
  obtain ⟨a, b, c, d, f⟩ := h
  refine ⟨a, by omega, c, fun g g0 g1 i i0 i1 => ?_, fun i a b => by omega⟩
  by_cases z : g = e
  · rw [z] at i1 ⊢; exact f i i0 (by omega)
  · exact d g g0 (by omega) i i0 i1
theorem msx_of {l m n me e : Int} {x bn bx : Int → Int} (h : MN2 l m n x bn bx e) (he : e = me) : MSX l m n me x bn bx := by rw [← he]; exact h
/-- what a point of an edge is -/
def PTX (x bn bx tl hd : Int → Int) (e k an : Int) : Prop := (k = 0 ∧ an = x (tl e)) ∨ (k ≠ 0 ∧ k ≤ bn e ∧ an = bx (24 * e + k - 1)) ∨ (k ≠ 0 ∧ bn e < k ∧ an = x (hd e))
def PTY (x bn bx tl hd : Int → Int) (e k an : Int) : Prop := PTX x bn bx tl hd e k an
theorem ptx_in {l m n me e k an : Int} {x bn bx tl hd : Int → Int} (h : MSX l m n me x bn bx) (hk : GKE n me tl hd) (hp : PTX x bn bx tl hd e k an) (e0 : 0 ≤ e) (e1 : e < me) (k0 : 0 ≤ k) : l ≤ an ∧ an ≤ m := by
  obtain ⟨a, b, c, d, f⟩ := h
  have q := hk e e0 e1
  rcases hp with ⟨_, p⟩ | ⟨p0, p1, p⟩ | ⟨_, _, p⟩
  · rw [p]; exact c _ q.1 q.2.1
  · rw [p, show 24 * e + k - 1 = 24 * e + (k - 1) by omega]; exact d e e0 e1 (k - 1) (by omega) (by omega)
  · rw [p]; exact c _ q.2.2.1 q.2.2.2.1
/-- scaled -/
theorem scl_bd {D W M mm z q : Int} (d0 : 0 ≤ D) (d1 : D ≤ M) (w0 : -1 ≤ W) (w1 : W ≤ 63) (hm : M ≤ mm) (m1 : 1 ≤ mm) (hz : ∃ c : Int, z = D * W + 4294967296 * c) (z0 : -2147483648 ≤ z) (z1 : z ≤ 2147483647) (hq : q = z.tdiv mm) : -63 ≤ q ∧ q ≤ 63 := by
  have dw : -(63 * mm) ≤ D * W ∧ D * W ≤ 63 * mm := by
    have a1 : D * W ≤ D * 63 := Int.mul_le_mul_of_nonneg_left w1 d0
    have a2 : D * (-1) ≤ D * W := Int.mul_le_mul_of_nonneg_left w0 d0
    omega
  have zb : -(63 * mm) ≤ z ∧ z ≤ 63 * mm := by
    obtain ⟨c, hc⟩ := hz
    by_cases h : c = 0
    · rw [h] at hc; omega
    · omega
  have key : ∀ y : Int, 0 ≤ y → y ≤ 63 * mm → 0 ≤ y.tdiv mm ∧ y.tdiv mm ≤ 63 := fun y y0 y1 => by
    rw [Int.tdiv_eq_ediv_of_nonneg y0]
    refine ⟨Int.ediv_nonneg y0 (by omega), ?_⟩
    have := Int.ediv_mul_le y (show mm ≠ 0 by omega)
    exact Int.le_of_mul_le_mul_right (a := mm) (by omega) (by omega)
  by_cases h : 0 ≤ z
  · have := key z h zb.2
    omega
  · have := key (-z) (by omega) (by omega)
    have e : z.tdiv mm = -((-z).tdiv mm) := by rw [Int.neg_tdiv, Int.neg_neg]
    omega
theorem bvm {z a b : Int} (h : bvp z = bvp a * bvp b) : ∃ c : Int, z = a * b + 4294967296 * c := by
  have e : BitVec.ofInt 32 z = BitVec.ofInt 32 (a * b) := by rw [BitVec.ofInt_mul]; exact h
  have n := congrArg BitVec.toNat e
  rw [BitVec.toNat_ofInt, BitVec.toNat_ofInt] at n
  have p : ((2 ^ 32 : Nat) : Int) = 4294967296 := by decide
  rw [p] at n
  generalize a * b = t at n ⊢
  have h1 := Int.emod_nonneg z (show (4294967296 : Int) ≠ 0 by omega)
  have h2 := Int.emod_nonneg t (show (4294967296 : Int) ≠ 0 by omega)
  exact ⟨z / 4294967296 - t / 4294967296, by omega⟩
theorem scl_of {px l m D W M mm z q : Int} (h1 : l ≤ px) (h2 : px ≤ m) (hD : D = px - l) (hM : M = m - l) (w0 : -1 ≤ W) (w1 : W ≤ 63) (hm : M ≤ mm) (m1 : 1 ≤ mm) (hz : bvp z = bvp D * bvp W) (z0 : -2147483648 ≤ z) (z1 : z ≤ 2147483647) (hq : q = z.tdiv mm) : -63 ≤ q ∧ q ≤ 63 := scl_bd (by omega) (by omega) w0 w1 hm m1 (bvm hz) z0 z1 hq
/-- the same, the rectangle told by its numbers, and the next point -/
def MNB (x : Int → Int) (l m i v : Int) : Prop := MNA l m x i ∧ v = x i
def MNBy (x : Int → Int) (l m i v : Int) : Prop := MNA l m x i ∧ v = x i
def MN4 (n : Int) (x bn bx : Int → Int) (l m e k v : Int) : Prop := MN3 l m n x bn bx e k ∧ v = bx (24 * e + k - 1)
def MN4y (n : Int) (x bn bx : Int → Int) (l m e k v : Int) : Prop := MN3 l m n x bn bx e k ∧ v = bx (24 * e + k - 1)
theorem ptx_bend {x bn bx tl hd : Int → Int} {e k an : Int} (h : PTX x bn bx tl hd e k an) (k1 : 1 ≤ k) (hk : k ≤ bn e) : an = bx (24 * e + k - 1) := by
  rcases h with ⟨p, _⟩ | ⟨_, _, p⟩ | ⟨_, p, _⟩
  · omega
  · exact p
  · omega
