/-! sets of nodes as bits -/
def bvp (x : Int) : BitVec 32 := BitVec.ofInt 32 x
def bit (x i : Int) : Prop := (bvp x).getLsbD i.toNat = true
theorem bit_or {n a b : Int} (h : bvp n = bvp a ||| bvp b) (i : Int) : bit n i ↔ bit a i ∨ bit b i := by
  unfold bit; rw [h, BitVec.getLsbD_or]; simp
theorem bit_and {n a b : Int} (h : bvp n = bvp a &&& bvp b) (i : Int) : bit n i ↔ bit a i ∧ bit b i := by
  unfold bit; rw [h, BitVec.getLsbD_and]; simp
theorem bit_shl {n a b : Int} (h : bvp n = bvp a <<< b.toNat) (ha : a = 1) {i : Int} (hb : 0 ≤ b) (hi : 0 ≤ i) (hi2 : i < 32) : bit n i ↔ i = b := by
  unfold bit
  rw [h, BitVec.getLsbD_shiftLeft, ha]
  have e1 : ∀ k : Nat, (bvp 1).getLsbD k = decide (k = 0) := by
    intro k
    have : bvp 1 = 1#32 := by decide
    rw [this, BitVec.getLsbD_one]; simp
  rw [e1]
  simp only [Bool.and_eq_true, decide_eq_true_eq, Bool.not_eq_true', decide_eq_false_iff_not]
  omega
theorem bit_shr {n a b : Int} (h : bvp n = bvp a >>> b.toNat) (hb : 0 ≤ b) : bit n 0 ↔ bit a b := by
  unfold bit
  rw [h, BitVec.getLsbD_ushiftRight]
  simp
theorem bit_01 {x : Int} (h0 : 0 ≤ x) (h1 : x ≤ 1) : bit x 0 ↔ x = 1 := by
  unfold bit
  have : x = 0 ∨ x = 1 := by omega
  rcases this with rfl | rfl
  · exact ⟨fun z => absurd z (by decide), fun z => absurd z (by decide)⟩
  · exact ⟨fun _ => rfl, fun _ => by decide⟩
theorem bit_zero (i : Int) : ¬ bit 0 i := by
  unfold bit
  have : bvp 0 = 0#32 := by decide
  rw [this]; simp
theorem bit_m1 {i : Int} (h : 0 ≤ i) (h2 : i < 32) : bit (-1) i := by
  unfold bit
  have : bvp (-1) = BitVec.allOnes 32 := by decide
  rw [this, BitVec.getLsbD_allOnes]; simp; omega
theorem bit_xor {n a b : Int} (h : bvp n = bvp a ^^^ bvp b) (hb : b = -1) {i : Int} (hi : 0 ≤ i) (hi2 : i < 32) : bit n i ↔ ¬ bit a i := by
  have hm := bit_m1 hi hi2
  unfold bit at *
  rw [h, BitVec.getLsbD_xor, hb, hm]
  cases (bvp a).getLsbD i.toNat <;> simp
theorem bit_none {x : Int} (h : ∀ i, 0 ≤ i → i < 32 → ¬ bit x i) (h0 : -2147483648 ≤ x) (h1 : x ≤ 2147483647) : x = 0 := by
  have e : bvp x = 0#32 := by
    apply BitVec.eq_of_getLsbD_eq
    intro i hi
    have := h i (by omega) (by omega)
    unfold bit at this
    rw [show ((i : Nat) : Int).toNat = i by omega] at this
    simp at this; rw [this]; simp
  have : (bvp x).toInt = 0 := by rw [e]; decide
  unfold bvp at this
  rw [BitVec.toInt_ofInt, Int.bmod_eq_of_le (by omega) (by omega)] at this
  exact this
def EN0 (ends : Int → Int) (i : Int) : Prop := ∀ p, 0 ≤ p → p < i → ends p = 0
def ENS (m : Int) (pt ph dE dn po ends : Int → Int) (e : Int) : Prop := ∀ p i, 0 ≤ p → p < m → 0 ≤ i → i < 32 → (bit (ends p) i ↔ ∃ f, 0 ≤ f ∧ f < e ∧ dE f = 0 ∧ po f = p ∧ (pt f = i ∨ ph f = i) ∧ dn i ≠ 0)
def END (m : Int) (pt ph dE dn po ends : Int → Int) : Prop := ENS m pt ph dE dn po ends m
def FCN (fm face fn : Int → Int) (f : Int) : Prop := ∀ g i, 0 ≤ g → g < f → 0 ≤ i → i < 32 → (bit (fn g) i ↔ ∃ k, 0 ≤ k ∧ k < fm g ∧ face (60 * g + k) = i)
def FCK (face fn : Int → Int) (f k : Int) : Prop := ∀ i, 0 ≤ i → i < 32 → (bit (fn f) i ↔ ∃ j, 0 ≤ j ∧ j < k ∧ face (60 * f + j) = i)
def FCF (faces : Int) (fm face fn : Int → Int) : Prop := FCN fm face fn faces
def ISE (ends : Int → Int) (p i r : Int) : Prop := r ≠ 0 ↔ bit (ends p) i
def FIT (ends fn : Int → Int) (p f r : Int) : Prop := r ≠ 0 ↔ ∀ i, 0 ≤ i → i < 32 → bit (ends p) i → bit (fn f) i
theorem pcs_rng {m : Int} {pt ph dE dn po : Int → Int} {e : Int} (h : PCS m pt ph dE dn po) (h0 : 0 ≤ e) (h1 : e < m) (hd : dE e = 0) : 0 ≤ po e ∧ po e ≤ e := (h.1.1 e h0 h1).2 hd
/-- one more edge -/
theorem ens_skip {m : Int} {pt ph dE dn po ends : Int → Int} {e : Int} (h : ENS m pt ph dE dn po ends e) (hd : dE e ≠ 0) : ENS m pt ph dE dn po ends (e + 1) := by
  intro p i p0 p1 i0 i1
  rw [h p i p0 p1 i0 i1]
  refine ⟨fun ⟨f, a, b, c⟩ => ⟨f, a, by omega, c⟩, fun ⟨f, a, b, c, d⟩ => ⟨f, a, ?_, c, d⟩⟩
  by_cases q : f = e
  · rw [q] at c; exact absurd c hd
  · omega
theorem ens_step {m : Int} {pt ph dE dn po ends ends' : Int → Int} {e : Int} (h : ENS m pt ph dE dn po ends e) (e0 : 0 ≤ e) (hd : dE e = 0) (ho : ∀ p, 0 ≤ p → p ≠ po e → ends' p = ends p) (hp : ∀ i, 0 ≤ i → i < 32 → (bit (ends' (po e)) i ↔ bit (ends (po e)) i ∨ (i = pt e ∧ dn (pt e) ≠ 0) ∨ (i = ph e ∧ dn (ph e) ≠ 0))) : ENS m pt ph dE dn po ends' (e + 1) := by
  intro p i p0 p1 i0 i1
  by_cases q : p = po e
  · rw [q, hp i i0 i1, h (po e) i (q ▸ p0) (q ▸ p1) i0 i1]
    constructor
    · rintro (⟨f, a, b, c⟩ | ⟨a, b⟩ | ⟨a, b⟩)
      · exact ⟨f, a, by omega, c⟩
      · exact ⟨e, e0, by omega, hd, rfl, Or.inl a.symm, a ▸ b⟩
      · exact ⟨e, e0, by omega, hd, rfl, Or.inr a.symm, a ▸ b⟩
    · rintro ⟨f, a, b, c, d, g, k⟩
      by_cases z : f = e
      · subst z
        rcases g with g | g
        · exact Or.inr (Or.inl ⟨g.symm, g ▸ k⟩)
        · exact Or.inr (Or.inr ⟨g.symm, g ▸ k⟩)
      · exact Or.inl ⟨f, a, by omega, c, d, g, k⟩
  · rw [ho p p0 q, h p i p0 p1 i0 i1]
    constructor
    · rintro ⟨f, a, b, c⟩; exact ⟨f, a, by omega, c⟩
    · rintro ⟨f, a, b, c, d, g⟩
      by_cases z : f = e
      · subst z; exact absurd d.symm q
      · exact ⟨f, a, by omega, c, d, g⟩
theorem fck_step {face fn fn' : Int → Int} {f k : Int} (h : FCK face fn f k) (k0 : 0 ≤ k) (hp : ∀ i, 0 ≤ i → i < 32 → (bit (fn' f) i ↔ bit (fn f) i ∨ i = face (60 * f + k))) : FCK face fn' f (k + 1) := by
  intro i i0 i1
  rw [hp i i0 i1, h i i0 i1]
  constructor
  · rintro (⟨j, a, b, c⟩ | a)
    · exact ⟨j, a, by omega, c⟩
    · exact ⟨k, k0, by omega, a.symm⟩
  · rintro ⟨j, a, b, c⟩
    by_cases q : j = k
    · subst q; exact Or.inr c.symm
    · exact Or.inl ⟨j, a, by omega, c⟩
def fit (ends fn : Int → Int) (p f : Int) : Prop := ∀ i, 0 ≤ i → i < 32 → bit (ends p) i → bit (fn f) i
def FFL (ends fn : Int → Int) (p f : Int) : Prop := ∀ g, 0 ≤ g → g < f → ¬ fit ends fn p g
def FFT (faces : Int) (ends fn : Int → Int) (p r : Int) : Prop := (r = -1 ∧ ∀ g, 0 ≤ g → g < faces → ¬ fit ends fn p g) ∨ (0 ≤ r ∧ r < faces ∧ fit ends fn p r)
def CH1 (m faces : Int) (po ends fn : Int → Int) (b : Int) : Prop := b = -1 ∨ (0 ≤ b ∧ b < m ∧ po b = b ∧ ∃ f, 0 ≤ f ∧ f < faces ∧ fit ends fn b f)
def CH2 (po ends fn : Int → Int) (p f n : Int) : Prop := po p = p ∧ 0 ≤ n ∧ (n = 0 ∨ ∃ g, 0 ≤ g ∧ g < f ∧ fit ends fn p g)
def FCB (fm : Int → Int) (f k : Int) : Prop := k ≤ fm f ∨ k = 0
