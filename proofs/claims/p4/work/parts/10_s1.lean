/-! spread: what it finds, exactly -/
noncomputable def cnb (P : Int → Prop) : Nat → Int
  | 0 => 0
  | k + 1 => cnb P k + @ite Int (P (k : Int)) (Classical.propDecidable _) 1 0
theorem cnb_pos {P : Int → Prop} {k : Nat} (h : P (k : Int)) : cnb P (k + 1) = cnb P k + 1 := by
  show cnb P k + @ite Int (P (k : Int)) (Classical.propDecidable _) 1 0 = _
  rw [if_pos h]
theorem cnb_neg {P : Int → Prop} {k : Nat} (h : ¬ P (k : Int)) : cnb P (k + 1) = cnb P k := by
  show cnb P k + @ite Int (P (k : Int)) (Classical.propDecidable _) 1 0 = _
  rw [if_neg h]; omega
theorem cnb_le (P : Int → Prop) (k : Nat) : 0 ≤ cnb P k ∧ cnb P k ≤ k := by
  induction k with
  | zero => exact ⟨Int.le_refl _, Int.le_refl _⟩
  | succ k ih =>
    by_cases q : P (k : Int)
    · rw [cnb_pos q]; push_cast; omega
    · rw [cnb_neg q]; push_cast; omega
theorem cnb_mono {P Q : Int → Prop} (k : Nat) (h : ∀ j : Int, 0 ≤ j → j < k → P j → Q j) : cnb P k ≤ cnb Q k := by
  induction k with
  | zero => exact Int.le_refl _
  | succ k ih =>
    have i1 := ih (fun j a b => h j a (by push_cast; omega))
    by_cases q : P (k : Int)
    · rw [cnb_pos q, cnb_pos (h k (by omega) (by push_cast; omega) q)]; omega
    · rw [cnb_neg q]
      by_cases q2 : Q (k : Int)
      · rw [cnb_pos q2]; omega
      · rw [cnb_neg q2]; omega
theorem cnb_more {P Q : Int → Prop} (k : Nat) (h : ∀ j : Int, 0 ≤ j → j < k → P j → Q j) {x : Int} (x0 : 0 ≤ x) (x1 : x < k) (n1 : ¬ P x) (n2 : Q x) : cnb P k + 1 ≤ cnb Q k := by
  induction k with
  | zero => exact absurd x1 (by push_cast; omega)
  | succ k ih =>
    by_cases z : x = k
    · rw [z] at n1 n2
      have i1 := cnb_mono (P := P) (Q := Q) k (fun j a b => h j a (by push_cast; omega))
      rw [cnb_neg n1, cnb_pos n2]; omega
    · have i1 := ih (fun j a b => h j a (by push_cast; omega)) (by push_cast at x1; omega)
      by_cases q : P (k : Int)
      · rw [cnb_pos q, cnb_pos (h k (by omega) (by push_cast; omega) q)]; omega
      · rw [cnb_neg q]
        by_cases q2 : Q (k : Int)
        · rw [cnb_pos q2]; omega
        · rw [cnb_neg q2]; omega
/-- neighbours of nodes of a net are nodes of it -/
def NRB (nr : Int → Int) (n : Int) : Prop := ∀ u w, 0 ≤ u → u < n → 0 ≤ w → w < 32 → bit (nr u) w → w < n
def spU (nr : Int → Int) (n st al : Int) (U : Int → Prop) : Prop := (∀ w, 0 ≤ w → w < 32 → bit st w → bit al w → U w) ∧ ∀ u w, 0 ≤ u → u < n → U u → 0 ≤ w → w < 32 → bit (nr u) w → bit al w → U w
def SPI (nr : Int → Int) (n st al k fd fs : Int) : Prop := 0 ≤ n ∧ n ≤ 32 ∧ 0 ≤ k ∧ (∀ w, 0 ≤ w → w < 32 → bit fd w → bit al w) ∧ (∀ w, 0 ≤ w → w < 32 → bit fs w → bit fd w) ∧ (∀ w, 0 ≤ w → w < 32 → bit st w → bit al w → bit fd w) ∧ (∀ u w, 0 ≤ u → u < n → bit fd u → ¬ bit fs u → 0 ≤ w → w < 32 → bit (nr u) w → bit al w → bit fd w) ∧ (∀ U : Int → Prop, spU nr n st al U → ∀ w, 0 ≤ w → w < 32 → bit fd w → U w) ∧ (NRB nr n → FRN n st → (∀ w, 0 ≤ w → w < 32 → bit fd w → w < n) ∧ ((∃ w, 0 ≤ w ∧ w < 32 ∧ bit fs w) → k + 1 ≤ cnb (bit fd) n.toNat))
/-- allowed alone; from the start; closed; no more -/
def SPZ (nr : Int → Int) (n st al an : Int) : Prop := (∀ w, 0 ≤ w → w < 32 → bit an w → bit al w) ∧ (∀ w, 0 ≤ w → w < 32 → bit st w → bit al w → bit an w) ∧ (∀ U : Int → Prop, spU nr n st al U → ∀ w, 0 ≤ w → w < 32 → bit an w → U w) ∧ (NRB nr n → FRN n st → (∀ w, 0 ≤ w → w < 32 → bit an w → w < n) ∧ ∀ u w, 0 ≤ u → u < n → bit an u → 0 ≤ w → w < 32 → bit (nr u) w → bit al w → bit an w)
theorem spi_start {nr : Int → Int} {n st al k fd fs : Int} (h : bvp fd = bvp st &&& bvp al) (e : fs = fd) (hk : k = 0) (n0 : 0 ≤ n) (n1 : n ≤ 32) : SPI nr n st al k fd fs := by
  subst e
  have hb := fun w => bit_and h w
  refine ⟨n0, n1, by omega, fun w _ _ z => ((hb w).mp z).2, fun w _ _ z => z, fun w _ _ z y => (hb w).mpr ⟨z, y⟩, fun u w _ _ z y => absurd z y, fun U hU w a b z => hU.1 w a b ((hb w).mp z).1 ((hb w).mp z).2, fun hn hf => ⟨fun w a b z => hf w a b ((hb w).mp z).1, fun ⟨w, a, b, z⟩ => ?_⟩⟩
  have hw := hf w a b ((hb w).mp z).1
  have c1 := cnb_more (P := fun _ => False) (Q := bit fs) n.toNat (fun j _ _ q => q.elim) a (by omega) (fun q => q) z
  have c0 := (cnb_le (fun _ => False) n.toNat).1
  omega
theorem spi_step {nr : Int → Int} {n st al k k' fd fs p q r fs' fd' m1 : Int} (h : SPI nr n st al k fd fs) (hne : fs ≠ 0) (f0 : -2147483648 ≤ fs) (f1 : fs ≤ 2147483647) (hp : NEF nr n fs p) (h1 : bvp q = bvp p &&& bvp al) (hr : bvp r = bvp fd ^^^ bvp m1) (hm : m1 = -1) (h2 : bvp fs' = bvp q &&& bvp r) (h3 : bvp fd' = bvp fd ||| bvp fs') (hk : k' = k + 1) : SPI nr n st al k' fd' fs' := by
  obtain ⟨a0, a1, a2, a3, a4, a5, a6, a7, a8⟩ := h
  have ne : ∃ w, 0 ≤ w ∧ w < 32 ∧ bit fs w := by
    apply Classical.byContradiction
    intro hn
    exact hne (bit_none (fun i i0 i1 hb => hn ⟨i, i0, i1, hb⟩) f0 f1)
  have bf : ∀ w, 0 ≤ w → w < 32 → (bit fs' w ↔ (∃ u, 0 ≤ u ∧ u < n ∧ bit fs u ∧ bit (nr u) w) ∧ bit al w ∧ ¬ bit fd w) := fun w w0 w1 => by
    rw [bit_and h2, bit_and h1, bit_xor hr hm w0 w1, hp w w0 w1]
    exact ⟨fun z => ⟨z.1.1, z.1.2, z.2⟩, fun z => ⟨⟨z.1, z.2.1⟩, z.2.2⟩⟩
  have bd : ∀ w, bit fd' w ↔ bit fd w ∨ bit fs' w := fun w => bit_or h3 w
  refine ⟨a0, a1, by omega, fun w w0 w1 z => ?_, fun w w0 w1 z => (bd w).mpr (Or.inr z), fun w w0 w1 z y => (bd w).mpr (Or.inl (a5 w w0 w1 z y)), fun u w u0 u1 z y w0 w1 x v => ?_, fun U hU w w0 w1 z => ?_, fun hn hf => ⟨fun w w0 w1 z => ?_, fun ⟨w, w0, w1, z⟩ => ?_⟩⟩
  · rcases (bd w).mp z with z | z
    · exact a3 w w0 w1 z
    · exact ((bf w w0 w1).mp z).2.1
  · rcases (bd u).mp z with z | z
    · by_cases c : bit fs u
      · by_cases d : bit fd w
        · exact (bd w).mpr (Or.inl d)
        · exact (bd w).mpr (Or.inr ((bf w w0 w1).mpr ⟨⟨u, u0, u1, c, x⟩, v, d⟩))
      · exact (bd w).mpr (Or.inl (a6 u w u0 u1 z c w0 w1 x v))
    · exact absurd z y
  · rcases (bd w).mp z with z | z
    · exact a7 U hU w w0 w1 z
    · obtain ⟨⟨u, u0, u1, u2, u3⟩, u4, _⟩ := (bf w w0 w1).mp z
      exact hU.2 u w u0 u1 (a7 U hU u u0 (by omega) (a4 u u0 (by omega) u2)) w0 w1 u3 u4
  · rcases (bd w).mp z with z | z
    · exact (a8 hn hf).1 w w0 w1 z
    · obtain ⟨⟨u, u0, u1, u2, u3⟩, _⟩ := (bf w w0 w1).mp z
      exact hn u w u0 u1 w0 w1 u3
  · obtain ⟨⟨u, u0, u1, u2, u3⟩, _, u5⟩ := (bf w w0 w1).mp z
    have c1 := (a8 hn hf).2 ne
    have c2 := cnb_more (P := bit fd) (Q := bit fd') n.toNat (fun j _ _ q => (bd j).mpr (Or.inl q)) w0 (by have := hn u w u0 u1 w0 w1 u3; omega) u5 ((bd w).mpr (Or.inr z))
    omega
theorem spz_of {nr : Int → Int} {n st al k fd fs an : Int} (h : SPI nr n st al k fd fs) (he : fs = 0 ∨ n ≤ k) (ha : an = fd) : SPZ nr n st al an := by
  obtain ⟨a0, a1, a2, a3, a4, a5, a6, a7, a8⟩ := h
  subst ha
  refine ⟨a3, a5, a7, fun hn hf => ⟨(a8 hn hf).1, fun u w u0 u1 z w0 w1 x v => ?_⟩⟩
  have nf : ¬ bit fs u := fun c => by
    rcases he with e | e
    · exact absurd (e ▸ c) (bit_zero u)
    · have c1 := (a8 hn hf).2 ⟨u, u0, by omega, c⟩
      have c2 := (cnb_le (bit an) n.toNat).2
      omega
  exact a6 u w u0 u1 z nf w0 w1 x v
