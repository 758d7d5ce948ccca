/-! the least node of a set; nodes near a set; levels and the shortest way (the class) -/
theorem bvp_nat {x : Int} (h0 : 0 ≤ x) : bvp x = BitVec.ofNat 32 x.toNat := by
  unfold bvp
  rw [← BitVec.ofInt_natCast, Int.toNat_of_nonneg h0]
theorem bit_nat {x w : Int} (h0 : 0 ≤ x) (w0 : 0 ≤ w) (w1 : w < 32) : bit x w ↔ x.toNat.testBit w.toNat = true := by
  unfold bit
  rw [bvp_nat h0, BitVec.getLsbD_ofNat]
  simp; intro _; omega
theorem bit_lt {x w : Int} {k : Nat} (h0 : 0 ≤ x) (h1 : x < (2 : Int) ^ k) (w0 : 0 ≤ w) (w1 : w < 32) (h : bit x w) : w < k := by
  rw [bit_nat h0 w0 w1] at h
  refine Classical.byContradiction fun c => ?_
  have hx : x.toNat < 2 ^ k := by
    have : ((2 ^ k : Nat) : Int) = (2 : Int) ^ k := by rw [Int.natCast_pow]; rfl
    omega
  have : x.toNat < 2 ^ w.toNat := Nat.lt_of_lt_of_le hx (Nat.pow_le_pow_right (by decide) (by omega))
  rw [Nat.testBit_lt_two_pow this] at h
  cases h
theorem bit_ex {x : Int} (h0 : 0 < x) (h1 : x < 4294967296) : ∃ w, 0 ≤ w ∧ w < 32 ∧ bit x w := by
  have hne : x.toNat ≠ 0 := by omega
  obtain ⟨i, hi⟩ := Nat.exists_testBit_of_ne_zero hne
  have hi2 : i < 32 := by
    refine Classical.byContradiction fun c => ?_
    have : x.toNat < 2 ^ i := Nat.lt_of_lt_of_le (show x.toNat < 2 ^ 32 by omega) (Nat.pow_le_pow_right (by decide) (by omega))
    rw [Nat.testBit_lt_two_pow this] at hi; cases hi
  exact ⟨i, by omega, by omega, by rw [bit_nat (by omega) (by omega) (by omega)]; exact hi⟩
/-- a number is a power of two times an odd one -/
theorem odd_part : ∀ n : Nat, 0 < n → ∃ k m, n = 2 ^ (k + 1) * m + 2 ^ k := by
  intro n
  induction n using Nat.strongRecOn with
  | _ n ih =>
    intro hn
    by_cases h : n % 2 = 1
    · exact ⟨0, n / 2, by simp only [Nat.zero_add, Nat.pow_one, Nat.pow_zero]; omega⟩
    · obtain ⟨k, m, e⟩ := ih (n / 2) (by omega) (by omega)
      refine ⟨k + 1, m, ?_⟩
      have e2 : n = 2 * (n / 2) := by omega
      rw [e2, e, Nat.mul_add, Nat.pow_succ (n := 2) (m := k + 1), Nat.pow_succ (n := 2) (m := k)]
      have : 2 * (2 ^ k * 2 * m) = 2 ^ k * 2 * 2 * m := by rw [← Nat.mul_assoc, Nat.mul_comm 2 (2 ^ k * 2)]
      rw [this]; omega
theorem low_bit {s a b : Int} (s0 : 0 < s) (s1 : s < 33554432) (ha : a = s * -1) (hb : bvp b = bvp s &&& bvp a) (b0 : -2147483648 ≤ b) (b1 : b ≤ 2147483647) : ∃ k : Nat, k < 25 ∧ b = (2 : Int) ^ k ∧ bit s k := by
  obtain ⟨k, m, e⟩ := odd_part s.toNat (by omega)
  have p0 : 0 < 2 ^ k := Nat.pow_pos (by decide)
  have hk : k < 25 := by
    refine Classical.byContradiction fun c => ?_
    have : 2 ^ 25 ≤ 2 ^ k := Nat.pow_le_pow_right (by decide) (by omega)
    have : s.toNat < 2 ^ 25 := by omega
    have : 2 ^ k ≤ 2 ^ (k + 1) * m + 2 ^ k := Nat.le_add_left _ _
    omega
  have sp : 2 ^ (k + 1) = 2 ^ k + 2 ^ k := by rw [Nat.pow_succ]; omega
  -- the bits of s and of s - 1
  have t1 : ∀ j, s.toNat.testBit j = if j < k + 1 then decide (j = k) else m.testBit (j - (k + 1)) := fun j => by
    rw [e, Nat.testBit_two_pow_mul_add m (by omega) j]
    split
    · rw [Nat.testBit_two_pow]; simp only [eq_comm]
    · rfl
  have t2 : ∀ j, (s.toNat - 1).testBit j = if j < k + 1 then decide (j < k) else m.testBit (j - (k + 1)) := fun j => by
    rw [e, show 2 ^ (k + 1) * m + 2 ^ k - 1 = 2 ^ (k + 1) * m + (2 ^ k - 1) by omega, Nat.testBit_two_pow_mul_add m (by omega) j]
    split
    · rw [Nat.testBit_two_pow_sub_one]
    · rfl
  have n0 : (bvp s).toNat = s.toNat := by
    rw [bvp_nat (by omega), BitVec.toNat_ofNat]; omega
  have n1 : (BitVec.ofNat 32 (s.toNat - 1)).toNat = s.toNat - 1 := by
    rw [BitVec.toNat_ofNat]; omega
  have ea : bvp a = ~~~ (BitVec.ofNat 32 (s.toNat - 1)) := by
    have h1 : bvp a = - bvp s := by
      unfold bvp
      rw [ha, show s * -1 = -s by omega, BitVec.ofInt_neg]
    apply BitVec.eq_of_toNat_eq
    rw [h1, BitVec.toNat_neg, BitVec.toNat_not, n0, n1]
    omega
  have eb : bvp b = BitVec.ofNat 32 (2 ^ k) := by
    apply BitVec.eq_of_getLsbD_eq
    intro j hj
    have g1 : (bvp s).getLsbD j = s.toNat.testBit j := by rw [← n0]; rfl
    have g2 : (BitVec.ofNat 32 (s.toNat - 1)).getLsbD j = (s.toNat - 1).testBit j := by rw [← n1]; rw [n1]; rw [BitVec.getLsbD_ofNat]; simp [hj]
    rw [hb, ea, BitVec.getLsbD_and, BitVec.getLsbD_not, g1, g2, t1, t2, BitVec.getLsbD_ofNat, Nat.testBit_two_pow]
    by_cases q : j < k + 1
    · rw [if_pos q, if_pos q]
      by_cases q2 : j = k
      · subst q2; simp [hj]
      · have q3 : ¬ k = j := fun z => q2 z.symm
        simp [q2, q3]
    · rw [if_neg q, if_neg q]
      have q3 : ¬ k = j := fun z => by omega
      simp [q3]
      intro z _; exact z
  refine ⟨k, hk, ?_, ?_⟩
  · have hx : (bvp b).toInt = b := by unfold bvp; rw [BitVec.toInt_ofInt]; unfold Int.bmod; simp only; split <;> omega
    have p25 : 2 ^ k < 2 ^ 25 := Nat.pow_lt_pow_right (by decide) hk
    rw [← hx, eb, BitVec.toInt_eq_toNat_cond, BitVec.toNat_ofNat, Nat.mod_eq_of_lt (by omega), if_pos (by omega), Int.natCast_pow]; rfl
  · rw [bit_nat (by omega) (by omega) (by omega), show ((k : Nat) : Int).toNat = k by omega, t1, if_pos (by omega)]; simp
def cnN (x : Nat) : Nat → Nat
  | 0 => 0
  | k + 1 => cnN x k + if x.testBit k then 1 else 0
/-- exactly at what is all ones below a place, and at what is small -/
def BCT (x an : Int) : Prop := (∀ k : Nat, k ≤ 25 → x = (2 : Int) ^ k - 1 → an = k) ∧ (0 ≤ x → x ≤ 63 → an = (cnN x.toNat 6 : Int))
def LOW (s an : Int) : Prop := 0 < s → s < 33554432 → 0 ≤ an ∧ an < 25 ∧ bit s an
theorem low_of {s a b c d an : Int} (ha : a = s * -1) (hb : bvp b = bvp s &&& bvp a) (b0 : -2147483648 ≤ b) (b1 : b ≤ 2147483647) (hc : c = b - d) (hd : d = 1) (h : BCT c an) : LOW s an := fun s0 s1 => by
  obtain ⟨k, k1, e, hk⟩ := low_bit s0 s1 ha hb b0 b1
  have := h.1 k (by omega) (by omega)
  rw [this]
  exact ⟨by omega, by omega, hk⟩
/-! nearOf -/
def NEI (nr : Int → Int) (v st fd : Int) : Prop := ∀ w, 0 ≤ w → w < 32 → (bit fd w ↔ ∃ u, 0 ≤ u ∧ u < v ∧ bit st u ∧ bit (nr u) w)
def NEF (nr : Int → Int) (n st an : Int) : Prop := NEI nr n st an
theorem nei_start {nr : Int → Int} {v st fd : Int} (hv : v = 0) (hf : fd = 0) : NEI nr v st fd := fun w a b => ⟨fun h => absurd (hf ▸ h) (bit_zero w), fun ⟨u, u0, u1, _⟩ => by omega⟩
theorem nei_skip {nr : Int → Int} {v v' st fd : Int} (h : NEI nr v st fd) (hb : ¬ bit st v) (hv : v' = v + 1) : NEI nr v' st fd := fun w a b => by
  rw [h w a b]
  refine ⟨fun ⟨u, u0, u1, u2⟩ => ⟨u, u0, by omega, u2⟩, fun ⟨u, u0, u1, u2⟩ => ?_⟩
  by_cases e : u = v
  · rw [e] at u2; exact absurd u2.1 hb
  · exact ⟨u, u0, by omega, u2⟩
theorem nei_step {nr : Int → Int} {v v' st fd fd' x : Int} (h : NEI nr v st fd) (v0 : 0 ≤ v) (hb : bit st v) (hx : x = nr v) (hf : bvp fd' = bvp fd ||| bvp x) (hv : v' = v + 1) : NEI nr v' st fd' := fun w a b => by
  rw [bit_or hf, h w a b]
  refine ⟨fun q => ?_, fun ⟨u, u0, u1, u2⟩ => ?_⟩
  · rcases q with ⟨u, u0, u1, u2⟩ | q
    · exact ⟨u, u0, by omega, u2⟩
    · exact ⟨v, v0, by omega, hb, hx ▸ q⟩
  · by_cases e : u = v
    · subst e; exact Or.inr (hx ▸ u2.2)
    · exact Or.inl ⟨u, u0, by omega, u2⟩
theorem bit_one {s t c v one : Int} (ht : bvp t = bvp s >>> v.toNat) (hc : bvp c = bvp t &&& bvp one) (h1 : one = 1) (v0 : 0 ≤ v) (c0 : 0 ≤ c) (c1 : c ≤ 1) : bit s v ↔ c = 1 := by
  rw [← bit_shr ht v0, ← bit_01 c0 c1, bit_and hc]
  refine ⟨fun z => ⟨z, ?_⟩, fun z => z.1⟩
  rw [h1]; exact (bit_01 (by omega) (by omega)).mpr rfl
/-! spread: what it finds is allowed -/
def SPA (al fd fs : Int) : Prop := ∀ w, 0 ≤ w → w < 32 → (bit fd w → bit al w) ∧ (bit fs w → bit al w)
def SPDW (al an : Int) : Prop := ∀ w, 0 ≤ w → w < 32 → bit an w → bit al w
theorem spa_start {al st fd fs : Int} (h : bvp fd = bvp st &&& bvp al) (e : fs = fd) : SPA al fd fs := fun w a b => by
  subst e
  have : bit fs w → bit al w := fun z => ((bit_and h w).mp z).2
  exact ⟨this, this⟩
theorem spa_step {al fd fs p q r fs' fd' : Int} (h : SPA al fd fs) (h1 : bvp q = bvp p &&& bvp al) (h2 : bvp fs' = bvp q &&& bvp r) (h3 : bvp fd' = bvp fd ||| bvp fs') : SPA al fd' fs' := fun w a b => by
  have g : bit fs' w → bit al w := fun z => ((bit_and h1 w).mp ((bit_and h2 w).mp z).1).2
  exact ⟨fun z => ((bit_or h3 w).mp z).elim (h w a b).1 g, g⟩
theorem spdw_of {al fd fs an : Int} (h : SPA al fd fs) (e : an = fd) : SPDW al an := fun w a b z => (h w a b).1 (e ▸ z)
/-! levels -/
def SYMN (nr : Int → Int) (n : Int) : Prop := ∀ u v, 0 ≤ u → u < n → 0 ≤ v → v < n → bit (nr u) v → bit (nr v) u
def FRN (n fr : Int) : Prop := ∀ w, 0 ≤ w → w < 32 → bit fr w → w < n
def lvp (nr lv : Int → Int) (n fr j : Int) : Prop := ∀ w, 0 ≤ w → w < 32 → bit (lv j) w → bit fr w ∧ (∀ i, 1 ≤ i → i < j → ¬ bit (lv i) w) ∧ ∃ u, 0 ≤ u ∧ u < n ∧ bit (lv (j - 1)) u ∧ bit (nr u) w
def LV1 (nr lv : Int → Int) (n st en fr op tp k : Int) : Prop := 1 ≤ k ∧ lv 0 = en ∧ (∀ j, 1 ≤ j → j < k → lvp nr lv n fr j ∧ ∀ w, 0 ≤ w → w < 32 → bit (lv j) w → ¬ bit op w) ∧ (∀ w, 0 ≤ w → w < 32 → bit op w → bit fr w) ∧ (tp = 0 ∨ (1 ≤ tp ∧ tp = k - 1 ∧ ∃ w, 0 ≤ w ∧ w < 32 ∧ bit (nr st) w ∧ bit (lv tp) w))
theorem lv1_start {nr lv lv' : Int → Int} {n st en fr op tp k p x : Int} (hs : st1 lv lv' p x) (hp : p = 0) (hx : x = en) (ho : op = fr) (ht : tp = 0) (hk : k = 1) : LV1 nr lv' n st en fr op tp k := by
  refine ⟨by omega, by rw [(hs 0 (by omega)).1 (by omega)]; exact hx, fun j a b => by omega, fun w _ _ z => ho ▸ z, Or.inl ht⟩
/-- a new level -/
theorem lv1_new {nr lv lv' : Int → Int} {n st en fr op tp k p x q y r op' : Int} (h : LV1 nr lv n st en fr op tp k) (hn : n ≤ 32) (hq : y = lv (k - 1)) (hN : NEF nr n y q) (hx : bvp x = bvp q &&& bvp op) (hs : st1 lv lv' p x) (hp : p = k) (hm1 : bvp r = bvp x ^^^ bvp (-1)) (ho : bvp op' = bvp op &&& bvp r) (ht : tp = 0) :
    (∀ w, 0 ≤ w ∧ w < 32 ∧ bit (nr st) w ∧ bit x w → LV1 nr lv' n st en fr op' k (k + 1)) ∧ LV1 nr lv' n st en fr op' 0 (k + 1) := by
  obtain ⟨h1, h2, h3, h4, h5⟩ := h
  subst hp
  have lk : lv' p = x := (hs p (by omega)).1 rfl
  have lo : ∀ j, 0 ≤ j → j ≠ p → lv' j = lv j := fun j a b => (hs j a).2 b
  have opb : ∀ w, 0 ≤ w → w < 32 → (bit op' w ↔ bit op w ∧ ¬ bit x w) := fun w a b => by rw [bit_and ho, bit_xor hm1 rfl a b]
  have base : ∀ j, 1 ≤ j → j < p + 1 → lvp nr lv' n fr j ∧ ∀ w, 0 ≤ w → w < 32 → bit (lv' j) w → ¬ bit op' w := fun j a b => by
    by_cases e : j = p
    · subst e
      refine ⟨fun w w0 w1 z => ?_, fun w w0 w1 z c => ?_⟩
      · rw [lk] at z
        have z2 := (bit_and hx w).mp z
        refine ⟨h4 w w0 w1 z2.2, fun i i0 i1 c => ?_, ?_⟩
        · rw [lo i (by omega) (by omega)] at c
          exact (h3 i i0 i1).2 w w0 w1 c z2.2
        · obtain ⟨u, u0, u1, u2, u3⟩ := (hN w w0 w1).mp z2.1
          exact ⟨u, u0, u1, by rw [lo (j - 1) (by omega) (by omega), ← hq]; exact u2, u3⟩
      · rw [lk] at z
        exact ((opb w w0 w1).mp c).2 z
    · obtain ⟨q1, q2⟩ := h3 j a (by omega)
      refine ⟨fun w w0 w1 z => ?_, fun w w0 w1 z c => ?_⟩
      · rw [lo j (by omega) e] at z
        obtain ⟨a1, a2, u, a3⟩ := q1 w w0 w1 z
        refine ⟨a1, fun i i0 i1 c => ?_, u, ?_⟩
        · rw [lo i (by omega) (by omega)] at c; exact a2 i i0 i1 c
        · rw [lo (j - 1) (by omega) (by omega)]; exact a3
      · rw [lo j (by omega) e] at z
        exact q2 w w0 w1 z ((opb w w0 w1).mp c).1
  have b4 : ∀ w, 0 ≤ w → w < 32 → bit op' w → bit fr w := fun w w0 w1 z => h4 w w0 w1 ((opb w w0 w1).mp z).1
  refine ⟨fun w ⟨w0, w1, w2, w3⟩ => ⟨by omega, by rw [lo 0 (by omega) (by omega)]; exact h2, base, b4, Or.inr ⟨h1, by omega, w, w0, w1, w2, by rw [lk]; exact w3⟩⟩, ⟨by omega, by rw [lo 0 (by omega) (by omega)]; exact h2, base, b4, Or.inl rfl⟩⟩
/-- the way along the levels -/
def LV2 (nr lv wy : Int → Int) (n st en fr tp k : Int) : Prop := 1 ≤ tp ∧ -1 ≤ k ∧ k ≤ tp ∧ lv 0 = en ∧ (∀ j, 1 ≤ j → j ≤ tp → lvp nr lv n fr j) ∧ wy 0 = st ∧ (∀ j, 1 ≤ j → j ≤ tp - k → 0 ≤ wy j ∧ wy j < 32 ∧ bit (lv (tp + 1 - j)) (wy j)) ∧ (0 ≤ k → ∃ w, 0 ≤ w ∧ w < 32 ∧ bit (nr (wy (tp - k))) w ∧ bit (lv k) w)
theorem lv2_start {nr lv wy wy' : Int → Int} {n st en fr op tp k k' p x : Int} (h : LV1 nr lv n st en fr op tp k) (ht : tp ≠ 0) (hs : st1 wy wy' p x) (hp : p = 0) (hx : x = st) (hk : k' = tp) : LV2 nr lv wy' n st en fr tp k' := by
  obtain ⟨h1, h2, h3, h4, h5⟩ := h
  have e0 : wy' 0 = st := by rw [(hs 0 (by omega)).1 (by omega)]; exact hx
  rcases h5 with h5 | ⟨h5, h6, w, w0, w1, w2, w3⟩
  · exact absurd h5 ht
  · refine ⟨h5, by omega, by omega, h2, fun j a b => (h3 j a (by omega)).1, e0, fun j a b => by omega, fun _ => ⟨w, w0, w1, ?_, by rw [hk]; exact w3⟩⟩
    rw [show tp - k' = 0 by omega, e0]; exact w2
theorem lv2_pos {nr lv wy : Int → Int} {n st en fr tp k a b : Int} (h : LV2 nr lv wy n st en fr tp k) (k0 : 0 ≤ k) (hb : bvp b = bvp a &&& bvp (lv k)) (ha : a = nr (wy (tp - k))) (a0 : 0 ≤ a) (b0 : 0 ≤ b) : 0 < b := by
  obtain ⟨w, w0, w1, w2, w3⟩ := h.2.2.2.2.2.2.2 k0
  refine Classical.byContradiction fun c => ?_
  have e : b = 0 := by omega
  have := (bit_and hb w).mpr ⟨ha ▸ w2, w3⟩
  rw [e] at this
  exact bit_zero w this
theorem lv2_step {nr lv wy wy' : Int → Int} {n st en fr tp k k' a b p x : Int} (h : LV2 nr lv wy n st en fr tp k) (hn : n ≤ 25) (hS : SYMN nr n) (hF : FRN n fr) (k0 : 0 ≤ k) (hb : bvp b = bvp a &&& bvp (lv k)) (ha : a = nr (wy (tp - k))) (a0 : 0 ≤ a) (b0 : 0 ≤ b) (b1 : b < 33554432) (hL : LOW b x) (hs : st1 wy wy' p x) (hp : p = tp - k + 1) (hk : k' = k - 1) : LV2 nr lv wy' n st en fr tp k' := by
  have bp := lv2_pos h k0 hb ha a0 b0
  obtain ⟨h1, h2, h3, h4, h5, h6, h7, h8⟩ := h
  obtain ⟨x0, x1, x2⟩ := hL bp b1
  have xl : bit (lv k) x := ((bit_and hb x).mp x2).2
  have wp : wy' p = x := (hs p (by omega)).1 rfl
  have wo : ∀ j, 0 ≤ j → j ≠ p → wy' j = wy j := fun j a b => (hs j a).2 b
  refine ⟨h1, by omega, by omega, h4, h5, by rw [wo 0 (by omega) (by omega)]; exact h6, fun j j0 j1 => ?_, fun k1 => ?_⟩
  · by_cases e : j = p
    · rw [e, wp, hp, show tp + 1 - (tp - k + 1) = k by omega]; exact ⟨x0, by omega, xl⟩
    · rw [wo j (by omega) e]; exact h7 j j0 (by omega)
  · obtain ⟨c1, c2, u, u0, u1, u2, u3⟩ := h5 k (by omega) h3 x x0 (by omega) xl
    have xn := hF x x0 (by omega) c1
    refine ⟨u, u0, by omega, ?_, by rw [hk]; exact u2⟩
    rw [show tp - k' = p by omega, wp]
    exact hS u x u0 u1 x0 xn u3
def SHW (wy : Int → Int) (st en fr an : Int) : Prop := an = 0 ∨ (3 ≤ an ∧ wy 0 = st ∧ 0 ≤ wy (an - 1) ∧ wy (an - 1) < 32 ∧ bit en (wy (an - 1)) ∧ (∀ j, 1 ≤ j → j < an - 1 → 0 ≤ wy j ∧ wy j < 32 ∧ bit fr (wy j)) ∧ ∀ i j, 1 ≤ i → i < j → j < an - 1 → wy i ≠ wy j)
theorem shw_of {nr lv wy : Int → Int} {n st en fr tp k an : Int} (h : LV2 nr lv wy n st en fr tp k) (hk : k < 0) (ha : an = tp + 2) : SHW wy st en fr an := by
  obtain ⟨h1, h2, h3, h4, h5, h6, h7, h8⟩ := h
  refine Or.inr ⟨by omega, h6, ?_⟩
  have l := h7 (tp + 1) (by omega) (by omega)
  rw [show tp + 1 - (tp + 1) = 0 by omega, h4] at l
  rw [show an - 1 = tp + 1 by omega]
  refine ⟨l.1, l.2.1, l.2.2, fun j a b => ?_, fun i j a b c e => ?_⟩
  · have q := h7 j a (by omega)
    exact ⟨q.1, q.2.1, (h5 (tp + 1 - j) (by omega) (by omega) _ q.1 q.2.1 q.2.2).1⟩
  · have qi := h7 i a (by omega)
    have qj := h7 j (by omega) (by omega)
    have := (h5 (tp + 1 - i) (by omega) (by omega) _ qi.1 qi.2.1 qi.2.2).2.1 (tp + 1 - j) (by omega) (by omega)
    rw [e] at this
    exact this qj.2.2
theorem lv2_low {nr lv wy : Int → Int} {n st en fr tp k a b x : Int} (h : LV2 nr lv wy n st en fr tp k) (k0 : 0 ≤ k) (hb : bvp b = bvp a &&& bvp (lv k)) (ha : a = nr (wy (tp - k))) (a0 : 0 ≤ a) (b0 : 0 ≤ b) (b1 : b < 33554432) (hL : LOW b x) : 0 ≤ x ∧ x < 25 ∧ bit b x := hL (lv2_pos h k0 hb ha a0 b0) b1
theorem bit_lt24 {x w : Int} (h0 : 0 ≤ x) (h1 : x ≤ 16777215) (w0 : 0 ≤ w) (w1 : w < 25) (h : bit x w) : w < 24 := by
  have := bit_lt (k := 24) h0 (by omega) w0 (by omega) h
  omega
theorem shw_zero {wy : Int → Int} {st en fr an : Int} (h : an = 0) : SHW wy st en fr an := Or.inl h
