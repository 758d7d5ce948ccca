/-! orders of small strong parts: least sums, one of them is met at every place -/
def wO (lk tl wt : Int → Int) (a b : Int) : Int := if lk (a * 24 + b) ≠ -1 ∧ tl (lk (a * 24 + b)) = a then wt (lk (a * 24 + b)) else 0
def WOX (tl wt lk : Int → Int) (a b an : Int) : Prop := an = wO lk tl wt a b
noncomputable def caT (mb lk tl wt : Int → Int) (s k j : Int) : Int := @ite Int (j ≠ k ∧ bit s j) (Classical.propDecidable _) (wO lk tl wt (mb j) (mb k)) 0
noncomputable def CAv (ls mb lk tl wt : Int → Int) (s k cn : Int) : Int := ls (s - 2 ^ k.toNat) + sm (caT mb lk tl wt s k) cn
theorem caT_in {mb lk tl wt : Int → Int} {s k j : Int} (h : j ≠ k) (hb : bit s j) : caT mb lk tl wt s k j = wO lk tl wt (mb j) (mb k) := by unfold caT; rw [if_pos ⟨h, hb⟩]
theorem caT_out {mb lk tl wt : Int → Int} {s k j : Int} (h : ¬ (j ≠ k ∧ bit s j)) : caT mb lk tl wt s k j = 0 := by unfold caT; rw [if_neg h]
/-- a bit taken out -/
theorem del_bit {s k x q r m1 : Int} (s0 : 0 ≤ s) (s1 : s ≤ 127) (k0 : 0 ≤ k) (k1 : k < 7) (hb : bit s k) (hq : bvp q = bvp 1 <<< k.toNat) (hr : bvp r = bvp q ^^^ bvp m1) (hm : m1 = -1) (hx : bvp x = bvp s &&& bvp r) (x0 : 0 ≤ x) (x1 : x ≤ 127) : x = s - 2 ^ k.toNat ∧ 0 ≤ s - 2 ^ k.toNat ∧ s - 2 ^ k.toNat < s := by
  have key : ∀ a : Nat, a < 128 → ∀ b : Nat, b < 7 → (BitVec.ofInt 32 (a : Int)).getLsbD b = true → (BitVec.ofInt 32 (a : Int)) &&& ((BitVec.ofInt 32 1 <<< b) ^^^ BitVec.ofInt 32 (-1)) = BitVec.ofInt 32 ((a : Int) - 2 ^ b) ∧ (0 : Int) ≤ (a : Int) - 2 ^ b ∧ (a : Int) - 2 ^ b < a := by decide +kernel
  have q1 := key s.toNat (by omega) k.toNat (by omega) (by rw [show ((s.toNat : Nat) : Int) = s by omega]; exact hb)
  rw [show ((s.toNat : Nat) : Int) = s by omega] at q1
  have e : BitVec.ofInt 32 x = BitVec.ofInt 32 (s - 2 ^ k.toNat) := by
    have h : BitVec.ofInt 32 x = BitVec.ofInt 32 s &&& ((BitVec.ofInt 32 1 <<< k.toNat) ^^^ BitVec.ofInt 32 (-1)) := by
      have h1 : bvp x = bvp s &&& ((bvp 1 <<< k.toNat) ^^^ bvp (-1)) := by rw [hx, hr, hq, hm]
      exact h1
    rw [h]; exact q1.1
  have t : ∀ z : Int, 0 ≤ z → z ≤ 127 → (BitVec.ofInt 32 z).toInt = z := fun z z0 z1 => by
    rw [BitVec.toInt_ofInt]; unfold Int.bmod; simp only; split <;> omega
  have a := t x x0 x1
  have b := t (s - 2 ^ k.toNat) q1.2.1 (by have := q1.2.2; omega)
  rw [e, b] at a
  exact ⟨a.symm, q1.2.1, q1.2.2⟩
theorem wO_rng {lk tl wt : Int → Int} {a b : Int} (hw : ∀ j, 0 ≤ j → j < 48 → 0 ≤ wt j ∧ wt j ≤ 9) (hl : ∀ j, 0 ≤ j → j < 576 → -1 ≤ lk j ∧ lk j ≤ 47) (a0 : 0 ≤ a) (a1 : a < 24) (b0 : 0 ≤ b) (b1 : b < 24) : 0 ≤ wO lk tl wt a b ∧ wO lk tl wt a b ≤ 9 := by
  unfold wO
  split
  · rename_i c
    have := hl (a * 24 + b) (by omega) (by omega)
    exact hw _ (by have := c.1; omega) (by omega)
  · omega
/-- the sum while it is made -/
def CAI (ls mb tl wt lk : Int → Int) (s k j c : Int) : Prop := 0 ≤ j ∧ c = ls (s - 2 ^ k.toNat) + sm (caT mb lk tl wt s k) j
def CAP (ls mb tl wt lk : Int → Int) (s k cn an : Int) : Prop := an = CAv ls mb lk tl wt s k cn
theorem cai_start {ls mb tl wt lk : Int → Int} {s k j c x : Int} (hx : x = s - 2 ^ k.toNat) (hc : c = ls x) (hj : j = 0) : CAI ls mb tl wt lk s k j c := by
  subst hj
  exact ⟨by omega, by rw [sm_zero (Int.le_refl 0), hc, hx]; omega⟩
theorem cai_skip {ls mb tl wt lk : Int → Int} {s k j j' c : Int} (h : CAI ls mb tl wt lk s k j c) (hn : ¬ (j ≠ k ∧ bit s j)) (hj : j' = j + 1) : CAI ls mb tl wt lk s k j' c := ⟨by have := h.1; omega, by rw [sm_succ h.1 hj, caT_out hn]; have := h.2; omega⟩
theorem cai_step {ls mb tl wt lk : Int → Int} {s k j j' c c' a b w : Int} (h : CAI ls mb tl wt lk s k j c) (hn : j ≠ k) (hb : bit s j) (ha : a = mb j) (hb' : b = mb k) (hw : WOX tl wt lk a b w) (hc : c' = c + w) (hj : j' = j + 1) : CAI ls mb tl wt lk s k j' c' := ⟨by have := h.1; omega, by rw [sm_succ h.1 hj, caT_in hn hb, ← ha, ← hb', ← hw]; have := h.2; omega⟩
theorem cap_of {ls mb tl wt lk : Int → Int} {s k j c cn an : Int} (h : CAI ls mb tl wt lk s k j c) (hj : cn ≤ j) (hj2 : j ≤ cn) (ha : an = c) : CAP ls mb tl wt lk s k cn an := by
  unfold CAP CAv; rw [show cn = j by omega, ha]; exact h.2
/-- kinds of what is summed -/
def wkd (mb tl wt lk : Int → Int) (cn : Int) : Prop := (∀ j, 0 ≤ j → j < 48 → 0 ≤ wt j ∧ wt j ≤ 9) ∧ (∀ j, 0 ≤ j → j < 576 → -1 ≤ lk j ∧ lk j ≤ 47) ∧ 0 ≤ cn ∧ cn ≤ 7 ∧ ∀ j, 0 ≤ j → j < cn → 0 ≤ mb j ∧ mb j < 24
theorem caT_sum {mb tl wt lk : Int → Int} {s k cn : Int} (h : wkd mb tl wt lk cn) (k0 : 0 ≤ k) (k1 : k < cn) : 0 ≤ sm (caT mb lk tl wt s k) cn ∧ sm (caT mb lk tl wt s k) cn ≤ 63 := by
  have := smrg (f := caT mb lk tl wt s k) (lo := 0) (hi := 9) h.2.2.1 (fun j a b => by
    by_cases c : j ≠ k ∧ bit s j
    · rw [caT_in c.1 c.2]
      have p := h.2.2.2.2 j a b; have q := h.2.2.2.2 k k0 k1
      exact wO_rng h.1 h.2.1 p.1 p.2 q.1 q.2
    · rw [caT_out c]; omega)
  have := h.2.2.2.1
  omega
/-- least sums are met -/
def LSO (ls mb tl wt lk : Int → Int) (S cn : Int) : Prop := wkd mb tl wt lk cn ∧ ∀ s, 0 ≤ s → s < S → 0 ≤ ls s ∧ ls s ≤ 63 * cnb (bit s) 7 ∧ (1 ≤ s → ∃ k, 0 ≤ k ∧ k < cn ∧ bit s k ∧ ls s = CAv ls mb lk tl wt s k cn)
def LSJ (ls mb tl wt lk : Int → Int) (S cn k : Int) : Prop := LSO ls mb tl wt lk S cn ∧ 1 ≤ S ∧ S < 2 ^ cn.toNat ∧ 0 ≤ k ∧ ((ls S = 1000000 ∧ ∀ j, 0 ≤ j → j < k → ¬ bit S j) ∨ ∃ j, 0 ≤ j ∧ j < k ∧ j < cn ∧ bit S j ∧ ls S = CAv ls mb lk tl wt S j cn ∧ 0 ≤ ls S ∧ ls S ≤ 63 * cnb (bit S) 7)
theorem pow7 {cn : Int} (h0 : 0 ≤ cn) (h1 : cn ≤ 7) : (1 : Int) ≤ 2 ^ cn.toNat ∧ (2 : Int) ^ cn.toNat ≤ 128 := by
  have : cn = 0 ∨ cn = 1 ∨ cn = 2 ∨ cn = 3 ∨ cn = 4 ∨ cn = 5 ∨ cn = 6 ∨ cn = 7 := by omega
  rcases this with e | e | e | e | e | e | e | e <;> subst e <;> decide
theorem lso_start {ls ls' mb tl wt lk : Int → Int} {S cn p x : Int} (hw : wkd mb tl wt lk cn) (hs : st1 ls ls' p x) (hp : p = 0) (hx : x = 0) (hS : S = 1) : LSO ls' mb tl wt lk S cn := ⟨hw, fun s a b => by
  have e : s = 0 := by omega
  rw [(hs s a).1 (by omega)]
  have := (cnb_le (bit s) 7).1
  exact ⟨by omega, by omega, fun q => by omega⟩⟩
/-- a store beyond what a sum looks at leaves it -/
theorem cav_keep {ls ls' mb tl wt lk : Int → Int} {s k cn p x S : Int} (hs : st1 ls ls' p x) (hp : p = S) (h0 : 0 ≤ s - 2 ^ k.toNat) (h1 : s - 2 ^ k.toNat < S) : CAv ls' mb lk tl wt s k cn = CAv ls mb lk tl wt s k cn := by
  unfold CAv; rw [(hs _ h0).2 (by omega)]
theorem sub_bit {s k : Int} (s0 : 0 ≤ s) (s1 : s ≤ 127) (k0 : 0 ≤ k) (k1 : k < 7) (hb : bit s k) : 0 ≤ s - 2 ^ k.toNat ∧ s - 2 ^ k.toNat < s ∧ cnb (bit (s - 2 ^ k.toNat)) 7 + 1 ≤ cnb (bit s) 7 := by
  have key : ∀ a : Nat, a < 128 → ∀ b : Nat, b < 7 → a.testBit b = true → (2 ^ b ≤ a ∧ cnN (a - 2 ^ b) 7 + 1 ≤ cnN a 7) := by decide +kernel
  have hb' : s.toNat.testBit k.toNat = true := (bit_nat s0 k0 (by omega)).mp hb
  have q := key s.toNat (by omega) k.toNat (by omega) hb'
  have p : ((2 ^ k.toNat : Nat) : Int) = 2 ^ k.toNat := by push_cast; rfl
  have pp : (1 : Int) ≤ 2 ^ k.toNat := by rw [← p]; have := Nat.one_le_two_pow (n := k.toNat); omega
  have le : (2 : Int) ^ k.toNat ≤ s := by rw [← p]; omega
  refine ⟨by omega, by omega, ?_⟩
  rw [cnN_is (by omega) 7 (by omega), cnN_is s0 7 (by omega)]
  have e : (s - 2 ^ k.toNat).toNat = s.toNat - 2 ^ k.toNat := by rw [← p]; omega
  rw [e]; omega
theorem lso_keep {ls ls' mb tl wt lk : Int → Int} {S cn p x : Int} (h : LSO ls mb tl wt lk S cn) (S1 : S ≤ 128) (hs : st1 ls ls' p x) (hp : p = S) : LSO ls' mb tl wt lk S cn := ⟨h.1, fun s a b => by
  obtain ⟨q1, q2, q3⟩ := h.2 s a b
  rw [(hs s a).2 (by omega)]
  refine ⟨q1, q2, fun z => ?_⟩
  obtain ⟨k, k0, k1, k2, k3⟩ := q3 z
  have u := sub_bit a (by omega) k0 (by have := h.1.2.2.2.1; omega) k2
  exact ⟨k, k0, k1, k2, by rw [cav_keep hs hp u.1 (by omega)]; exact k3⟩⟩
theorem lsj_start {ls ls' mb tl wt lk : Int → Int} {S cn k p x e : Int} (h : LSO ls mb tl wt lk S cn) (S1 : 1 ≤ S) (hS : S < e) (he : e = 2 ^ cn.toNat) (hs : st1 ls ls' p x) (hp : p = S) (hx : x = 1000000) (hk : k = 0) : LSJ ls' mb tl wt lk S cn k := by
  have := pow7 h.1.2.2.1 h.1.2.2.2.1
  exact ⟨lso_keep h (by omega) hs hp, S1, by omega, by omega, Or.inl ⟨by rw [(hs S (by omega)).1 (by omega)]; exact hx, fun j a b => by omega⟩⟩
theorem lsj_skip {ls mb tl wt lk : Int → Int} {S cn k k' : Int} (h : LSJ ls mb tl wt lk S cn k) (hb : ¬ bit S k) (hk : k' = k + 1) : LSJ ls mb tl wt lk S cn k' := by
  obtain ⟨h1, h2, h3, h4, h5⟩ := h
  refine ⟨h1, h2, h3, by omega, ?_⟩
  rcases h5 with ⟨a, b⟩ | ⟨j, j0, j1, j2⟩
  · exact Or.inl ⟨a, fun j j0 j1 => by by_cases e : j = k; rw [e]; exact hb; exact b j j0 (by omega)⟩
  · exact Or.inr ⟨j, j0, by omega, j2⟩
theorem lsj_step {ls ls' mb tl wt lk : Int → Int} {S cn k k' p x y z : Int} (h : LSJ ls mb tl wt lk S cn k) (hk : k < cn) (hb : bit S k) (hy : y = ls S) (hz : CAP ls mb tl wt lk S k cn z) (h1 : x ≤ y) (h2 : x ≤ z) (h3 : x = y ∨ x = z) (hs : st1 ls ls' p x) (hp : p = S) (hk' : k' = k + 1) : LSJ ls' mb tl wt lk S cn k' := by
  obtain ⟨a1, a2, a3, a4, a5⟩ := h
  have pw := pow7 a1.1.2.2.1 a1.1.2.2.2.1
  have c7 := a1.1.2.2.2.1
  have u := sub_bit (s := S) (by omega) (by omega) a4 (by omega) hb
  have v := a1.2 (S - 2 ^ k.toNat) u.1 (by omega)
  have sm' := caT_sum (s := S) a1.1 a4 hk
  have zb : 0 ≤ z ∧ z ≤ 63 * cnb (bit S) 7 := by unfold CAP CAv at hz; omega
  have c8 := (cnb_le (bit S) 7).2
  have kp : ∀ j, 0 ≤ j → j < cn → bit S j → CAv ls' mb lk tl wt S j cn = CAv ls mb lk tl wt S j cn := fun j j0 j1 j2 => by
    have w := sub_bit (s := S) (by omega) (by omega) j0 (by omega) j2
    exact cav_keep hs hp w.1 (by omega)
  have lS : ls' S = x := (hs S (by omega)).1 (by omega)
  refine ⟨lso_keep a1 (by omega) hs hp, a2, a3, by omega, Or.inr ?_⟩
  have viaZ : x = z → ∃ j, 0 ≤ j ∧ j < k' ∧ j < cn ∧ bit S j ∧ ls' S = CAv ls' mb lk tl wt S j cn ∧ 0 ≤ ls' S ∧ ls' S ≤ 63 * cnb (bit S) 7 := fun e => ⟨k, a4, by omega, hk, hb, by rw [lS, kp k a4 hk hb, e]; exact hz, by rw [lS]; omega, by rw [lS]; omega⟩
  rcases a5 with ⟨b1, b2⟩ | ⟨j, j0, j1, j1', j2, j3, j4, j5⟩
  · exact viaZ (by clear viaZ v kp b2; omega)
  · rcases h3 with e | e
    · clear viaZ v
      exact ⟨j, j0, by omega, j1', j2, by rw [lS, kp j j0 j1' j2]; omega, by rw [lS]; omega, by rw [lS]; omega⟩
    · exact viaZ e
theorem bit_below {s cn : Int} (s0 : 1 ≤ s) (s1 : s < 2 ^ cn.toNat) (c0 : 0 ≤ cn) (c7 : cn ≤ 7) : ∃ k, 0 ≤ k ∧ k < cn ∧ bit s k := by
  obtain ⟨w, w0, w1, w2⟩ := bit_ex (x := s) (by omega) (by have := pow7 c0 c7; omega)
  have := bit_lt (k := cn.toNat) (by omega) s1 w0 w1 w2
  exact ⟨w, w0, by omega, w2⟩
theorem lso_next {ls mb tl wt lk : Int → Int} {S S' cn k : Int} (h : LSJ ls mb tl wt lk S cn k) (hk : cn ≤ k) (hS : S' = S + 1) : LSO ls mb tl wt lk S' cn := by
  obtain ⟨a1, a2, a3, a4, a5⟩ := h
  refine ⟨a1.1, fun s s0 s1 => ?_⟩
  by_cases e : s = S
  · subst e
    rcases a5 with ⟨b1, b2⟩ | ⟨j, j0, j1, j1', j2, j3, j4, j5⟩
    · obtain ⟨w, w0, w1, w2⟩ := bit_below a2 a3 a1.1.2.2.1 a1.1.2.2.2.1
      exact absurd w2 (b2 w w0 (by omega))
    · exact ⟨j4, j5, fun _ => ⟨j, j0, j1', j2, j3⟩⟩
  · exact a1.2 s s0 (by omega)
/-! places are given one by one -/
theorem cnb_drop {P Q : Int → Prop} (k : Nat) {x : Int} (h : ∀ j : Int, 0 ≤ j → j < k → P j → j = x ∨ Q j) : cnb P k ≤ cnb Q k + 1 := by
  induction k with
  | zero => show (0 : Int) ≤ 0 + 1; omega
  | succ k ih =>
    by_cases e : (k : Int) = x
    · have m := cnb_mono (P := P) (Q := Q) k (fun j a b q => (h j a (by push_cast; omega) q).elim (fun z => by omega) (fun z => z))
      by_cases p : P (k : Int)
      · rw [cnb_pos p]
        by_cases q : Q (k : Int)
        · rw [cnb_pos q]; omega
        · rw [cnb_neg q]; omega
      · rw [cnb_neg p]
        by_cases q : Q (k : Int)
        · rw [cnb_pos q]; omega
        · rw [cnb_neg q]; omega
    · have i1 := ih (fun j a b => h j a (by push_cast; omega))
      by_cases p : P (k : Int)
      · have q : Q (k : Int) := (h k (by omega) (by push_cast; omega) p).elim (fun z => absurd z e) (fun z => z)
        rw [cnb_pos p, cnb_pos q]; omega
      · rw [cnb_neg p]
        by_cases q : Q (k : Int)
        · rw [cnb_pos q]; omega
        · rw [cnb_neg q]; omega
def OSI (rk mb : Int → Int) (lf pl cn : Int) : Prop := MGD mb cn ∧ cn ≤ 7 ∧ 0 ≤ lf ∧ lf < 2 ^ cn.toNat ∧ 0 ≤ pl ∧ cnb (bit lf) cn.toNat = cn - pl ∧ (∀ k, 0 ≤ k → k < cn → ¬ bit lf k → 0 ≤ rk (mb k) ∧ rk (mb k) < pl) ∧ ∀ k j, 0 ≤ k → k < j → j < cn → ¬ bit lf k → ¬ bit lf j → rk (mb k) ≠ rk (mb j)
theorem osi_start {rk mb : Int → Int} {lf pl cn e : Int} (h : MGD mb cn) (c7 : cn ≤ 7) (he : e = 2 ^ cn.toNat) (hl : lf = e - 1) (hp : pl = 0) : OSI rk mb lf pl cn := by
  have c0 := h.1
  have p7 := pow7 c0 c7
  have all : ∀ c : Nat, c ≤ 7 → cnN (2 ^ c - 1) c = c ∧ ∀ b : Nat, b < c → (2 ^ c - 1).testBit b = true := by decide +kernel
  have e2 : ((2 ^ cn.toNat : Nat) : Int) = 2 ^ cn.toNat := by push_cast; rfl
  have lt : lf.toNat = 2 ^ cn.toNat - 1 := by omega
  have q := all cn.toNat (by omega)
  have bt : ∀ k, 0 ≤ k → k < cn → bit lf k := fun k k0 k1 => by
    rw [bit_nat (by omega) k0 (by omega), lt]; exact q.2 k.toNat (by omega)
  refine ⟨h, c7, by omega, by omega, by omega, ?_, fun k a b c => absurd (bt k a b) c, fun k j a b c d => absurd (bt k a (by omega)) d⟩
  rw [cnN_is (by omega) cn.toNat (by omega), lt, q.1]; omega
theorem osi_take {rk rk' mb : Int → Int} {lf lf' pl pl' cn k p x y q r m1 : Int} (h : OSI rk mb lf pl cn) (k0 : 0 ≤ k) (k1 : k < cn) (hb : bit lf k) (hs : st1 rk rk' p x) (hp : p = y) (hy : y = mb k) (hx : x = pl) (hq : bvp q = bvp 1 <<< k.toNat) (hr : bvp r = bvp q ^^^ bvp m1) (hm : m1 = -1) (hl : bvp lf' = bvp lf &&& bvp r) (l0 : 0 ≤ lf') (l1 : lf' ≤ 127) (hpl : pl' = pl + 1) : OSI rk' mb lf' pl' cn := by
  obtain ⟨a1, a2, a3, a4, a5, a6, a7, a8⟩ := h
  have p7 := pow7 a1.1 a2
  have bl : ∀ w, 0 ≤ w → w < 32 → (bit lf' w ↔ bit lf w ∧ w ≠ k) := fun w w0 w1 => by rw [bit_and hl, bit_xor hr hm w0 w1, bit_shl hq rfl k0 w0 w1]
  have d := del_bit a3 (by omega) k0 (by omega) hb hq hr hm hl l0 l1
  have up := cnb_more (P := bit lf') (Q := bit lf) cn.toNat (fun j j0 j1 z => ((bl j j0 (by omega)).mp z).1) k0 (by omega) (fun z => ((bl k k0 (by omega)).mp z).2 rfl) hb
  have dn := cnb_drop (P := bit lf) (Q := bit lf') (x := k) cn.toNat (fun j j0 j1 z => by by_cases e : j = k; exact Or.inl e; exact Or.inr ((bl j j0 (by omega)).mpr ⟨z, e⟩))
  have mne : ∀ j, 0 ≤ j → j < cn → j ≠ k → mb j ≠ mb k := fun j j0 j1 ne => by
    by_cases c : j < k
    · exact a1.2.2 j k j0 c k1
    · exact fun e => a1.2.2 k j k0 (by omega) j1 e.symm
  have rk_k : rk' (mb k) = pl := by rw [(hs _ (a1.2.1 k k0 k1).1).1 (by omega)]; exact hx
  have rk_o : ∀ j, 0 ≤ j → j < cn → j ≠ k → rk' (mb j) = rk (mb j) := fun j j0 j1 ne => (hs _ (a1.2.1 j j0 j1).1).2 (by have := mne j j0 j1 ne; omega)
  have nb : ∀ j, 0 ≤ j → j < cn → j ≠ k → ¬ bit lf' j → ¬ bit lf j := fun j j0 j1 ne z w => z ((bl j j0 (by omega)).mpr ⟨w, ne⟩)
  refine ⟨a1, a2, l0, by omega, by omega, by omega, fun j j0 j1 z => ?_, fun i j i0 ij j1 z w => ?_⟩
  · by_cases e : j = k
    · rw [e, rk_k]; omega
    · rw [rk_o j j0 j1 e]; have := a7 j j0 j1 (nb j j0 j1 e z); omega
  · by_cases e : i = k
    · have f : j ≠ k := by omega
      rw [e, rk_k, rk_o j (by omega) j1 f]; have := a7 j (by omega) j1 (nb j (by omega) j1 f w); omega
    · by_cases f : j = k
      · rw [f, rk_k, rk_o i i0 (by omega) e]; have := a7 i i0 (by omega) (nb i i0 (by omega) e z); omega
      · rw [rk_o i i0 (by omega) e, rk_o j (by omega) j1 f]
        exact a8 i j i0 ij j1 (nb i i0 (by omega) e z) (nb j (by omega) j1 f w)
def OSK (ls rk mb tl wt lk : Int → Int) (lf pl cn k fd : Int) : Prop := LSO ls mb tl wt lk (2 ^ cn.toNat) cn ∧ 0 ≤ k ∧ ((fd = 0 ∧ OSI rk mb lf pl cn ∧ pl < cn ∧ ∀ j, 0 ≤ j → j < k → bit lf j → CAv ls mb lk tl wt lf j cn ≠ ls lf) ∨ (fd = 1 ∧ OSI rk mb lf (pl + 1) cn))
def OSL (ls rk mb tl wt lk : Int → Int) (lf pl cn : Int) : Prop := LSO ls mb tl wt lk (2 ^ cn.toNat) cn ∧ OSI rk mb lf pl cn
theorem osk_start {ls rk mb tl wt lk : Int → Int} {lf pl cn k fd : Int} (h : OSL ls rk mb tl wt lk lf pl cn) (hp : pl < cn) (hk : k = 0) (hf : fd = 0) : OSK ls rk mb tl wt lk lf pl cn k fd := ⟨h.1, by omega, Or.inl ⟨hf, h.2, hp, fun j a b => by omega⟩⟩
theorem osk_skip {ls rk mb tl wt lk : Int → Int} {lf pl cn k k' fd : Int} (h : OSK ls rk mb tl wt lk lf pl cn k fd) (hf : fd = 0) (hn : bit lf k → CAv ls mb lk tl wt lf k cn ≠ ls lf) (hk : k' = k + 1) : OSK ls rk mb tl wt lk lf pl cn k' fd := by
  obtain ⟨h1, h2, h3⟩ := h
  refine ⟨h1, by omega, ?_⟩
  rcases h3 with ⟨a, b, c, d⟩ | ⟨a, b⟩
  · exact Or.inl ⟨a, b, c, fun j j0 j1 z => by by_cases e : j = k; rw [e] at z ⊢; exact hn z; exact d j j0 (by omega) z⟩
  · omega
theorem osl_next {ls rk mb tl wt lk : Int → Int} {lf pl pl' cn k fd : Int} (h : OSK ls rk mb tl wt lk lf pl cn k fd) (he : fd ≠ 0 ∨ cn ≤ k) (hp : pl' = pl + 1) : OSL ls rk mb tl wt lk lf pl' cn := by
  obtain ⟨h1, h2, h3⟩ := h
  rcases h3 with ⟨a, b, c, d⟩ | ⟨a, b⟩
  · exfalso
    have c1 : 1 ≤ lf := by
      apply Classical.byContradiction
      intro q
      have z : lf = 0 := by have := b.2.2.1; omega
      have n0 : cnb (bit lf) cn.toNat ≤ cnb (fun _ => False) cn.toNat := cnb_mono cn.toNat (fun j _ _ w => by rw [z] at w; exact absurd w (bit_zero j))
      have n1 : cnb (fun _ => False) cn.toNat = 0 := by
        have : ∀ k : Nat, cnb (fun _ => False) k = 0 := fun k => by
          induction k with
          | zero => rfl
          | succ k ih => rw [cnb_neg (fun z => z)]; exact ih
        exact this _
      have := b.2.2.2.2.2.1
      omega
    obtain ⟨k, k0, k1, k2, k3⟩ := (h1.2 lf b.2.2.1 b.2.2.2.1).2.2 c1
    exact d k k0 (by rcases he with q | q; exact absurd a q; omega) k2 k3.symm
  · exact ⟨h1, by rw [hp]; exact b⟩
theorem ore_osl {ls rk mb tl wt lk : Int → Int} {lf pl cn : Int} (h : OSL ls rk mb tl wt lk lf pl cn) (hp : cn ≤ pl) : ORE rk mb cn := by
  obtain ⟨_, a1, a2, a3, a4, a5, a6, a7, a8⟩ := h
  have none : ∀ k, 0 ≤ k → k < cn → ¬ bit lf k := fun k k0 k1 z => by
    have c := cnb_more (P := fun _ => False) (Q := bit lf) cn.toNat (fun _ _ _ w => w.elim) k0 (by omega) (fun w => w) z
    have := (cnb_le (fun _ => False) cn.toNat).1
    omega
  exact fun s t s0 st t1 => a8 s t s0 st t1 (none s s0 (by omega)) (none t (by omega) t1)
