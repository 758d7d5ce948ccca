-- bars: the line gets every node
def LNI (ln : Int → Int) (m al inn : Int) : Prop := (2 ≤ m ∧ m ≤ 24) ∧ (∀ k, 0 ≤ k → k < m → (0 ≤ ln k ∧ ln k < 24) ∧ bit al (ln k)) ∧ (∀ i j, 0 ≤ i → i < m → 0 ≤ j → j < m → ln i = ln j → i = j) ∧ ∀ b, 0 ≤ b → b < 32 → (bit inn b ↔ ∃ k, 0 ≤ k ∧ k < m ∧ ln k = b)
def LNJ (ln : Int → Int) (m al inn : Int) : Prop := (2 ≤ m ∧ m ≤ 24) ∧ (∀ k, 0 ≤ k → k < m → (0 ≤ ln k ∧ ln k < 24) ∧ bit al (ln k)) ∧ (∀ i j, 0 ≤ i → i < m → 0 ≤ j → j < m → ln i = ln j → i = j) ∧ ∀ b, 0 ≤ b → b < 32 → bit inn b → ∃ k, 0 ≤ k ∧ k < m ∧ ln k = b
def OFL (len : Int) (ln : Int → Int) (al inn : Int) : Prop := LNI ln len al inn
def OFP (len : Int) (ln : Int → Int) (al inn : Int) : Prop := LNJ ln len al inn
def OFQ (len : Int) (ln : Int → Int) (al inn k : Int) : Prop := LNJ ln len al inn ∧ 0 ≤ k ∧ ∀ j, 0 ≤ j → j < k → j < len → bit inn (ln j)
theorem ofq_start {len al inn k : Int} {ln : Int → Int} (h : OFP len ln al inn) (hk : k = 0) : OFQ len ln al inn k := ⟨h, by omega, fun j a b => by omega⟩
theorem ofq_step {len al inn inn' k k' v q one : Int} {ln : Int → Int} (h : OFQ len ln al inn k) (k1 : k < len) (hv : v = ln k) (h1 : one = 1) (hq : bvp q = bvp one <<< v.toNat) (ho : bvp inn' = bvp inn ||| bvp q) (hk : k' = k + 1) : OFQ len ln al inn' k' := by
  obtain ⟨⟨a, b, c, d⟩, e, f⟩ := h
  have vr := b k e k1
  rw [← hv] at vr
  have bq : ∀ w, 0 ≤ w → w < 32 → (bit inn' w ↔ bit inn w ∨ w = v) := fun w w0 w1 => by rw [bit_or ho, bit_shl hq h1 vr.1.1 w0 w1]
  refine ⟨⟨a, b, c, fun w w0 w1 z => ?_⟩, by omega, fun j j0 j1 j2 => ?_⟩
  · rcases (bq w w0 w1).mp z with y | y
    · exact d w w0 w1 y
    · exact ⟨k, e, k1, by rw [y, hv]⟩
  · have r := b j j0 j2
    rw [bq (ln j) r.1.1 (by omega)]
    by_cases g : j = k
    · exact Or.inr (by rw [g, hv])
    · exact Or.inl (f j j0 (by omega) j2)
theorem ofl_of {len al inn k : Int} {ln : Int → Int} (h : OFQ len ln al inn k) (hk : len ≤ k) : OFL len ln al inn := by
  obtain ⟨⟨a, b, c, d⟩, e, f⟩ := h
  exact ⟨a, b, c, fun w w0 w1 => ⟨d w w0 w1, fun ⟨j, j0, j1, j2⟩ => by rw [← j2]; exact f j j0 (by omega) j1⟩⟩
/-- the ends of the first edge are inside -/
def OFT (tl hd : Int → Int) (inn : Int) : Prop := bit inn (tl 0) ∧ bit inn (hd 0)
theorem oft_or {tl hd : Int → Int} {inn inn' q : Int} (h : OFT tl hd inn) (ho : bvp inn' = bvp inn ||| bvp q) : OFT tl hd inn' := ⟨(bit_or ho _).mpr (Or.inl h.1), (bit_or ho _).mpr (Or.inl h.2)⟩
theorem ofs_both {n p q inn a b o1 o2 al len : Int} {nr tl hd ln : Int → Int} (h : EAR n nr tl hd) (n24 : n ≤ 24) (ha : ALC n al) (e1 : ln 0 = tl 0) (e2 : ln 1 = hd 0) (h1 : a = ln 0) (h2 : b = ln 1) (o1' : o1 = 1) (o2' : o2 = 1) (hp : bvp p = bvp o1 <<< a.toNat) (hq : bvp q = bvp o2 <<< b.toNat) (hi : bvp inn = bvp p ||| bvp q) (hl : len = 2) : OFL len ln al inn ∧ OFT tl hd inn := by
  obtain ⟨⟨t0, t1⟩, ⟨d0, d1⟩, ne⟩ := h.1
  have bi : ∀ w, 0 ≤ w → w < 32 → (bit inn w ↔ w = tl 0 ∨ w = hd 0) := fun w w0 w1 => by rw [bit_or hi, bit_shl hp o1' (by omega) w0 w1, bit_shl hq o2' (by omega) w0 w1, h1, h2, e1, e2]
  refine ⟨⟨by omega, fun k k0 k1 => ?_, fun i j i0 i1 j0 j1 e => ?_, fun w w0 w1 => ?_⟩, (bi _ t0 (by omega)).mpr (Or.inl rfl), (bi _ d0 (by omega)).mpr (Or.inr rfl)⟩
  · by_cases c : k = 0
    · rw [c, e1]; exact ⟨⟨t0, by omega⟩, (ha _ t0 (by omega)).mpr t1⟩
    · rw [show k = 1 by omega, e2]; exact ⟨⟨d0, by omega⟩, (ha _ d0 (by omega)).mpr d1⟩
  · by_cases c : i = 0
    · by_cases d : j = 0
      · omega
      · rw [c, show j = 1 by omega, e1, e2] at e; exact absurd e ne
    · by_cases d : j = 0
      · rw [d, show i = 1 by omega, e1, e2] at e; exact absurd e.symm ne
      · omega
  · rw [bi w w0 w1]
    constructor
    · rintro (y | y)
      · exact ⟨0, by omega, by omega, by rw [e1, y]⟩
      · exact ⟨1, by omega, by omega, by rw [e2, y]⟩
    · rintro ⟨k, k0, k1, k2⟩
      by_cases c : k = 0
      · rw [c, e1] at k2; exact Or.inl k2.symm
      · rw [show k = 1 by omega, e2] at k2; exact Or.inr k2.symm
/-- some node is free -/
def OFN (n inn : Int) : Prop := ∃ w, 0 ≤ w ∧ w < n ∧ ¬ bit inn w
theorem bit_eq {x y : Int} (h : ∀ w, 0 ≤ w → w < 32 → (bit x w ↔ bit y w)) (x0 : -2147483648 ≤ x) (x1 : x ≤ 2147483647) (y0 : -2147483648 ≤ y) (y1 : y ≤ 2147483647) : x = y := by
  have e : bvp x = bvp y := by
    apply BitVec.eq_of_getLsbD_eq
    intro i hi
    have := h (i : Int) (by omega) (by omega)
    unfold bit at this
    simp only [Int.toNat_natCast] at this
    cases hx : (bvp x).getLsbD i <;> cases hy : (bvp y).getLsbD i <;> simp_all
  have tx : (bvp x).toInt = x := by unfold bvp; rw [BitVec.toInt_ofInt]; unfold Int.bmod; simp only; split <;> omega
  have ty : (bvp y).toInt = y := by unfold bvp; rw [BitVec.toInt_ofInt]; unfold Int.bmod; simp only; split <;> omega
  rw [← tx, ← ty, e]
theorem ofn_of {n len al inn : Int} {ln : Int → Int} (h : OFL len ln al inn) (ha : ALC n al) (ne : inn ≠ al) (x0 : -2147483648 ≤ inn) (x1 : inn ≤ 2147483647) (y0 : -2147483648 ≤ al) (y1 : al ≤ 2147483647) : OFN n inn := by
  refine Classical.byContradiction (fun c => ne (bit_eq (fun w w0 w1 => ?_) x0 x1 y0 y1))
  have all : ∀ w, 0 ≤ w → w < n → bit inn w := fun w a b => Classical.byContradiction (fun d => c ⟨w, a, b, d⟩)
  refine ⟨fun z => ?_, fun z => all w w0 ((ha w w0 w1).mp z)⟩
  obtain ⟨k, k0, k1, k2⟩ := (h.2.2.2 w w0 w1).mp z
  rw [← k2]; exact (h.2.1 k k0 k1).2
/-- a way: its inner nodes are free -/
def EWY (wy : Int → Int) (al inn len : Int) : Prop := len = 0 ∨ (3 ≤ len ∧ (∀ j, 1 ≤ j → j < len - 1 → (0 ≤ wy j ∧ wy j < 24) ∧ bit al (wy j) ∧ ¬ bit inn (wy j)) ∧ ∀ i j, 1 ≤ i → i < len - 1 → 1 ≤ j → j < len - 1 → wy i = wy j → i = j)
theorem ewy_of {wy : Int → Int} {n st en fr an al inn r2 : Int} (h : SHW wy st en fr an) (hal : ALC n al) (n24 : n ≤ 24) (hr2 : bvp r2 = bvp inn ^^^ bvp (-1)) (hf : bvp fr = bvp al &&& bvp r2) : EWY wy al inn an := by
  rcases h with h | ⟨a, _, _, _, _, b, c⟩
  · exact Or.inl h
  · refine Or.inr ⟨a, fun j j0 j1 => ?_, fun i j i0 i1 j0 j1 e => ?_⟩
    · obtain ⟨p, q, r⟩ := b j j0 j1
      rw [bit_and hf, bit_xor hr2 rfl p q] at r
      exact ⟨⟨p, by have := (hal _ p q).mp r.1; omega⟩, r.1, r.2⟩
    · by_cases x : i < j
      · exact absurd e (c i j i0 x j1)
      · by_cases y : j < i
        · exact absurd e.symm (c j i j0 y i1)
        · omega
def WYJ (wy : Int → Int) (n al inn : Int) : Prop := (∀ j, 0 ≤ j → j < n → (0 ≤ wy j ∧ wy j < 24) ∧ bit al (wy j) ∧ ¬ bit inn (wy j)) ∧ ∀ i j, 0 ≤ i → i < n → 0 ≤ j → j < n → wy i = wy j → i = j
def EWJ (wy : Int → Int) (al inn n : Int) : Prop := WYJ wy n al inn
theorem lni_room {ln wy : Int → Int} {m n al inn : Int} (h : LNI ln m al inn) (hw : WYJ wy n al inn) (n0 : 0 ≤ n) : m + n ≤ 24 := by
  have sep : ∀ i j, 0 ≤ i → i < m → 0 ≤ j → j < n → ln i ≠ wy j := fun i j i0 i1 j0 j1 e => by
    have a := h.2.1 i i0 i1
    exact (hw.1 j j0 j1).2.2 ((h.2.2.2 (wy j) (hw.1 j j0 j1).1.1 (by have := (hw.1 j j0 j1).1.2; omega)).mpr ⟨i, i0, i1, e⟩)
  have m0 := h.1.1
  have := php (m + n).toNat 24 (fun i => ((fun j : Int => if j < m then ln j else wy (j - m)) (i : Int)).toNat) (fun i hi => by
    show (if (i : Int) < m then ln i else wy (i - m)).toNat < 24
    split
    · have := h.2.1 i (by omega) (by assumption); omega
    · have := (hw.1 (i - m) (by omega) (by omega)).1; omega) (fun i j hi hj e => by
    have e : (if (i : Int) < m then ln i else wy (i - m)).toNat = (if (j : Int) < m then ln j else wy (j - m)).toNat := e
    by_cases a : (i : Int) < m
    · have ha := h.2.1 i (by omega) a
      rw [if_pos a] at e
      by_cases b : (j : Int) < m
      · have hb := h.2.1 j (by omega) b
        rw [if_pos b] at e
        have := h.2.2.1 i j (by omega) a (by omega) b (by omega)
        omega
      · have hb := hw.1 (j - m) (by omega) (by omega)
        rw [if_neg b] at e
        exact absurd (by omega) (sep i (j - m) (by omega) a (by omega) (by omega))
    · have ha := hw.1 (i - m) (by omega) (by omega)
      rw [if_neg a] at e
      by_cases b : (j : Int) < m
      · have hb := h.2.1 j (by omega) b
        rw [if_pos b] at e
        exact absurd (by omega) (sep j (i - m) (by omega) b (by omega) (by omega))
      · have hb := hw.1 (j - m) (by omega) (by omega)
        rw [if_neg b] at e
        have := hw.2 (i - m) (j - m) (by omega) (by omega) (by omega) (by omega) (by omega)
        omega)
  omega
/-- the way's inner nodes come to its front -/
def DW1 (d s : Int → Int) (sp dp n al inn : Int) : Prop := (sp = 1 ∧ dp = 0 ∧ 0 ≤ n) ∧ EWY s al inn (n + 2)
def DW2 (d s : Int → Int) (sp dp n al inn : Int) : Prop := WYJ d n al inn
theorem dw1_dw2 {Dd S D' S' : Int → Int} {sp dp n : Int} (al inn : Int) (_ : 0 ≤ sp) (_ : 0 ≤ dp) (_ : 0 ≤ n) (h1 : ∀ j, 0 ≤ j → D' j = if dp ≤ j ∧ j < dp + n then S (sp + (j - dp)) else Dd j) (_ : (∀ j, S' j = S j) ∨ ((∀ j, S' j = D' j) ∧ ∀ j, S j = Dd j)) (h : DW1 Dd S sp dp n al inn) : DW2 D' S' sp dp n al inn := by
  obtain ⟨⟨a, b, c⟩, q⟩ := h
  have new : ∀ j, 0 ≤ j → j < n → D' j = S (j + 1) := fun j a' b' => by rw [h1 j a', if_pos (by omega), show sp + (j - dp) = j + 1 by omega]
  by_cases z : n = 0
  · exact ⟨fun j a' b' => by omega, fun i j a' b' => by omega⟩
  rcases q with q | ⟨_, q1, q2⟩
  · omega
  · refine ⟨fun j a' b' => by rw [new j a' b']; exact q1 (j + 1) (by omega) (by omega), fun i j i0 i1 j0 j1 e => ?_⟩
    rw [new i i0 i1, new j j0 j1] at e
    have := q2 (i + 1) (j + 1) (by omega) (by omega) (by omega) (by omega) e
    omega
/-- turned round -/
def LVR (lv wy : Int → Int) (al inn n k : Int) : Prop := EWY wy al inn (n + 2) ∧ 0 ≤ k ∧ ∀ j, 0 ≤ j → j < k → lv j = wy (n - j)
theorem lvr_start {lv wy : Int → Int} {al inn len n k : Int} (h : EWY wy al inn len) (hn : len = n + 2) (hk : k = 0) : LVR lv wy al inn n k := ⟨by rw [← hn]; exact h, by omega, fun j a b => by omega⟩
theorem lvr_step {lv lv' wy : Int → Int} {al inn n k k' p x i : Int} (h : LVR lv wy al inn n k) (hs : st1 lv lv' p x) (hp : p = k) (hx : x = wy i) (hi : i = n - k) (hk : k' = k + 1) : LVR lv' wy al inn n k' := by
  obtain ⟨a, b, c⟩ := h
  refine ⟨a, by omega, fun j j0 j1 => ?_⟩
  by_cases e : j = k
  · rw [(hs j j0).1 (by omega), hx, hi, e]
  · rw [(hs j j0).2 (by omega)]; exact c j j0 (by omega)
def DV1 (d s : Int → Int) (sp dp n al inn : Int) : Prop := (sp = 0 ∧ dp = 0 ∧ 0 ≤ n) ∧ WYJ s n al inn
def DV2 (d s : Int → Int) (sp dp n al inn : Int) : Prop := WYJ d n al inn
theorem dv1_of {d lv wy : Int → Int} {al inn n k sp dp : Int} (h : LVR lv wy al inn n k) (hk : n ≤ k) (hs : sp = 0) (hd : dp = 0) (n0 : 0 ≤ n) : DV1 d lv sp dp n al inn := by
  obtain ⟨a, b, c⟩ := h
  refine ⟨⟨hs, hd, n0⟩, ?_⟩
  by_cases z : n = 0
  · exact ⟨fun j a' b' => by omega, fun i j a' b' => by omega⟩
  rcases a with q | ⟨_, q1, q2⟩
  · omega
  · refine ⟨fun j a' b' => by rw [c j a' (by omega)]; exact q1 (n - j) (by omega) (by omega), fun i j i0 i1 j0 j1 e => ?_⟩
    rw [c i i0 (by omega), c j j0 (by omega)] at e
    have := q2 (n - i) (n - j) (by omega) (by omega) (by omega) (by omega) e
    omega
theorem dv1_le {Dd S : Int → Int} {sp dp n : Int} (al inn : Int) (_ : 0 ≤ sp) (_ : 0 ≤ dp) (_ : 0 ≤ n) (h : DV1 Dd S sp dp n al inn) : ∀ j, 0 ≤ j → j < n → 0 ≤ S (sp + j) ∧ S (sp + j) ≤ 23 := fun j a b => by
  have := (h.2.1 j a b).1
  rw [show sp + j = j by have := h.1.1; omega]; omega
theorem dv1_dv2 {Dd S D' S' : Int → Int} {sp dp n : Int} (al inn : Int) (_ : 0 ≤ sp) (_ : 0 ≤ dp) (_ : 0 ≤ n) (h1 : ∀ j, 0 ≤ j → D' j = if dp ≤ j ∧ j < dp + n then S (sp + (j - dp)) else Dd j) (_ : (∀ j, S' j = S j) ∨ ((∀ j, S' j = D' j) ∧ ∀ j, S j = Dd j)) (h : DV1 Dd S sp dp n al inn) : DV2 D' S' sp dp n al inn := by
  obtain ⟨⟨a, b, c⟩, q⟩ := h
  have new : ∀ j, 0 ≤ j → j < n → D' j = S j := fun j a' b' => by rw [h1 j a', if_pos (by omega), show sp + (j - dp) = j by omega]
  refine ⟨fun j a' b' => by rw [new j a' b']; exact q.1 j a' b', fun i j i0 i1 j0 j1 e => ?_⟩
  rw [new i i0 i1, new j j0 j1] at e
  exact q.2 i j i0 i1 j0 j1 e
/-- the way comes into the line -/
def DRQ1 (d s wy : Int → Int) (sp dp n m al inn : Int) : Prop := ((0 ≤ sp ∧ sp ≤ dp) ∧ n = m - sp ∧ 0 ≤ n ∧ m + (dp - sp) ≤ 24) ∧ LNI d m al inn ∧ (∀ j, s j = d j) ∧ WYJ wy (dp - sp) al inn
def DRQ2 (d s wy : Int → Int) (sp dp n m al inn : Int) : Prop := ((0 ≤ sp ∧ sp ≤ dp) ∧ n = m - sp ∧ 0 ≤ n ∧ m + (dp - sp) ≤ 24) ∧ (∃ l0 : Int → Int, LNI l0 m al inn ∧ (∀ q, 0 ≤ q → q < sp → d q = l0 q) ∧ ∀ q, dp ≤ q → q < m + (dp - sp) → d q = l0 (q - (dp - sp))) ∧ WYJ wy (dp - sp) al inn
def DRQ3 (d s wy : Int → Int) (sp dp n m al inn : Int) : Prop := (sp = 0 ∧ 0 ≤ dp ∧ 0 ≤ n ∧ m + n ≤ 24 ∧ dp ≤ m) ∧ (∃ l0 : Int → Int, LNI l0 m al inn ∧ (∀ q, 0 ≤ q → q < dp → d q = l0 q) ∧ ∀ q, dp + n ≤ q → q < m + n → d q = l0 (q - n)) ∧ WYJ s n al inn
def DRQ4 (d s wy : Int → Int) (sp dp n m al inn : Int) : Prop := LNJ d (m + n) al inn
theorem dr1_of {len m al inn sp dp n ct : Int} {line way : Int → Int} (h : OFL len line al inn) (hm : m = len) (hw : EWJ way al inn ct) (s0 : 0 ≤ sp) (hd : dp = sp + ct) (c0 : 0 ≤ ct) (hn : n = m - sp) (n0 : 0 ≤ n) : DRQ1 line line way sp dp n m al inn := by
  subst hm
  have := lni_room h hw c0
  exact ⟨⟨⟨s0, by omega⟩, hn, n0, by omega⟩, h, fun _ => rfl, by rw [show dp - sp = ct by omega]; exact hw⟩
theorem dr1_dr2 {U U' : Nat → Int → Int} {xs : List Int} {sp dp n : Int} (_ : 0 ≤ sp) (_ : 0 ≤ dp) (_ : 0 ≤ n) (h1 : ∀ j, 0 ≤ j → U' 0 j = if dp ≤ j ∧ j < dp + n then U 1 (sp + (j - dp)) else U 0 j) (_ : (∀ j, U' 1 j = U 1 j) ∨ ((∀ j, U' 1 j = U' 0 j) ∧ ∀ j, U 1 j = U 0 j)) (h3 : ∀ i, 2 ≤ i → ∀ j, U' i j = U i j) (e1 : xs.getD 3 0 = sp) (e2 : xs.getD (3 + 1) 0 = dp) (e3 : xs.getD (3 + 2) 0 = n) (h : DRQ1 (U 0) (U 1) (U 2) (xs.getD 3 0) (xs.getD 4 0) (xs.getD 5 0) (xs.getD 6 0) (xs.getD 7 0) (xs.getD 8 0)) : DRQ2 (U' 0) (U' 1) (U' 2) (xs.getD 3 0) (xs.getD 4 0) (xs.getD 5 0) (xs.getD 6 0) (xs.getD 7 0) (xs.getD 8 0) := by
  have e2 : xs.getD 4 0 = dp := e2
  have e3 : xs.getD 5 0 = n := e3
  rw [e1, e2, e3] at h ⊢
  obtain ⟨⟨⟨a1, a2⟩, a3, a4, a5⟩, b, c, d⟩ := h
  have w2 : U' 2 = U 2 := funext (h3 2 (by omega))
  refine ⟨⟨⟨a1, a2⟩, a3, a4, a5⟩, ⟨U 0, b, fun q q0 q1 => ?_, fun q q0 q1 => ?_⟩, by rw [w2]; exact d⟩
  · rw [h1 q q0, if_neg (by omega)]
  · rw [h1 q (by omega), if_pos (by omega), c, show sp + (q - dp) = q - (dp - sp) by omega]
theorem dr3_of {m al inn sp dp n sp' dp' n' : Int} {line s way : Int → Int} (h : DRQ2 line s way sp dp n m al inn) (h1 : sp' = 0) (h2 : dp' = sp) (h3 : n' = dp - sp) : DRQ3 line way way sp' dp' n' m al inn := by
  obtain ⟨⟨⟨a1, a2⟩, a3, a4, a5⟩, ⟨l0, b, c, d⟩, e⟩ := h
  subst h2 h3
  exact ⟨⟨h1, a1, by omega, a5, by omega⟩, ⟨l0, b, c, fun q q0 q1 => d q (by omega) q1⟩, e⟩
theorem dr3_dr4 {U U' : Nat → Int → Int} {xs : List Int} {sp dp n : Int} (_ : 0 ≤ sp) (_ : 0 ≤ dp) (_ : 0 ≤ n) (h1 : ∀ j, 0 ≤ j → U' 0 j = if dp ≤ j ∧ j < dp + n then U 1 (sp + (j - dp)) else U 0 j) (_ : (∀ j, U' 1 j = U 1 j) ∨ ((∀ j, U' 1 j = U' 0 j) ∧ ∀ j, U 1 j = U 0 j)) (h3 : ∀ i, 2 ≤ i → ∀ j, U' i j = U i j) (e1 : xs.getD 3 0 = sp) (e2 : xs.getD (3 + 1) 0 = dp) (e3 : xs.getD (3 + 2) 0 = n) (h : DRQ3 (U 0) (U 1) (U 2) (xs.getD 3 0) (xs.getD 4 0) (xs.getD 5 0) (xs.getD 6 0) (xs.getD 7 0) (xs.getD 8 0)) : DRQ4 (U' 0) (U' 1) (U' 2) (xs.getD 3 0) (xs.getD 4 0) (xs.getD 5 0) (xs.getD 6 0) (xs.getD 7 0) (xs.getD 8 0) := by
  have e2 : xs.getD 4 0 = dp := e2
  have e3 : xs.getD 5 0 = n := e3
  rw [e1, e2, e3] at h ⊢
  generalize xs.getD 6 0 = m at h ⊢
  generalize xs.getD 7 0 = al at h ⊢
  generalize xs.getD 8 0 = inn at h ⊢
  obtain ⟨⟨a1, a2, a3, a4, a5⟩, ⟨l0, ⟨b1, b2, b3, b4⟩, c, d⟩, w1, w2⟩ := h
  have z1 : ∀ q, 0 ≤ q → q < dp → U' 0 q = l0 q := fun q q0 q1 => by rw [h1 q q0, if_neg (by omega)]; exact c q q0 q1
  have z2 : ∀ q, dp ≤ q → q < dp + n → U' 0 q = U 1 (q - dp) := fun q q0 q1 => by rw [h1 q (by omega), if_pos (by omega), show sp + (q - dp) = q - dp by omega]
  have z3 : ∀ q, dp + n ≤ q → q < m + n → U' 0 q = l0 (q - n) := fun q q0 q1 => by rw [h1 q (by omega), if_neg (by omega)]; exact d q q0 q1
  have sep : ∀ i j, 0 ≤ i → i < m → 0 ≤ j → j < n → l0 i ≠ U 1 j := fun i j i0 i1 j0 j1 e =>
    (w1 j j0 j1).2.2 ((b4 (U 1 j) (w1 j j0 j1).1.1 (by have := (w1 j j0 j1).1.2; omega)).mpr ⟨i, i0, i1, e⟩)
  -- every place is of one of two kinds
  have kind : ∀ q, 0 ≤ q → q < m + n → (∃ i, (0 ≤ i ∧ i < m) ∧ U' 0 q = l0 i ∧ q = (if i < dp then i else i + n)) ∨ ∃ j, (0 ≤ j ∧ j < n) ∧ U' 0 q = U 1 j ∧ q = j + dp := fun q q0 q1 => by
    by_cases x : q < dp
    · exact Or.inl ⟨q, ⟨q0, by omega⟩, z1 q q0 x, by rw [if_pos x]⟩
    · by_cases y : q < dp + n
      · exact Or.inr ⟨q - dp, ⟨by omega, by omega⟩, z2 q (by omega) y, by omega⟩
      · exact Or.inl ⟨q - n, ⟨by omega, by omega⟩, z3 q (by omega) q1, by rw [if_neg (by omega)]; omega⟩
  refine ⟨by omega, fun q q0 q1 => ?_, fun i j i0 i1 j0 j1 e => ?_, fun b b0 b1' z => ?_⟩
  · rcases kind q q0 q1 with ⟨i, ⟨i0, i1⟩, x, _⟩ | ⟨j, ⟨j0, j1⟩, x, _⟩
    · rw [x]; exact b2 i i0 i1
    · rw [x]; exact ⟨(w1 j j0 j1).1, (w1 j j0 j1).2.1⟩
  · rcases kind i i0 i1 with ⟨p, ⟨p0, p1⟩, x, x2⟩ | ⟨p, ⟨p0, p1⟩, x, x2⟩
    · rcases kind j j0 j1 with ⟨r, ⟨r0, r1⟩, y, y2⟩ | ⟨r, ⟨r0, r1⟩, y, y2⟩
      · have := b3 p r p0 p1 r0 r1 (by rw [← x, ← y]; exact e)
        rw [x2, y2, this]
      · exact absurd (by rw [← x, ← y]; exact e) (sep p r p0 p1 r0 r1)
    · rcases kind j j0 j1 with ⟨r, ⟨r0, r1⟩, y, y2⟩ | ⟨r, ⟨r0, r1⟩, y, y2⟩
      · exact absurd (by rw [← x, ← y]; exact e.symm) (sep r p r0 r1 p0 p1)
      · have := w2 p r p0 p1 r0 r1 (by rw [← x, ← y]; exact e)
        rw [x2, y2, this]
  · obtain ⟨k, k0, k1, k2⟩ := (b4 b b0 b1').mp z
    by_cases x : k < dp
    · exact ⟨k, k0, by omega, by rw [z1 k k0 x]; exact k2⟩
    · exact ⟨k + n, by omega, by omega, by rw [z3 (k + n) (by omega) (by omega), show k + n - n = k by omega]; exact k2⟩
theorem ofp_4 {len m al inn sp dp n : Int} {line s way : Int → Int} (h : DRQ4 line s way sp dp n m al inn) (hl : len = m + n) : OFP len line al inn := by rw [hl]; exact h
/-- the line has every node -/
def LCV (n : Int) (ln : Int → Int) : Prop := ∀ v, 0 ≤ v → v < n → ∃ k, 0 ≤ k ∧ k < n ∧ ln k = v
theorem lcv_of {len n al inn : Int} {ln : Int → Int} (h : OFL len ln al inn) (ha : ALC n al) (n24 : n ≤ 24) (e : inn = al) : LCV n ln := by
  obtain ⟨a, b, c, d⟩ := h
  have ln' : len ≤ n := by
    have n0 : 0 ≤ n := by
      have q := b 0 (by omega) (by omega)
      have := (ha _ q.1.1 (by omega)).mp q.2
      omega
    have := php len.toNat n.toNat (fun i => (ln (i : Int)).toNat) (fun i hi => by
      have q := b i (by omega) (by omega)
      have := (ha _ q.1.1 (by omega)).mp q.2
      show (ln (i : Int)).toNat < n.toNat
      omega) (fun i j hi hj q => by
      have q : (ln (i : Int)).toNat = (ln (j : Int)).toNat := q
      have q1 := b i (by omega) (by omega)
      have q2 := b j (by omega) (by omega)
      have := c i j (by omega) (by omega) (by omega) (by omega) (by omega)
      omega)
    omega
  intro v v0 v1
  obtain ⟨k, k0, k1, k2⟩ := (d v v0 (by omega)).mp (by rw [e]; exact (ha v v0 (by omega)).mpr v1)
  exact ⟨k, k0, by omega, k2⟩
