/-! rows of the past: what a packed state holds, and what it gives back -/
theorem bvp_tn {z : Int} (z0 : 0 ≤ z) (z1 : z ≤ 2147483647) : (bvp z).toNat = z.toNat := by
  unfold bvp; rw [BitVec.toNat_ofInt]
  show (z % 4294967296).toNat = z.toNat
  rw [Int.emod_eq_of_lt z0 (by omega)]
theorem or_sh {a b t x : Int} {k : Nat} (ht : bvp t = bvp b <<< k) (hx : bvp x = bvp a ||| bvp t) (a0 : 0 ≤ a) (a1 : a < 2 ^ k) (b0 : 0 ≤ b) (b1 : b * 2 ^ k ≤ 2147483647) (x0 : 0 ≤ x) (x1 : x ≤ 2147483647) (a2 : a ≤ 2147483647) : x = a + b * 2 ^ k := by
  have kp : (1 : Int) ≤ 2 ^ k := by
    have := Nat.one_le_two_pow (n := k); exact_mod_cast this
  have b2 : b ≤ 2147483647 := by
    have := Int.mul_le_mul_of_nonneg_left kp b0
    omega
  have e := congrArg BitVec.toNat hx
  rw [BitVec.toNat_or, ht, BitVec.toNat_shiftLeft, bvp_tn x0 x1, bvp_tn a0 a2, bvp_tn b0 b2, Nat.shiftLeft_eq] at e
  have c : ((b.toNat * 2 ^ k : Nat) : Int) = b * 2 ^ k := by push_cast; rw [show ((b.toNat : Nat) : Int) = b by omega]
  have a3 : ((2 ^ k : Nat) : Int) = 2 ^ k := by push_cast; rfl
  rw [Nat.mod_eq_of_lt (by omega), ← Nat.shiftLeft_eq, Nat.or_comm, ← Nat.shiftLeft_add_eq_or_of_lt (by omega), Nat.shiftLeft_eq] at e
  omega
theorem shr_div {p q : Int} {k : Nat} (hs : bvp q = bvp p >>> k) (p0 : 0 ≤ p) (p1 : p ≤ 2147483647) (q0 : 0 ≤ q) (q1 : q ≤ 2147483647) : q = p / 2 ^ k := by
  have e := congrArg BitVec.toNat hs
  rw [BitVec.toNat_ushiftRight, bvp_tn p0 p1, bvp_tn q0 q1, Nat.shiftRight_eq_div_pow] at e
  have : q = ((p.toNat / 2 ^ k : Nat) : Int) := by omega
  rw [this]; push_cast
  rw [show ((p.toNat : Nat) : Int) = p by omega]
/-- a node's word, an edge's word -/
def PNW (w : Int) : Prop := 0 ≤ w ∧ w % 256 ≤ 8 ∧ w / 256 % 256 ≤ 99 ∧ w / 65536 ≤ 7
def PEW (n w : Int) : Prop := 0 ≤ w ∧ w % 256 < n ∧ w / 256 % 256 < n ∧ w % 256 ≠ w / 256 % 256 ∧ w / 65536 % 256 ≤ 9 ∧ w / 16777216 ≤ 1
def PRW (pa : Int → Int) (r : Int) : Prop := 0 ≤ pa (122 * r) ∧ pa (122 * r) ≤ 24 ∧ 0 ≤ pa (122 * r + 1) ∧ pa (122 * r + 1) ≤ 48 ∧ (∀ i, 0 ≤ i → i < pa (122 * r) → PNW (pa (122 * r + 4 + 3 * i))) ∧ ∀ e, 0 ≤ e → e < pa (122 * r + 1) → PEW (pa (122 * r)) (pa (122 * r + 74 + e))
def PAS (pa : Int → Int) : Prop := ∀ r, 0 ≤ r → r < 31 → PRW pa r
theorem pas_zero {pa : Int → Int} (h : ∀ j, 0 ≤ j → j < 3782 → pa j = 0) : PAS pa := fun r r0 r1 => by
  have a := h (122 * r) (by omega) (by omega); have b := h (122 * r + 1) (by omega) (by omega)
  exact ⟨by omega, by omega, by omega, by omega, fun i i0 i1 => by omega, fun e e0 e1 => by omega⟩
theorem prw_same {pa pb : Int → Int} {r : Int} (h : PRW pa r) (he : ∀ j, 122 * r ≤ j → j < 122 * r + 122 → pb j = pa j) : PRW pb r := by
  obtain ⟨h0, h1, h2, h3, h4, h5⟩ := h
  have a := he (122 * r) (by omega) (by omega); have b := he (122 * r + 1) (by omega) (by omega)
  refine ⟨by omega, by omega, by omega, by omega, fun i i0 i1 => ?_, fun e e0 e1 => ?_⟩
  · rw [he _ (by omega) (by omega)]; exact h4 i i0 (by omega)
  · rw [a, he (122 * r + 74 + e) (by omega) (by omega)]; exact h5 e e0 (by omega)
theorem pnw_of {a b c t u x y s1 s2 : Int} (ht : bvp t = bvp b <<< s1.toNat) (h1 : s1 = 8) (hx : bvp x = bvp a ||| bvp t) (hu : bvp u = bvp c <<< s2.toNat) (h2 : s2 = 16) (hy : bvp y = bvp x ||| bvp u) (a0 : 0 ≤ a) (a1 : a ≤ 8) (b0 : 0 ≤ b) (b1 : b ≤ 99) (c0 : 0 ≤ c) (c1 : c ≤ 7) (x0 : 0 ≤ x) (x1 : x ≤ 2147483647) (y0 : 0 ≤ y) (y1 : y ≤ 2147483647) : PNW y := by
  subst h1; subst h2
  have e1 : x = a + b * 2 ^ 8 := or_sh (k := 8) ht hx a0 (by omega) b0 (by omega) x0 x1 (by omega)
  have e2 : y = x + c * 2 ^ 16 := or_sh (k := 16) hu hy x0 (by omega) c0 (by omega) y0 y1 (by omega)
  unfold PNW; omega
theorem pew_of {n a b c d t u v x y z s1 s2 s3 : Int} (ht : bvp t = bvp b <<< s1.toNat) (h1 : s1 = 8) (hx : bvp x = bvp a ||| bvp t) (hu : bvp u = bvp c <<< s2.toNat) (h2 : s2 = 16) (hy : bvp y = bvp x ||| bvp u) (hv : bvp v = bvp d <<< s3.toNat) (h3 : s3 = 24) (hz : bvp z = bvp y ||| bvp v) (a0 : 0 ≤ a) (a1 : a < n) (b0 : 0 ≤ b) (b1 : b < n) (ne : a ≠ b) (n24 : n ≤ 24) (c0 : 0 ≤ c) (c1 : c ≤ 9) (d0 : 0 ≤ d) (d1 : d ≤ 1) (x0 : 0 ≤ x) (x1 : x ≤ 2147483647) (y0 : 0 ≤ y) (y1 : y ≤ 2147483647) (z0 : 0 ≤ z) (z1 : z ≤ 2147483647) : PEW n z := by
  subst h1; subst h2; subst h3
  have e1 : x = a + b * 2 ^ 8 := or_sh (k := 8) ht hx a0 (by omega) b0 (by omega) x0 x1 (by omega)
  have e2 : y = x + c * 2 ^ 16 := or_sh (k := 16) hu hy x0 (by omega) c0 (by omega) y0 y1 (by omega)
  have e3 : z = y + d * 2 ^ 24 := or_sh (k := 24) hv hz y0 (by omega) d0 (by omega) z0 z1 (by omega)
  have e4 : z = a + 256 * (b + 256 * (c + 256 * d)) := by omega
  have q1 : z / 256 = b + 256 * (c + 256 * d) := by omega
  have q2 : z % 256 = a := by omega
  have q3 : z / 65536 = c + 256 * d := by omega
  have q4 : z / 16777216 = d := by omega
  exact ⟨by omega, by omega, by rw [q1]; omega, by rw [q1, q2]; omega, by rw [q3]; omega, by omega⟩
def PRO (pa : Int → Int) (r : Int) : Prop := ∀ r', 0 ≤ r' → r' < r → PRW pa r'
def PRI (pa : Int → Int) (r : Int) : Prop := ∀ r', 0 ≤ r' → r' ≤ r → PRW pa r'
def PDQ (dn un : Int) (pa : Int → Int) : Prop := 0 < dn + un → ∀ r', 0 ≤ r' → r' ≤ dn + un → PRW pa r'
def PDN (pa : Int → Int) (dn un : Int) : Prop := PDQ dn un pa
theorem pdq_row {dn un r : Int} {pa : Int → Int} (h : PDQ dn un pa) (h0 : 1 ≤ dn + un) (r0 : 0 ≤ r) (r1 : r ≤ dn + un) : PRW pa r := h (by omega) r r0 r1
theorem pdn_same {dn un dn' un' : Int} {pa : Int → Int} (h : PDN pa dn un) (e1 : dn' = dn) (e2 : un' = un) : PDQ dn' un' pa := by subst e1; subst e2; exact h
theorem pdn_of {dn un dn' un' : Int} {pa : Int → Int} (h : PDQ dn un pa) (e1 : dn' = dn) (e2 : un' = un) : PDN pa dn' un' := by subst e1; subst e2; exact h
/-- packing: the rows before stand, this one grows -/
def PK0 (n m : Int) (pa : Int → Int) (r : Int) : Prop := 0 ≤ r ∧ r < 31 ∧ 0 ≤ n ∧ n ≤ 24 ∧ 0 ≤ m ∧ m ≤ 48 ∧ (∀ r', 0 ≤ r' → r' < r → PRW pa r') ∧ pa (122 * r) = n ∧ pa (122 * r + 1) = m
def PK1 (n m : Int) (pa : Int → Int) (r k i : Int) : Prop := PK0 n m pa r ∧ 0 ≤ i ∧ k = 122 * r + 2 + 3 * i ∧ ∀ j, 0 ≤ j → j < i → PNW (pa (122 * r + 4 + 3 * j))
def PK2 (n m : Int) (pa : Int → Int) (r k e : Int) : Prop := PK0 n m pa r ∧ 0 ≤ e ∧ k = 122 * r + 74 ∧ (∀ j, 0 ≤ j → j < n → PNW (pa (122 * r + 4 + 3 * j))) ∧ ∀ j, 0 ≤ j → j < e → PEW n (pa (122 * r + 74 + j))
theorem pk0_keep {n m r p x : Int} {pa pb : Int → Int} (h : PK0 n m pa r) (hs : st1 pa pb p x) (p0 : 122 * r + 2 ≤ p) (p1 : p < 122 * r + 122) : PK0 n m pb r := by
  obtain ⟨r0, r1, n0, n1, m0, m1, ho, e0, e1⟩ := h
  refine ⟨r0, r1, n0, n1, m0, m1, fun r' a b => prw_same (ho r' a b) (fun j j0 j1 => (hs j (by omega)).2 (by omega)), ?_, ?_⟩
  · rw [(hs (122 * r) (by omega)).2 (by omega)]; exact e0
  · rw [(hs (122 * r + 1) (by omega)).2 (by omega)]; exact e1
theorem pk1_start {n m r k k' p1 p2 x1 x2 i : Int} {pa pb pc : Int → Int} (h : PRO pa r) (r0 : 0 ≤ r) (r1 : r < 31) (n0 : 0 ≤ n) (n1 : n ≤ 24) (m0 : 0 ≤ m) (m1 : m ≤ 48) (hk : k = r * 122) (hs1 : st1 pa pb p1 x1) (hp1 : p1 = k) (hx1 : x1 = n) (hs2 : st1 pb pc p2 x2) (hp2 : p2 = k + 1) (hx2 : x2 = m) (hk' : k' = k + 2) (hi : i = 0) : PK1 n m pc r k' i := by
  refine ⟨⟨r0, r1, n0, n1, m0, m1, fun r' a b => prw_same (h r' a b) (fun j j0 j1 => ?_), ?_, ?_⟩, by omega, by omega, fun j a b => by omega⟩
  · rw [(hs2 j (by omega)).2 (by omega), (hs1 j (by omega)).2 (by omega)]
  · rw [(hs2 _ (by omega)).2 (by omega), (hs1 _ (by omega)).1 (by omega)]; exact hx1
  · rw [(hs2 _ (by omega)).1 (by omega)]; exact hx2
theorem pk1_step {n m r k k' i i' p1 p2 p3 x1 x2 x3 : Int} {pa pb pc pd : Int → Int} (h : PK1 n m pa r k i) (hi : i < n) (hs1 : st1 pa pb p1 x1) (hp1 : p1 = k) (hs2 : st1 pb pc p2 x2) (hp2 : p2 = k + 1) (hs3 : st1 pc pd p3 x3) (hp3 : p3 = k + 2) (hw : PNW x3) (hk' : k' = k + 3) (hi' : i' = i + 1) : PK1 n m pd r k' i' := by
  obtain ⟨h0, i0, ek, hn⟩ := h
  have n1 := h0.2.2.2.1
  refine ⟨pk0_keep (pk0_keep (pk0_keep h0 hs1 (by omega) (by omega)) hs2 (by omega) (by omega)) hs3 (by omega) (by omega), by omega, by omega, fun j a b => ?_⟩
  have r0 := h0.1
  by_cases e : j = i
  · rw [(hs3 _ (by omega)).1 (by omega)]; exact hw
  · rw [(hs3 _ (by omega)).2 (by omega), (hs2 _ (by omega)).2 (by omega), (hs1 _ (by omega)).2 (by omega)]; exact hn j a (by omega)
theorem pk2_start {n m r k k' i e : Int} {pa : Int → Int} (h : PK1 n m pa r k i) (hi : n ≤ i) (hk' : k' = r * 122 + 2 + 72) (he : e = 0) : PK2 n m pa r k' e := ⟨h.1, by omega, by omega, fun j a b => h.2.2.2 j a (by omega), fun j a b => by omega⟩
theorem pk2_step {n m r k e e' p x : Int} {pa pb : Int → Int} (h : PK2 n m pa r k e) (he : e < m) (hs : st1 pa pb p x) (hp : p = k + e) (hw : PEW n x) (he' : e' = e + 1) : PK2 n m pb r k e' := by
  obtain ⟨h0, e0, ek, hn, hm⟩ := h
  have m1 := h0.2.2.2.2.2.1; have n1 := h0.2.2.2.1; have r0 := h0.1
  refine ⟨pk0_keep h0 hs (by omega) (by omega), by omega, ek, fun j a b => ?_, fun j a b => ?_⟩
  · rw [(hs _ (by omega)).2 (by omega)]; exact hn j a b
  · by_cases q : j = e
    · rw [(hs _ (by omega)).1 (by omega)]; exact hw
    · rw [(hs _ (by omega)).2 (by omega)]; exact hm j a (by omega)
theorem pri_of {n m r k e : Int} {pa : Int → Int} (h : PK2 n m pa r k e) (he : m ≤ e) : PRI pa r := fun q q0 q1 => by
  obtain ⟨⟨r0, r1, n0, n1, m0, m1, ho, e0, e1⟩, f0, ek, hn, hm⟩ := h
  by_cases c : q = r
  · subst c
    exact ⟨by omega, by omega, by omega, by omega, fun i a b => hn i a (by omega), fun i a b => by rw [e0]; exact hm i a (by omega)⟩
  · exact ho q q0 (by omega)
/-- rows moved down by one -/
theorem pas_move {pa pb : Int → Int} (h : PAS pa) (hm : ∀ j, 0 ≤ j → j < 3660 → pb j = pa (j + 122)) (hs : ∀ j, 3660 ≤ j → j < 3782 → pb j = pa j) : PAS pb := fun r r0 r1 => by
  by_cases c : r = 30
  · subst c; exact prw_same (h 30 (by omega) (by omega)) (fun j a b => hs j (by omega) (by omega))
  · have q := h (r + 1) (by omega) (by omega)
    obtain ⟨h0, h1, h2, h3, h4, h5⟩ := q
    have a := hm (122 * r) (by omega) (by omega); have b := hm (122 * r + 1) (by omega) (by omega)
    rw [show 122 * r + 122 = 122 * (r + 1) by omega] at a
    rw [show 122 * r + 1 + 122 = 122 * (r + 1) + 1 by omega] at b
    refine ⟨by omega, by omega, by omega, by omega, fun i i0 i1 => ?_, fun e e0 e1 => ?_⟩
    · rw [hm _ (by omega) (by omega), show 122 * r + 4 + 3 * i + 122 = 122 * (r + 1) + 4 + 3 * i by omega]; exact h4 i i0 (by omega)
    · rw [a, hm (122 * r + 74 + e) (by omega) (by omega), show 122 * r + 74 + e + 122 = 122 * (r + 1) + 74 + e by omega]; exact h5 e e0 (by omega)
/-- unpacking -/
def UP1 (n m : Int) (pa : Int → Int) (r k i : Int) : Prop := PRW pa r ∧ 0 ≤ r ∧ r < 31 ∧ n = pa (122 * r) ∧ m = pa (122 * r + 1) ∧ 0 ≤ i ∧ k = 122 * r + 2 + 3 * i
def UP2 (n m : Int) (pa tl hd : Int → Int) (r k e : Int) : Prop := PRW pa r ∧ 0 ≤ r ∧ r < 31 ∧ n = pa (122 * r) ∧ m = pa (122 * r + 1) ∧ 0 ≤ e ∧ k = 122 * r + 74 ∧ ∀ j, 0 ≤ j → j < e → 0 ≤ tl j ∧ tl j < n ∧ 0 ≤ hd j ∧ hd j < n ∧ tl j ≠ hd j
theorem pas_cnt {pa : Int → Int} {r k x : Int} (h : PRW pa r) (r0 : 0 ≤ r) (r1 : r < 31) (hk : k = r * 122) (hx : x = pa k) : 0 ≤ x ∧ x ≤ 24 := by
  have q := h; rw [show k = 122 * r by omega] at hx; exact ⟨by have := q.1; omega, by have := q.2.1; omega⟩
theorem pas_cne {pa : Int → Int} {r k x : Int} (h : PRW pa r) (r0 : 0 ≤ r) (r1 : r < 31) (hk : k = r * 122 + 1) (hx : x = pa k) : 0 ≤ x ∧ x ≤ 48 := by
  have q := h; rw [show k = 122 * r + 1 by omega] at hx; exact ⟨by have := q.2.2.1; omega, by have := q.2.2.2.1; omega⟩
theorem up1_node {n m r k i p x : Int} {pa : Int → Int} (h : UP1 n m pa r k i) (hi : i < n) (hp : p = k + 2) (hx : x = pa p) : PNW x := by
  obtain ⟨ha, r0, r1, en, em, i0, ek⟩ := h
  rw [hx, show p = 122 * r + 4 + 3 * i by omega]; exact ha.2.2.2.2.1 i i0 (by omega)
theorem up1_idx {n m r k i : Int} {pa : Int → Int} (h : UP1 n m pa r k i) (hi : i < n) : 2 ≤ k ∧ k + 2 ≤ 3781 := by
  obtain ⟨ha, r0, r1, en, em, i0, ek⟩ := h
  have q := ha.2.1
  omega
theorem up2_idx {n m r k e : Int} {pa tl hd : Int → Int} (h : UP2 n m pa tl hd r k e) (he : e < m) : 74 ≤ k + e ∧ k + e ≤ 3781 := by
  obtain ⟨ha, r0, r1, en, em, i0, ek, _⟩ := h
  have q := ha.2.2.2.1
  omega
theorem pk1_idx {n m r k i : Int} {pa : Int → Int} (h : PK1 n m pa r k i) (hi : i < n) : 2 ≤ k ∧ k + 2 ≤ 3781 := by
  have a := h.1.1; have b := h.1.2.1; have c := h.1.2.2.2.1; have d := h.2.2.1; have e := h.2.1
  omega
theorem pk2_idx {n m r k e : Int} {pa : Int → Int} (h : PK2 n m pa r k e) (he : e < m) : 74 ≤ k + e ∧ k + e ≤ 3781 := by
  have a := h.1.1; have b := h.1.2.1; have c := h.1.2.2.2.2.2.1; have d := h.2.2.1; have f := h.2.1
  omega
theorem up2_edge {n m r k e p x : Int} {pa tl hd : Int → Int} (h : UP2 n m pa tl hd r k e) (he : e < m) (hp : p = k + e) (hx : x = pa p) : PEW n x := by
  obtain ⟨ha, r0, r1, en, em, i0, ek, _⟩ := h
  rw [hx, show p = 122 * r + 74 + e by omega, en]; exact ha.2.2.2.2.2 e i0 (by omega)
theorem up1_start {n m r k k' i : Int} {pa : Int → Int} (h : PRW pa r) (r0 : 0 ≤ r) (r1 : r < 31) (hk : k = r * 122) (hn : n = pa k) {p : Int} (hp : p = k + 1) (hm : m = pa p) (hk' : k' = k + 2) (hi : i = 0) : UP1 n m pa r k' i := by
  refine ⟨h, r0, r1, ?_, ?_, by omega, by omega⟩
  · rw [hn, show k = 122 * r by omega]
  · rw [hm, show p = 122 * r + 1 by omega]
theorem up2_start {n m r k k' i e : Int} {pa tl hd : Int → Int} (h : UP1 n m pa r k i) (hk' : k' = r * 122 + 2 + 72) (he : e = 0) : UP2 n m pa tl hd r k' e := ⟨h.1, h.2.1, h.2.2.1, h.2.2.2.1, h.2.2.2.2.1, by omega, by omega, fun j a b => by omega⟩
theorem up2_step {n m r k e e' p1 p2 a b x : Int} {pa tl tl' hd hd' : Int → Int} (h : UP2 n m pa tl hd r k e) (hw : PEW n x) (ha : a = x % 256) (hb : b = x / 256 % 256) (hs1 : st1 tl tl' p1 a) (hp1 : p1 = e) (hs2 : st1 hd hd' p2 b) (hp2 : p2 = e) (he' : e' = e + 1) : UP2 n m pa tl' hd' r k e' := by
  obtain ⟨ha', r0, r1, en, em, i0, ek, hj⟩ := h
  refine ⟨ha', r0, r1, en, em, by omega, ek, fun j j0 j1 => ?_⟩
  obtain ⟨w0, w1, w2, w3, _⟩ := hw
  by_cases c : j = e
  · rw [(hs1 j j0).1 (by omega), (hs2 j j0).1 (by omega)]; omega
  · rw [(hs1 j j0).2 (by omega), (hs2 j j0).2 (by omega)]; exact hj j j0 (by omega)
theorem gke_up {n m r k e : Int} {pa tl hd : Int → Int} (h : UP2 n m pa tl hd r k e) (he : m ≤ e) : GKE n m tl hd := fun j a b => h.2.2.2.2.2.2.2 j a (by omega)
def UPN (pa : Int → Int) (n m r k i : Int) : Prop := UP1 n m pa r k i
theorem up1_step {n n' m m' r k k' i i' : Int} {pa : Int → Int} (h : UP1 n m pa r k i) (en : n' = n) (em : m' = m) (hk : k' = k + 3) (hi : i' = i + 1) : UP1 n' m' pa r k' i' := by
  subst en; subst em
  exact ⟨h.1, h.2.1, h.2.2.1, h.2.2.2.1, h.2.2.2.2.1, by have := h.2.2.2.2.2.1; omega, by have := h.2.2.2.2.2.2; omega⟩
theorem and255p {a x q : Int} (h : bvp a = bvp x &&& bvp q) (hq : q = 255) (x0 : 0 ≤ x) (x1 : x ≤ 2147483647) (a0 : 0 ≤ a) (a1 : a ≤ 255) : a = x % 256 := by
  have e := congrArg BitVec.toNat h
  rw [BitVec.toNat_and, bvp_tn a0 (by omega), bvp_tn x0 x1, hq, show (bvp 255).toNat = 2 ^ 8 - 1 from rfl, Nat.and_two_pow_sub_one_eq_mod] at e
  omega
theorem up2_start1 {n n' m m' r k k' i e : Int} {pa tl hd : Int → Int} (h : UPN pa n m r k i) (en : n' = n) (em : m' = m) (hk' : k' = r * 122 + 2 + 72) (he : e = 0) : UP2 n' m' pa tl hd r k' e := by
  subst en; subst em; exact up2_start h hk' he
theorem pew_same {x y p q : Int} {pa : Int → Int} (hx : x = pa p) (hy : y = pa q) (e : q = p) : y = x := by rw [hx, hy, e]
theorem pdq_move {dn un dn' un' : Int} {pa : Int → Int} (h : PDQ dn un pa) (e : dn' + un' = dn + un) : PDQ dn' un' pa := fun h0 r r0 r1 => h (by omega) r r0 (by omega)
theorem tie_bits {a b x y q1 q2 z1 z2 p1 p2 u w : Int} {nr nr1 nr2 : Int → Int} (a0 : 0 ≤ a) (a1 : a < 32) (b0 : 0 ≤ b) (b1 : b < 32) (ne : a ≠ b) (hq1 : bvp q1 = bvp 1 <<< b.toNat) (hz1 : z1 = nr a) (hx : bvp x = bvp z1 ||| bvp q1) (hs1 : st1 nr nr1 p1 x) (hp1 : p1 = a) (hq2 : bvp q2 = bvp 1 <<< a.toNat) (hz2 : z2 = nr1 b) (hy : bvp y = bvp z2 ||| bvp q2) (hs2 : st1 nr1 nr2 p2 y) (hp2 : p2 = b) (u0 : 0 ≤ u) (w0 : 0 ≤ w) (w1 : w < 32) : bit (nr2 u) w ↔ bit (nr u) w ∨ (u = a ∧ w = b) ∨ (u = b ∧ w = a) := by
  subst hp1; subst hp2
  by_cases c : u = p2
  · subst c
    rw [(hs2 u u0).1 rfl, bit_or hy, bit_shl hq2 rfl a0 w0 w1, hz2, (hs1 u u0).2 (by omega)]
    constructor
    · rintro (h | h)
      · exact Or.inl h
      · exact Or.inr (Or.inr ⟨rfl, h⟩)
    · rintro (h | ⟨h, _⟩ | ⟨_, h⟩)
      · exact Or.inl h
      · omega
      · exact Or.inr h
  · rw [(hs2 u u0).2 c]
    by_cases d : u = p1
    · subst d
      rw [(hs1 u u0).1 rfl, bit_or hx, bit_shl hq1 rfl b0 w0 w1, hz1]
      constructor
      · rintro (h | h)
        · exact Or.inl h
        · exact Or.inr (Or.inl ⟨rfl, h⟩)
      · rintro (h | ⟨_, h⟩ | ⟨h, _⟩)
        · exact Or.inl h
        · exact Or.inr h
        · omega
    · rw [(hs1 u u0).2 d]
      constructor
      · exact Or.inl
      · rintro (h | ⟨h, _⟩ | ⟨h, _⟩)
        · exact h
        · omega
        · omega
theorem gnb_tie {n a b x y q1 q2 z1 z2 p1 p2 : Int} {nr nr1 nr2 : Int → Int} (h : GNO n nr) (n24 : n ≤ 24) (a0 : 0 ≤ a) (an : a < n) (b0 : 0 ≤ b) (bn : b < n) (ne : a ≠ b) (hq1 : bvp q1 = bvp 1 <<< b.toNat) (hz1 : z1 = nr a) (hx : bvp x = bvp z1 ||| bvp q1) (hs1 : st1 nr nr1 p1 x) (hp1 : p1 = a) (hq2 : bvp q2 = bvp 1 <<< a.toNat) (hz2 : z2 = nr1 b) (hy : bvp y = bvp z2 ||| bvp q2) (hs2 : st1 nr1 nr2 p2 y) (hp2 : p2 = b) : GNO n nr2 := fun u w u0 u1 w0 w1 hb => by
  have T := fun {u w : Int} (u0 : 0 ≤ u) (w0 : 0 ≤ w) (w1 : w < 32) => tie_bits a0 (by omega) b0 (by omega) ne hq1 hz1 hx hs1 hp1 hq2 hz2 hy hs2 hp2 u0 w0 w1
  rcases (T u0 w0 w1).1 hb with c | ⟨c, d⟩ | ⟨c, d⟩
  · have q := h u w u0 u1 w0 w1 c
    exact ⟨q.1, (T w0 u0 (by omega)).2 (Or.inl q.2)⟩
  · exact ⟨by omega, (T w0 u0 (by omega)).2 (Or.inr (Or.inr ⟨d, c⟩))⟩
  · exact ⟨by omega, (T w0 u0 (by omega)).2 (Or.inr (Or.inl ⟨d, c⟩))⟩
theorem gnb_zero {n : Int} {nr : Int → Int} (n24 : n ≤ 24) (h : ∀ j, 0 ≤ j → j < 24 → nr j = 0) : GNO n nr := fun u w u0 u1 w0 w1 hb => by
  rw [h u u0 (by omega)] at hb
  exact absurd hb (by unfold bit bvp; simp)
theorem gnb_tie1 {n a b x y q1 q2 z1 z2 o1 o2 s1 s2 : Int} {nr nr1 nr2 : Int → Int} (h : GNO n nr) (n24 : n ≤ 24) (a0 : 0 ≤ a) (an : a < n) (b0 : 0 ≤ b) (bn : b < n) (ne : a ≠ b) (hq1 : bvp q1 = bvp o1 <<< s1.toNat) (h1 : o1 = 1) (e1 : s1 = b) (hz1 : z1 = nr a) (hx : bvp x = bvp z1 ||| bvp q1) (hs1 : st1 nr nr1 a x) (hq2 : bvp q2 = bvp o2 <<< s2.toNat) (h2 : o2 = 1) (e2 : s2 = a) (hz2 : z2 = nr1 b) (hy : bvp y = bvp z2 ||| bvp q2) (hs2 : st1 nr1 nr2 b y) : GNO n nr2 := by
  subst h1; subst h2; subst e1; subst e2
  exact gnb_tie h n24 a0 an b0 bn ne hq1 hz1 hx hs1 rfl hq2 hz2 hy hs2 rfl
