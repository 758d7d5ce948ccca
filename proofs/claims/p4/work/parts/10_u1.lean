/-! the orders of layers as their constructor lists them -/
def sog (m : Int) : Int := if 7 ≤ m then 873 else sof m
def LOG (od : Int → Int) (m : Int) : Prop := ∀ n k i, 1 ≤ n → n ≤ 6 → n < m → 0 ≤ k → k < cof n → 0 ≤ i → i < n → od (sof n + k) / 8 ^ i.toNat % 8 < n
def LOA (od : Int → Int) (m s : Int) : Prop := 1 ≤ m ∧ m ≤ 7 ∧ s = sog m ∧ LOG od m ∧ ∀ j, s ≤ j → j < 873 → od j = 0
def LOP (od : Int → Int) (m s : Int) : Prop := LOA od (m + 1) s
def LOC (od : Int → Int) (m s i : Int) : Prop := (1 ≤ m ∧ m ≤ 6) ∧ (s = sof m ∧ s ≤ i) ∧ LOG od m ∧ (∀ j q, s ≤ j → j < i → 0 ≤ q → q < m → od j / 8 ^ q.toNat % 8 < m) ∧ ∀ j, i ≤ j → j < 873 → od j = 0
def LOE (od : Int → Int) (m s i k : Int) : Prop := (1 ≤ m ∧ m ≤ 6) ∧ (s = sof m ∧ s ≤ i) ∧ LOG od m ∧ (∀ j q, s ≤ j → j < i → 0 ≤ q → q < m → od j / 8 ^ q.toNat % 8 < m) ∧ (∀ j, i < j → j < 873 → od j = 0) ∧ (0 ≤ od i ∧ od i < 8 ^ k.toNat) ∧ ∀ q, 0 ≤ q → q < k → od i / 8 ^ q.toNat % 8 < m
def DGS (d : Int → Int) (n : Int) : Prop := ∀ j, 0 ≤ j → j < n → 0 ≤ d j ∧ d j < n
def DGT (d : Int → Int) (n k : Int) : Prop := ∀ j, 0 ≤ j → j < k → 0 ≤ d j ∧ d j < n
theorem sog_step {m c : Int} (h0 : 1 ≤ m) (h1 : m ≤ 6) (hc : c = cof m) : sog (m + 1) = sof m + c := by
  subst hc
  have hm : m = 1 ∨ m = 2 ∨ m = 3 ∨ m = 4 ∨ m = 5 ∨ m = 6 := by omega
  rcases hm with rfl | rfl | rfl | rfl | rfl | rfl <;> decide
theorem sof_mono {a b : Int} (h0 : 1 ≤ a) (h : a < b) (h1 : b ≤ 6) : sof a + cof a ≤ sof b := by
  have ha : a = 1 ∨ a = 2 ∨ a = 3 ∨ a = 4 ∨ a = 5 := by omega
  have hb : b = 2 ∨ b = 3 ∨ b = 4 ∨ b = 5 ∨ b = 6 := by omega
  rcases ha with rfl | rfl | rfl | rfl | rfl <;> rcases hb with rfl | rfl | rfl | rfl | rfl <;> first | omega | decide
theorem loa_zero {od : Int → Int} {m s : Int} (h : ∀ j, 0 ≤ j → j < 873 → od j = 0) (hm : m = 1) (hs : s = 0) : LOA od m s := by
  subst hm; subst hs
  exact ⟨by decide, by decide, by decide, fun n k i a _ b => by omega, h⟩
theorem loa_ord {od : Int → Int} {m s : Int} (h : LOA od m s) (hm : 7 ≤ m) : ORD od := fun n k i n0 n6 k0 k1 i0 i1 => h.2.2.2.1 n k i n0 n6 (by omega) k0 k1 i0 i1
theorem lop_loa {od : Int → Int} {m m' s : Int} (h : LOP od m s) (hm : m' = m + 1) : LOA od m' s := by subst hm; exact h
theorem loa_loc {od : Int → Int} {m s i : Int} (h : LOA od m s) (hm : m ≤ 6) (hi : i = s) : LOC od m s i := by
  subst hi
  obtain ⟨a, b, c, d, e⟩ := h
  refine ⟨⟨a, hm⟩, ⟨?_, Int.le_refl _⟩, d, fun j q j0 j1 => by omega, e⟩
  rw [c]; unfold sog; rw [if_neg (by omega)]
theorem loc_loe {od : Int → Int} {m s i k c0 : Int} (h : LOC od m s i) (hc : TBC m c0) (hi : i < s + c0) (hk : k = 0) : LOE od m s i k := by
  subst hk
  obtain ⟨a, b, c, d, e⟩ := h
  have hr := cof_rng m
  have hc : c0 = cof m := hc
  have z := e i (Int.le_refl _) (by have := b.1; omega)
  exact ⟨a, b, c, d, fun j hj hj2 => e j (by omega) hj2, ⟨by omega, by rw [z]; decide⟩, fun q q0 q1 => by omega⟩
theorem loe_loc {od : Int → Int} {m s i k i' : Int} (h : LOE od m s i k) (hk : m ≤ k) (hi : i' = i + 1) : LOC od m s i' := by
  subst hi
  obtain ⟨a, b, c, d, e, f, g⟩ := h
  refine ⟨a, ⟨b.1, by omega⟩, c, fun j q j0 j1 q0 q1 => ?_, fun j hj hj2 => e j (by omega) hj2⟩
  by_cases hj : j = i
  · subst hj; exact g q q0 (by omega)
  · exact d j q j0 (by omega) q0 q1
theorem loc_lop {od : Int → Int} {m s i c e : Int} (h : LOC od m s i) (hc : TBC m c) (h1 : e = s + c) (h2 : e ≤ i) (h3 : i ≤ e) : LOP od m e := by
  obtain ⟨⟨a0, a1⟩, ⟨b, _⟩, d, f, g⟩ := h
  have hi : i = e := by omega
  subst hi
  have hc : c = cof m := hc
  refine ⟨by omega, by omega, by rw [sog_step a0 a1 hc]; omega, fun n k q n0 n6 n1 k0 k1 q0 q1 => ?_, g⟩
  by_cases hn : n < m
  · exact d n k q n0 n6 hn k0 k1 q0 q1
  · have hn : n = m := by omega
    subst hn
    exact f (sof n + k) q (by omega) (by omega) q0 q1
theorem loc_rng {od : Int → Int} {m s i c e : Int} (h : LOC od m s i) (hc : TBC m c) (h1 : e = s + c) : 0 ≤ s ∧ s ≤ i ∧ 0 ≤ e ∧ e ≤ 873 := by
  obtain ⟨_, ⟨b, b2⟩, _⟩ := h
  have := cof_rng m
  have hc : c = cof m := hc
  omega
theorem loe_rng {od : Int → Int} {m s i k c e : Int} (h : LOE od m s i k) (hc : TBC m c) (h1 : e = s + c) : 0 ≤ s ∧ s ≤ i ∧ 0 ≤ e ∧ e ≤ 873 := by
  obtain ⟨_, ⟨b, b2⟩, _⟩ := h
  have := cof_rng m
  have hc : c = cof m := hc
  omega
theorem or_dig {v x t d k s three : Int} (hv : bvp v = bvp x ||| bvp t) (ht : bvp t = bvp d <<< s.toNat) (hs : s = three * k) (h3 : three = 3) (k0 : 0 ≤ k) (k5 : k ≤ 5) (d0 : 0 ≤ d) (d7 : d ≤ 7) (x0 : 0 ≤ x) (x1 : x < 8 ^ k.toNat) (v0 : 0 ≤ v) (v1 : v ≤ 2147483647) : v = x + d * 8 ^ k.toNat := by
  subst h3
  have tn : ∀ z : Int, 0 ≤ z → z ≤ 2147483647 → (bvp z).toNat = z.toNat := fun z z0 z1 => by
    unfold bvp; rw [BitVec.toNat_ofInt]
    show (z % 4294967296).toNat = z.toNat
    rw [Int.emod_eq_of_lt z0 (by omega)]
  have e0 : s.toNat = 3 * k.toNat := by omega
  have hk : k.toNat = 0 ∨ k.toNat = 1 ∨ k.toNat = 2 ∨ k.toNat = 3 ∨ k.toNat = 4 ∨ k.toNat = 5 := by omega
  have e1 : (bvp v).toNat = (bvp x).toNat ||| ((bvp d).toNat <<< s.toNat) % 2 ^ 32 := by
    rw [hv, BitVec.toNat_or, ht, BitVec.toNat_shiftLeft]
  have hx : x ≤ 2147483647 := by rcases hk with h | h | h | h | h | h <;> rw [h] at x1 <;> omega
  rw [tn v v0 v1, tn x x0 hx, tn d d0 (by omega), e0] at e1
  have h2 : d.toNat <<< (3 * k.toNat) % 2 ^ 32 = d.toNat <<< (3 * k.toNat) := by
    rw [Nat.shiftLeft_eq]
    rcases hk with h | h | h | h | h | h <;> rw [h] <;> omega
  rw [h2, Nat.or_comm, ← Nat.shiftLeft_add_eq_or_of_lt (by rw [Nat.pow_mul]; show x.toNat < 8 ^ k.toNat; rcases hk with h | h | h | h | h | h <;> rw [h] at x1 ⊢ <;> omega), Nat.shiftLeft_eq, Nat.pow_mul] at e1
  have e1 : v.toNat = d.toNat * 8 ^ k.toNat + x.toNat := e1
  rcases hk with h | h | h | h | h | h <;> rw [h] at e1 ⊢ <;> omega
theorem dig_add {x d : Int} {k q : Nat} (hk : k ≤ 5) (x0 : 0 ≤ x) (x1 : x < 8 ^ k) (d0 : 0 ≤ d) (d7 : d ≤ 7) : (q < k → (x + d * 8 ^ k) / 8 ^ q % 8 = x / 8 ^ q % 8) ∧ (q = k → (x + d * 8 ^ k) / 8 ^ q % 8 = d) ∧ x + d * 8 ^ k < 8 ^ (k + 1) := by
  have hk : k = 0 ∨ k = 1 ∨ k = 2 ∨ k = 3 ∨ k = 4 ∨ k = 5 := by omega
  refine ⟨fun hq => ?_, fun hq => ?_, ?_⟩
  · rcases hk with rfl | rfl | rfl | rfl | rfl | rfl
    · omega
    · have hq : q = 0 := by omega
      subst hq; omega
    · have hq : q = 0 ∨ q = 1 := by omega
      rcases hq with rfl | rfl <;> omega
    · have hq : q = 0 ∨ q = 1 ∨ q = 2 := by omega
      rcases hq with rfl | rfl | rfl <;> omega
    · have hq : q = 0 ∨ q = 1 ∨ q = 2 ∨ q = 3 := by omega
      rcases hq with rfl | rfl | rfl | rfl <;> omega
    · have hq : q = 0 ∨ q = 1 ∨ q = 2 ∨ q = 3 ∨ q = 4 := by omega
      rcases hq with rfl | rfl | rfl | rfl | rfl <;> omega
  · subst hq
    rcases hk with rfl | rfl | rfl | rfl | rfl | rfl <;> omega
  · rcases hk with rfl | rfl | rfl | rfl | rfl | rfl <;> omega
theorem loe_step {od od' dg : Int → Int} {m s i k d x t v sh three k' : Int} (h : LOE od m s i k) (hd : DGS dg m) (k0 : 0 ≤ k) (k1 : k < m) (hk : k' = k + 1) (ed : d = dg k) (ex : x = od i) (ht : bvp t = bvp d <<< sh.toNat) (hs : sh = three * k) (h3 : three = 3) (hv : bvp v = bvp x ||| bvp t) (v0 : 0 ≤ v) (v1 : v ≤ 2147483647) (e : ∀ j, 0 ≤ j → (j = i → od' j = v) ∧ (j ≠ i → od' j = od j)) : LOE od' m s i k' := by
  subst hk
  obtain ⟨⟨a0, a1⟩, ⟨b0, b1⟩, c, f, g, ⟨y0, y1⟩, z⟩ := h
  have hr := cof_rng m
  have e1 : od' i = v := (e i (by omega)).1 rfl
  have e2 : ∀ j, 0 ≤ j → j ≠ i → od' j = od j := fun j hj hn => (e j hj).2 hn
  obtain ⟨d0, d1⟩ := hd k k0 k1
  rw [← ed] at d0 d1
  rw [← ex] at y0 y1 z
  have ev := or_dig hv ht hs h3 k0 (by omega) d0 (by omega) y0 y1 v0 v1
  have hkn : (k + 1).toNat = k.toNat + 1 := by omega
  refine ⟨⟨a0, a1⟩, ⟨b0, b1⟩, fun n k2 q n0 n6 n1 k20 k21 q0 q1 => ?_, fun j q j0 j1 q0 q1 => ?_, fun j hj hj2 => ?_, ⟨by rw [e1]; exact v0, ?_⟩, fun q q0 q1 => ?_⟩
  · have := sof_mono n0 n1 a1
    have hs := cof_rng n
    rw [e2 _ (by omega) (by omega)]; exact c n k2 q n0 n6 n1 k20 k21 q0 q1
  · rw [e2 _ (by omega) (by omega)]; exact f j q j0 j1 q0 q1
  · rw [e2 _ (by omega) (by omega)]; exact g j hj hj2
  · rw [e1, ev, hkn]
    exact (dig_add (q := 0) (by omega) y0 y1 d0 (by omega)).2.2
  · rw [e1, ev]
    have hh := dig_add (x := x) (d := d) (k := k.toNat) (q := q.toNat) (by omega) y0 y1 d0 (by omega)
    by_cases hq : q < k
    · rw [hh.1 (by omega)]; exact z q q0 hq
    · rw [hh.2.1 (by omega)]; exact d1
theorem dgs_swap {d d1 d2 : Int → Int} {n i j a b : Int} (h : DGS d n) (i0 : 0 ≤ i) (i1 : i < n) (j0 : 0 ≤ j) (j1 : j < n) (ha : a = d i) (hb : b = d j) (e : ∀ k, 0 ≤ k → (k = i → d1 k = b) ∧ (k ≠ i → d1 k = d k)) (e' : ∀ k, 0 ≤ k → (k = j → d2 k = a) ∧ (k ≠ j → d2 k = d1 k)) : DGS d2 n := by
  intro k k0 k1
  have q1 := h i i0 i1
  have q2 := h j j0 j1
  have q3 := h k k0 k1
  by_cases kj : k = j
  · rw [(e' k k0).1 kj, ha]; exact q1
  · rw [(e' k k0).2 kj]
    by_cases ki : k = i
    · rw [(e k k0).1 ki, hb]; exact q2
    · rw [(e k k0).2 ki]; exact q3
theorem dgt_zero {d : Int → Int} {n k : Int} (hk : k = 0) : DGT d n k := fun j j0 j1 => by omega
theorem dgt_step {d d' : Int → Int} {n k k' : Int} (h : DGT d n k) (k0 : 0 ≤ k) (k1 : k < n) (hk : k' = k + 1) (e : ∀ j, 0 ≤ j → (j = k → d' j = k) ∧ (j ≠ k → d' j = d j)) : DGT d' n k' := fun j j0 j1 => by
  by_cases hj : j = k
  · rw [(e j j0).1 hj]; omega
  · rw [(e j j0).2 hj]; exact h j j0 (by omega)
theorem dgt_dgs {d : Int → Int} {n k : Int} (h : DGT d n k) (hk : n ≤ k) : DGS d n := fun j j0 j1 => h j j0 (by omega)
theorem dgs_eq {d : Int → Int} {n m : Int} (h : DGS d n) (e : m = n) : DGS d m := by subst e; exact h
