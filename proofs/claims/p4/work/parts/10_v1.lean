-- coordinates are bounded: rows of heights (bars of the reference)
def NBD (a : Int → Int) (n lo hi : Int) : Prop := ∀ i, 0 ≤ i → i < n → lo ≤ a i ∧ a i ≤ hi
theorem nbd_st {a a' : Int → Int} {n n' lo hi lo' hi' s v : Int} (h : NBD a n lo hi) (hs : st1 a a' s v) (hn : n' ≤ n ∨ (n' = n + 1 ∧ s = n)) (l : lo' ≤ lo) (u : hi ≤ hi') (v0 : lo' ≤ v) (v1 : v ≤ hi') : NBD a' n' lo' hi' := by
  intro i i0 i1
  by_cases q : i = s
  · rw [(hs i i0).1 q]; exact ⟨v0, v1⟩
  · rw [(hs i i0).2 q]; have := h i i0 (by omega); omega
theorem nbd_le {a : Int → Int} {n n' lo hi lo' hi' : Int} (h : NBD a n lo hi) (hn : n' ≤ n) (l : lo' ≤ lo) (u : hi ≤ hi') : NBD a n' lo' hi' := by
  intro i i0 i1
  have := h i i0 (by omega); omega
theorem nbd_0 {a : Int → Int} {n lo hi : Int} (hn : n ≤ 0) : NBD a n lo hi := by
  intro i i0 i1
  exfalso; omega
def NY0 (ny : Int → Int) (i : Int) : Prop := NBD ny i 0 0
def NYQ (n : Int) (ny : Int → Int) (r : Int) : Prop := NBD ny n 0 (80 * r)
def NYP (n : Int) (ny : Int → Int) (r e : Int) : Prop := NBD ny n 0 (80 * r + e)
def NYH (n : Int) (ny : Int → Int) : Prop := NBD ny n 0 2000
def NYI (n : Int) (ny : Int → Int) (i : Int) : Prop := NBD ny n 0 6000 ∧ ∀ j, i ≤ j → 0 ≤ j → j < n → ny j ≤ 2000
theorem nyi_step {n i i' s v : Int} {ny ny' : Int → Int} (h : NYI n ny i) (hi : i' = i + 1) (hs : st1 ny ny' s v) (hss : s = i) (v0 : 0 ≤ v) (v1 : v ≤ 6000) : NYI n ny' i' := by
  refine ⟨nbd_st h.1 hs (by omega) (by omega) (by omega) v0 v1, ?_⟩
  intro j a b c
  rw [(hs j b).2 (by omega)]
  exact h.2 j (by omega) b c

-- boxes: a stretch from x on, w long (w may be below 0), lies in 0 .. 512
def HUL (x w : Int) : Prop := (0 ≤ x ∧ x ≤ 512) ∧ 0 ≤ x + w ∧ x + w ≤ 512
def BTW (z a : Int) : Prop := (0 ≤ z ∧ z ≤ a) ∨ (a ≤ z ∧ z ≤ 0)
def SQA (t w h a c : Int) : Prop := (t ≠ 0 ∧ a = w ∧ c = h) ∨ (t = 0 ∧ a = h ∧ c = w)
def BXG (A : Int → Int) (g : Int) : Prop := ∀ q, 0 ≤ q → q < 8 → HUL (A (4 * (8 * g + q))) (A (4 * (8 * g + q) + 2)) ∧ HUL (A (4 * (8 * g + q) + 1)) (A (4 * (8 * g + q) + 3))
def BX0 (A : Int → Int) (g i : Int) : Prop := ∀ j, 0 ≤ j → j < i → A (32 * g + j) = 0
def SQ4 (k : Int) (io is : Int → Int) (t x y u z o : Int) : Prop := SQ3 k io is t x y u ∧ (x ≤ z ∧ z ≤ y) ∧ o = pxs is z - pxs is x
theorem btw_div {a o u z : Int} (o0 : 0 ≤ o) (o1 : o ≤ u) (u0 : 0 < u) (hz : z = Int.tdiv (a * o) u) : BTW z a := by
  rcases Int.le_total 0 a with h | h
  · left
    have h1 : 0 ≤ a * o := Int.mul_nonneg h o0
    rw [Int.tdiv_eq_ediv_of_nonneg h1] at hz
    subst hz
    refine ⟨Int.ediv_nonneg h1 (by omega), ?_⟩
    have h2 : a * o ≤ a * u := Int.mul_le_mul_of_nonneg_left o1 h
    have h3 : a * o / u ≤ a * u / u := Int.ediv_le_ediv u0 h2
    rw [Int.mul_ediv_cancel _ (by omega)] at h3
    exact h3
  · right
    have e : a * o = -((-a) * o) := by rw [Int.neg_mul, Int.neg_neg]
    have h1 : 0 ≤ (-a) * o := Int.mul_nonneg (by omega) o0
    rw [e, Int.neg_tdiv, Int.tdiv_eq_ediv_of_nonneg h1] at hz
    have h4 : 0 ≤ (-a) * o / u := Int.ediv_nonneg h1 (by omega)
    have h2 : (-a) * o ≤ (-a) * u := Int.mul_le_mul_of_nonneg_left o1 (by omega)
    have h3 : (-a) * o / u ≤ (-a) * u / u := Int.ediv_le_ediv u0 h2
    rw [Int.mul_ediv_cancel _ (by omega)] at h3
    omega
theorem hul_at {x w z : Int} (h : HUL x w) (b : BTW z w) : HUL (x + z) (w - z) ∧ 0 ≤ x + z ∧ x + z ≤ 512 := by
  obtain ⟨⟨a, c⟩, d, e⟩ := h
  rcases b with b | b <;> exact ⟨⟨⟨by omega, by omega⟩, by omega, by omega⟩, by omega, by omega⟩
theorem hul_cut {x w z y : Int} (h : HUL x w) (b : BTW z w) (c : BTW y w) : HUL (x + z) (y - z) := by
  obtain ⟨⟨a, d⟩, e, f⟩ := h
  rcases b with b | b <;> rcases c with c | c <;> exact ⟨⟨by omega, by omega⟩, by omega, by omega⟩
theorem hul_to {x w z : Int} (h : HUL x w) (b : BTW z w) : HUL x z := by
  obtain ⟨⟨a, d⟩, e, f⟩ := h
  rcases b with b | b <;> exact ⟨⟨by omega, by omega⟩, by omega, by omega⟩
theorem btw_all (a : Int) : BTW a a := by
  rcases Int.le_total 0 a with h | h
  · exact Or.inl ⟨h, by omega⟩
  · exact Or.inr ⟨by omega, h⟩
theorem btw_0 (a : Int) : BTW 0 a := by
  rcases Int.le_total 0 a with h | h
  · exact Or.inl ⟨by omega, h⟩
  · exact Or.inr ⟨h, by omega⟩
theorem btw_bd {z a : Int} (b : BTW z a) (h0 : -512 ≤ a) (h1 : a ≤ 512) : -512 ≤ z ∧ z ≤ 512 := by
  rcases b with b | b <;> omega
theorem sq4_bd {k t x y u z o : Int} {io is : Int → Int} (h : SQ4 k io is t x y u z o) : 0 ≤ o ∧ o ≤ u := by
  obtain ⟨⟨⟨h1, x0, xk, ht⟩, xy, yk, hu⟩, ⟨a, b⟩, ho⟩ := h
  have p := pxs_grow h1 (z - x).toNat x z x0 (by omega) (by omega)
  have q := pxs_grow h1 (y - z).toNat z y (by omega) (by omega) (by omega)
  omega
theorem sq4_start {k t x y u z o : Int} {io is : Int → Int} (h : SQ3 k io is t x y u) (hz : z = x) (ho : o = 0) : SQ4 k io is t x y u z o := by
  refine ⟨h, ?_, ?_⟩
  · have := h.2; omega
  · rw [hz]; omega
theorem sq4_step {k t x y u z o z' o' v : Int} {io is : Int → Int} (h : SQ4 k io is t x y u z o) (hz : z < y) (hv : v = is z) (h1 : z' = z + 1) (ho : o' = o + v) : SQ4 k io is t x y u z' o' := by
  refine ⟨h.1, ?_, ?_⟩
  · have := h.2.1; omega
  · have x0 := h.1.1.2.1
    have := h.2.1
    rw [pxs_succ (x := z) (by omega) h1, ← hv, ho, h.2.2]; omega
theorem bx0_step {A A' : Int → Int} {g i i' s v : Int} (h : BX0 A g i) (hi : i' = i + 1) (g0 : 0 ≤ g) (i0 : 0 ≤ i) (hs : st1 A A' s v) (hss : s = 32 * g + i) (hv : v = 0) : BX0 A' g i' := by
  intro j a b
  by_cases q : j = i
  · rw [(hs _ (by omega)).1 (by omega)]; exact hv
  · rw [(hs _ (by omega)).2 (by omega)]; exact h j a (by omega)
theorem bxg_0 {A : Int → Int} {g i : Int} (h : BX0 A g i) (hi : 32 ≤ i) : BXG A g := by
  intro q a b
  have e0 := h (4 * q) (by omega) (by omega)
  have e1 := h (4 * q + 1) (by omega) (by omega)
  have e2 := h (4 * q + 2) (by omega) (by omega)
  have e3 := h (4 * q + 3) (by omega) (by omega)
  have p0 : 4 * (8 * g + q) = 32 * g + 4 * q := by omega
  have p1 : 4 * (8 * g + q) + 1 = 32 * g + (4 * q + 1) := by omega
  have p2 : 4 * (8 * g + q) + 2 = 32 * g + (4 * q + 2) := by omega
  have p3 : 4 * (8 * g + q) + 3 = 32 * g + (4 * q + 3) := by omega
  rw [p1, p2, p3, p0, e0, e1, e2, e3]
  exact ⟨⟨⟨by omega, by omega⟩, by omega, by omega⟩, ⟨by omega, by omega⟩, by omega, by omega⟩
theorem bxg_set {A0 A1 A2 A3 A4 : Int → Int} {g i p0 p1 p2 p3 x y w h : Int} (hb : BXG A0 g) (g0 : 0 ≤ g) (i0 : 0 ≤ i) (i1 : i < 8) (hx : HUL x w) (hy : HUL y h) (s0 : st1 A0 A1 p0 x) (s1 : st1 A1 A2 p1 y) (s2 : st1 A2 A3 p2 w) (s3 : st1 A3 A4 p3 h) (e0 : p0 = 4 * (8 * g + i)) (e1 : p1 = 4 * (8 * g + i) + 1) (e2 : p2 = 4 * (8 * g + i) + 2) (e3 : p3 = 4 * (8 * g + i) + 3) : BXG A4 g := by
  intro q a b
  by_cases c : q = i
  · subst c
    rw [(s3 (4 * (8 * g + q)) (by omega)).2 (by omega), (s2 (4 * (8 * g + q)) (by omega)).2 (by omega), (s1 (4 * (8 * g + q)) (by omega)).2 (by omega), (s0 (4 * (8 * g + q)) (by omega)).1 (by omega)]
    rw [(s3 (4 * (8 * g + q) + 1) (by omega)).2 (by omega), (s2 (4 * (8 * g + q) + 1) (by omega)).2 (by omega), (s1 (4 * (8 * g + q) + 1) (by omega)).1 (by omega)]
    rw [(s3 (4 * (8 * g + q) + 2) (by omega)).2 (by omega), (s2 (4 * (8 * g + q) + 2) (by omega)).1 (by omega), (s3 (4 * (8 * g + q) + 3) (by omega)).1 (by omega)]
    exact ⟨hx, hy⟩
  · have r : ∀ d : Int, 0 ≤ d → d < 4 → A4 (4 * (8 * g + q) + d) = A0 (4 * (8 * g + q) + d) := fun d d0 d1 => by
      rw [(s3 _ (by omega)).2 (by omega), (s2 _ (by omega)).2 (by omega), (s1 _ (by omega)).2 (by omega), (s0 _ (by omega)).2 (by omega)]
    have r0 := r 0 (by omega) (by omega)
    rw [Int.add_zero] at r0
    rw [r0, r 1 (by omega) (by omega), r 2 (by omega) (by omega), r 3 (by omega) (by omega)]
    exact hb q a b

def LWE (pt ph : Int → Int) (e z : Int) : Prop := z = pt e ∨ z = ph e
theorem low_rng {n m R e z y : Int} {pt ph al rm rot ro rb rd : Int → Int} (h : BRB n m R pt ph al rm rot ro rb rd) (hl : LWE pt ph e z) (ha : ACR pt ph e z y) (e0 : 0 ≤ e) (e1 : e < m) : (0 ≤ z ∧ z < n) ∧ 0 ≤ y ∧ y < n := by
  have g := h.1.1.1.1 e e0 e1
  unfold ACR acr at ha
  rcases hl with q | q
  · rw [if_pos q.symm] at ha; omega
  · rw [if_neg (by omega)] at ha; omega
theorem btw_00 {z a : Int} (h : z = 0) : BTW z a := by subst h; exact btw_0 a
theorem btw_d {a o u z y p q r s : Int} (hz : z = y) (hy : y = Int.tdiv p q) (hq : q = u) (hp : p = r * s) (hs : s = o) (hr : r = a) (o0 : 0 ≤ o) (o1 : o ≤ u) (u0 : 0 < u) : BTW z a := by
  subst hz; subst hq; subst hs; subst hr; rw [hp] at hy; exact btw_div o0 o1 u0 hy
theorem hul_st {x w z x' w' : Int} (h : HUL x w) (b : BTW z w) (hx : x' = x + z) (hw : w' = w - z) : HUL x' w' := by
  subst hx; subst hw; exact (hul_at h b).1
theorem hul_c2 {x w z y p q : Int} (h : HUL x w) (b : BTW z w) (c : BTW y w) (hp : p = x + z) (hq : q = y - z) : HUL p q := by
  subst hp; subst hq; exact hul_cut h b c
theorem sqa_1 {t w h a c : Int} (s : SQA t w h a c) (t0 : t ≠ 0) : a = w ∧ c = h := by
  rcases s with q | q
  · exact q.2
  · exact absurd q.1 t0
theorem sqa_0 {t w h a c : Int} (s : SQA t w h a c) (t0 : t = 0) : a = h ∧ c = w := by
  rcases s with q | q
  · exact absurd t0 q.1
  · exact q.2
theorem bxg_at {A : Int → Int} {g q p p1 p2 p3 a b c d : Int} (h : BXG A g) (q0 : 0 ≤ q) (q1 : q < 8) (e : p = 4 * (8 * g + q)) (e1 : p1 = p + 1) (e2 : p2 = p + 2) (e3 : p3 = p + 3) (ha : a = A p) (hb : b = A p1) (hc : c = A p2) (hd : d = A p3) : HUL a c ∧ HUL b d := by
  subst ha; subst hb; subst hc; subst hd; subst e1; subst e2; subst e3; subst e
  exact h q q0 q1
def SQ5 (k : Int) (io is : Int → Int) (t x y u z o : Int) : Prop := SQ4 k io is t x y u (z + 1) o
theorem sq5_to {k t x y u z z' o o' : Int} {io is : Int → Int} (h : SQ5 k io is t x y u z o) (hz : z' = z + 1) (ho : o' = o) : SQ4 k io is t x y u z' o' := by subst hz; subst ho; exact h
