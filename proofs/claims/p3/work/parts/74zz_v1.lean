section
-- coordinates are bounded: rows of heights (bars of the reference)
def NBD (a : Int → Int) (n lo hi : Int) : Prop := ∀ i, 0 ≤ i → i < n → lo ≤ a i ∧ a i ≤ hi
theorem nbd_st {a a_zq : Int → Int} {n n_zq lo hi lo_zq hi_zq s v : Int} (h : NBD a n lo hi) (hs : st1 a a_zq s v) (hn : n_zq ≤ n ∨ (n_zq = n + 1 ∧ s = n)) (l : lo_zq ≤ lo) (u : hi ≤ hi_zq) (v0 : lo_zq ≤ v) (v1 : v ≤ hi_zq) : NBD a_zq n_zq lo_zq hi_zq := by
  intro i i0 i1
  by_cases q : i = s
  · rw [(hs i i0).1 q]; exact ⟨v0, v1⟩
  · rw [(hs i i0).2 q]; have := h i i0 (by omega); omega
theorem nbd_le {a : Int → Int} {n n_zq lo hi lo_zq hi_zq : Int} (h : NBD a n lo hi) (hn : n_zq ≤ n) (l : lo_zq ≤ lo) (u : hi ≤ hi_zq) : NBD a n_zq lo_zq hi_zq := by
  intro i i0 i1
  have := h i i0 (by omega); omega
theorem nbd_0 {a : Int → Int} {n lo hi : Int} (hn : n ≤ 0) : NBD a n lo hi := by
  intro i i0 i1
  exfalso; omega
def NY0 (ny : Int → Int) (i : Int) : Prop := NBD ny i 0 0
def NYQ (n : Int) (ny : Int → Int) (r : Int) : Prop := NBD ny n 0 (80 * r)
def NYP (n : Int) (ny : Int → Int) (r e : Int) : Prop := NBD ny n 0 (80 * r + e)
def NYH (n : Int) (ny : Int → Int) : Prop := NBD ny n 0 2000
def NYI (n : Int) (ny : Int → Int) (i : Int) : Prop := NBD ny n 0 6000 ∧ ∀ j, i ≤ j → 0 ≤ j → j < n → ny j ≤ 2000
theorem nyi_step {n i i_zq s v : Int} {ny ny_zq : Int → Int} (h : NYI n ny i) (hi : i_zq = i + 1) (hs : st1 ny ny_zq s v) (hss : s = i) (v0 : 0 ≤ v) (v1 : v ≤ 6000) : NYI n ny_zq i_zq := by
  refine ⟨nbd_st h.1 hs (by omega) (by omega) (by omega) v0 v1, ?_⟩
  intro j a b c
  rw [(hs j b).2 (by omega)]
  exact h.2 j (by omega) b c

-- boxes: a stretch from x on, w long (w may be below 0), lies in 0 .. 512
def HUL (x w : Int) : Prop := (0 ≤ x ∧ x ≤ 512) ∧ 0 ≤ x + w ∧ x + w ≤ 512
def BTW (z a : Int) : Prop := (0 ≤ z ∧ z ≤ a) ∨ (a ≤ z ∧ z ≤ 0)
def SQA (t w h a c : Int) : Prop := (t ≠ 0 ∧ a = w ∧ c = h) ∨ (t = 0 ∧ a = h ∧ c = w)
def BXG (A : Int → Int) (g : Int) : Prop := ∀ q, 0 ≤ q → q < 8 → HUL (A (4 * (8 * g + q))) (A (4 * (8 * g + q) + 2)) ∧ HUL (A (4 * (8 * g + q) + 1)) (A (4 * (8 * g + q) + 3))
def BX0 (A : Int → Int) (g i : Int) : Prop := ∀ j, 0 ≤ j → j < i → A (32 * g + j) = 0
def SQ4 (k : Int) (io is : Int → Int) (t x y u z o : Int) : Prop := SQ3 k io is t x y u ∧ (x ≤ z ∧ z ≤ y) ∧ o = pxs is z - pxs is x
theorem btw_div {a o u z : Int} (o0 : 0 ≤ o) (o1 : o ≤ u) (u0 : 0 < u) (hz : z = Int.tdiv (a * o) u) : BTW z a := by
  rcases Int.le_total 0 a with h | h
  · left
    have h1 : 0 ≤ a * o := Int.mul_nonneg h o0
    rw [Int.tdiv_eq_ediv_of_nonneg h1] at hz
    subst hz
    refine ⟨Int.ediv_nonneg h1 (by omega), ?_⟩
    have h2 : a * o ≤ a * u := Int.mul_le_mul_of_nonneg_left o1 h
    have h3 : a * o / u ≤ a * u / u := Int.ediv_le_ediv u0 h2
    rw [Int.mul_ediv_cancel _ (by omega)] at h3
    exact h3
  · right
    have e : a * o = -((-a) * o) := by rw [Int.neg_mul, Int.neg_neg]
    have h1 : 0 ≤ (-a) * o := Int.mul_nonneg (by omega) o0
    rw [e, Int.neg_tdiv, Int.tdiv_eq_ediv_of_nonneg h1] at hz
    have h4 : 0 ≤ (-a) * o / u := Int.ediv_nonneg h1 (by omega)
    have h2 : (-a) * o ≤ (-a) * u := Int.mul_le_mul_of_nonneg_left o1 (by omega)
    have h3 : (-a) * o / u ≤ (-a) * u / u := Int.ediv_le_ediv u0 h2
    rw [Int.mul_ediv_cancel _ (by omega)] at h3
    omega
theorem hul_at {x w z : Int} (h : HUL x w) (b : BTW z w) : HUL (x + z) (w - z) ∧ 0 ≤ x + z ∧ x + z ≤ 512 := by
  obtain ⟨⟨a, c⟩, d, e⟩ := h
  rcases b with b | b <;> exact ⟨⟨⟨by omega, by omega⟩, by omega, by omega⟩, by omega, by omega⟩
theorem hul_cut {x w z y : Int} (h : HUL x w) (b : BTW z w) (c : BTW y w) : HUL (x + z) (y - z) := by
  obtain ⟨⟨a, d⟩, e, f⟩ := h
  rcases b with b | b <;> rcases c with c | c <;> exact ⟨⟨by omega, by omega⟩, by omega, by omega⟩
theorem hul_to {x w z : Int} (h : HUL x w) (b : BTW z w) : HUL x z := by
  obtain ⟨⟨a, d⟩, e, f⟩ := h
  rcases b with b | b <;> exact ⟨⟨by omega, by omega⟩, by omega, by omega⟩
theorem btw_all (a : Int) : BTW a a := by
  rcases Int.le_total 0 a with h | h
  · exact Or.inl ⟨h, by omega⟩
  · exact Or.inr ⟨by omega, h⟩
theorem btw_0 (a : Int) : BTW 0 a := by
  rcases Int.le_total 0 a with h | h
  · exact Or.inl ⟨by omega, h⟩
  · exact Or.inr ⟨h, by omega⟩
theorem btw_bd {z a : Int} (b : BTW z a) (h0 : -512 ≤ a) (h1 : a ≤ 512) : -512 ≤ z ∧ z ≤ 512 := by
  rcases b with b | b <;> omega
theorem sq4_bd {k t x y u z o : Int} {io is : Int → Int} (h : SQ4 k io is t x y u z o) : 0 ≤ o ∧ o ≤ u := by
  obtain ⟨⟨⟨h1, x0, xk, ht⟩, xy, yk, hu⟩, ⟨a, b⟩, ho⟩ := h
  have p := pxs_grow h1 (z - x).toNat x z x0 (by omega) (by omega)
  have q := pxs_grow h1 (y - z).toNat z y (by omega) (by omega) (by omega)
  omega
theorem sq4_start {k t x y u z o : Int} {io is : Int → Int} (h : SQ3 k io is t x y u) (hz : z = x) (ho : o = 0) : SQ4 k io is t x y u z o := by
  refine ⟨h, ?_, ?_⟩
  · have := h.2; omega
  · rw [hz]; omega
theorem sq4_step {k t x y u z o z_zq o_zq v : Int} {io is : Int → Int} (h : SQ4 k io is t x y u z o) (hz : z < y) (hv : v = is z) (h1 : z_zq = z + 1) (ho : o_zq = o + v) : SQ4 k io is t x y u z_zq o_zq := by
  refine ⟨h.1, ?_, ?_⟩
  · have := h.2.1; omega
  · have x0 := h.1.1.2.1
    have := h.2.1
    rw [pxs_succ (x := z) (by omega) h1, ← hv, ho, h.2.2]; omega
theorem bx0_step {A A_zq : Int → Int} {g i i_zq s v : Int} (h : BX0 A g i) (hi : i_zq = i + 1) (g0 : 0 ≤ g) (i0 : 0 ≤ i) (hs : st1 A A_zq s v) (hss : s = 32 * g + i) (hv : v = 0) : BX0 A_zq g i_zq := by
  intro j a b
  by_cases q : j = i
  · rw [(hs _ (by omega)).1 (by omega)]; exact hv
  · rw [(hs _ (by omega)).2 (by omega)]; exact h j a (by omega)
theorem bxg_0 {A : Int → Int} {g i : Int} (h : BX0 A g i) (hi : 32 ≤ i) : BXG A g := by
  intro q a b
  have e0 := h (4 * q) (by omega) (by omega)
  have e1 := h (4 * q + 1) (by omega) (by omega)
  have e2 := h (4 * q + 2) (by omega) (by omega)
  have e3 := h (4 * q + 3) (by omega) (by omega)
  have p0 : 4 * (8 * g + q) = 32 * g + 4 * q := by omega
  have p1 : 4 * (8 * g + q) + 1 = 32 * g + (4 * q + 1) := by omega
  have p2 : 4 * (8 * g + q) + 2 = 32 * g + (4 * q + 2) := by omega
  have p3 : 4 * (8 * g + q) + 3 = 32 * g + (4 * q + 3) := by omega
  rw [p1, p2, p3, p0, e0, e1, e2, e3]
  exact ⟨⟨⟨by omega, by omega⟩, by omega, by omega⟩, ⟨by omega, by omega⟩, by omega, by omega⟩
theorem bxg_set {A0 A1 A2 A3 A4 : Int → Int} {g i p0 p1 p2 p3 x y w h : Int} (hb : BXG A0 g) (g0 : 0 ≤ g) (i0 : 0 ≤ i) (i1 : i < 8) (hx : HUL x w) (hy : HUL y h) (s0 : st1 A0 A1 p0 x) (s1 : st1 A1 A2 p1 y) (s2 : st1 A2 A3 p2 w) (s3 : st1 A3 A4 p3 h) (e0 : p0 = 4 * (8 * g + i)) (e1 : p1 = 4 * (8 * g + i) + 1) (e2 : p2 = 4 * (8 * g + i) + 2) (e3 : p3 = 4 * (8 * g + i) + 3) : BXG A4 g := by
  intro q a b
  by_cases c : q = i
  · subst c
    rw [(s3 (4 * (8 * g + q)) (by omega)).2 (by omega), (s2 (4 * (8 * g + q)) (by omega)).2 (by omega), (s1 (4 * (8 * g + q)) (by omega)).2 (by omega), (s0 (4 * (8 * g + q)) (by omega)).1 (by omega)]
    rw [(s3 (4 * (8 * g + q) + 1) (by omega)).2 (by omega), (s2 (4 * (8 * g + q) + 1) (by omega)).2 (by omega), (s1 (4 * (8 * g + q) + 1) (by omega)).1 (by omega)]
    rw [(s3 (4 * (8 * g + q) + 2) (by omega)).2 (by omega), (s2 (4 * (8 * g + q) + 2) (by omega)).1 (by omega), (s3 (4 * (8 * g + q) + 3) (by omega)).1 (by omega)]
    exact ⟨hx, hy⟩
  · have r : ∀ d : Int, 0 ≤ d → d < 4 → A4 (4 * (8 * g + q) + d) = A0 (4 * (8 * g + q) + d) := fun d d0 d1 => by
      rw [(s3 _ (by omega)).2 (by omega), (s2 _ (by omega)).2 (by omega), (s1 _ (by omega)).2 (by omega), (s0 _ (by omega)).2 (by omega)]
    have r0 := r 0 (by omega) (by omega)
    rw [Int.add_zero] at r0
    rw [r0, r 1 (by omega) (by omega), r 2 (by omega) (by omega), r 3 (by omega) (by omega)]
    exact hb q a b

def LWE (pt ph : Int → Int) (e z : Int) : Prop := z = pt e ∨ z = ph e
theorem low_rng {n m R e z y : Int} {pt ph al rm rot ro rb rd : Int → Int} (h : BRB n m R pt ph al rm rot ro rb rd) (hl : LWE pt ph e z) (ha : ACR pt ph e z y) (e0 : 0 ≤ e) (e1 : e < m) : (0 ≤ z ∧ z < n) ∧ 0 ≤ y ∧ y < n := by
  have g := h.1.1.1.1 e e0 e1
  unfold ACR acr at ha
  rcases hl with q | q
  · rw [if_pos q.symm] at ha; omega
  · rw [if_neg (by omega)] at ha; omega
theorem btw_00 {z a : Int} (h : z = 0) : BTW z a := by subst h; exact btw_0 a
theorem btw_d {a o u z y p q r s : Int} (hz : z = y) (hy : y = Int.tdiv p q) (hq : q = u) (hp : p = r * s) (hs : s = o) (hr : r = a) (o0 : 0 ≤ o) (o1 : o ≤ u) (u0 : 0 < u) : BTW z a := by
  subst hz; subst hq; subst hs; subst hr; rw [hp] at hy; exact btw_div o0 o1 u0 hy
theorem hul_st {x w z x_zq w_zq : Int} (h : HUL x w) (b : BTW z w) (hx : x_zq = x + z) (hw : w_zq = w - z) : HUL x_zq w_zq := by
  subst hx; subst hw; exact (hul_at h b).1
theorem hul_c2 {x w z y p q : Int} (h : HUL x w) (b : BTW z w) (c : BTW y w) (hp : p = x + z) (hq : q = y - z) : HUL p q := by
  subst hp; subst hq; exact hul_cut h b c
theorem sqa_1 {t w h a c : Int} (s : SQA t w h a c) (t0 : t ≠ 0) : a = w ∧ c = h := by
  rcases s with q | q
  · exact q.2
  · exact absurd q.1 t0
theorem sqa_0 {t w h a c : Int} (s : SQA t w h a c) (t0 : t = 0) : a = h ∧ c = w := by
  rcases s with q | q
  · exact absurd t0 q.1
  · exact q.2
theorem bxg_at {A : Int → Int} {g q p p1 p2 p3 a b c d : Int} (h : BXG A g) (q0 : 0 ≤ q) (q1 : q < 8) (e : p = 4 * (8 * g + q)) (e1 : p1 = p + 1) (e2 : p2 = p + 2) (e3 : p3 = p + 3) (ha : a = A p) (hb : b = A p1) (hc : c = A p2) (hd : d = A p3) : HUL a c ∧ HUL b d := by
  subst ha; subst hb; subst hc; subst hd; subst e1; subst e2; subst e3; subst e
  exact h q q0 q1
def SQ5 (k : Int) (io is : Int → Int) (t x y u z o : Int) : Prop := SQ4 k io is t x y u (z + 1) o
theorem sq5_to {k t x y u z z_zq o o_zq : Int} {io is : Int → Int} (h : SQ5 k io is t x y u z o) (hz : z_zq = z + 1) (ho : o_zq = o) : SQ4 k io is t x y u z_zq o_zq := by subst hz; subst ho; exact h
end
section
-- the reference's trees: all x lie in a stretch that at most doubles with each shift
theorem pxs_0 {f : Int → Int} {n : Int} (hn : n ≤ 0) : pxs f n = 0 := by
  unfold pxs
  rw [show n.toNat = 0 by omega]
  rfl
theorem pxs_ind {P : Int → Prop} (h0 : ∀ n, n ≤ 0 → P n) (h1 : ∀ n, 0 ≤ n → P n → P (n + 1)) (n : Int) : P n := by
  rcases Int.le_total n 0 with h | h
  · exact h0 n h
  · obtain ⟨k, hk⟩ := Int.eq_ofNat_of_zero_le h
    subst hk
    clear h
    induction k with
    | zero => exact h0 _ (by omega)
    | succ k ih => rw [show ((k + 1 : Nat) : Int) = (k : Int) + 1 by omega]; exact h1 _ (by omega) ih
theorem pxs_S {f : Int → Int} {n : Int} (h : 0 ≤ n) : pxs f (n + 1) = pxs f n + f n := pxs_succ h rfl
theorem pxs_mono {f g : Int → Int} (n : Int) : (∀ c, 0 ≤ c → c < n → f c ≤ g c) → pxs f n ≤ pxs g n := by
  refine pxs_ind (P := fun n => (∀ c, 0 ≤ c → c < n → f c ≤ g c) → pxs f n ≤ pxs g n) ?_ ?_ n
  · intro n hn _; rw [pxs_0 hn, pxs_0 hn]; omega
  · intro n hn ih h
    rw [pxs_S hn, pxs_S hn]
    have := ih (fun c a b => h c a (by omega))
    have := h n hn (by omega)
    omega
theorem pxs_add {f g h : Int → Int} (n : Int) : (∀ c, 0 ≤ c → c < n → h c = f c + g c) → pxs h n = pxs f n + pxs g n := by
  refine pxs_ind (P := fun n => (∀ c, 0 ≤ c → c < n → h c = f c + g c) → pxs h n = pxs f n + pxs g n) ?_ ?_ n
  · intro n hn _; rw [pxs_0 hn, pxs_0 hn, pxs_0 hn]; omega
  · intro n hn ih e
    rw [pxs_S hn, pxs_S hn, pxs_S hn, ih (fun c a b => e c a (by omega)), e n hn (by omega)]
    omega
theorem pxs_ub {f : Int → Int} (n : Int) : 0 ≤ n → (∀ c, f c ≤ 1) → pxs f n ≤ n := by
  refine pxs_ind (P := fun n => 0 ≤ n → (∀ c, f c ≤ 1) → pxs f n ≤ n) ?_ ?_ n
  · intro n hn h0 _; rw [pxs_0 hn]; omega
  · intro n hn ih _ e
    rw [pxs_S hn]
    have := ih hn e
    have := e n
    omega
theorem pxs_lb {f : Int → Int} (n : Int) : (∀ c, 0 ≤ f c) → 0 ≤ pxs f n := by
  refine pxs_ind (P := fun n => (∀ c, 0 ≤ f c) → 0 ≤ pxs f n) ?_ ?_ n
  · intro n hn _; rw [pxs_0 hn]; omega
  · intro n hn ih e
    rw [pxs_S hn]
    have := ih e
    have := e n
    omega
theorem pxs_one {f g : Int → Int} {x d : Int} (n : Int) : (∀ c, 0 ≤ c → c < n → c ≠ x → g c = f c) → 0 ≤ x → x < n → g x = f x + d → pxs g n = pxs f n + d := by
  intro h x0 x1 hx
  have e : pxs g n = pxs f n + pxs (fun c => if c = x then d else 0) n := pxs_add n (fun c a b => by
    by_cases q : c = x
    · rw [if_pos q, q]; exact hx
    · rw [if_neg q, h c a b q]; omega)
  have z : ∀ m : Int, pxs (fun c => if c = x then d else 0) m = if x < m then d else 0 := by
    intro m
    refine pxs_ind (P := fun m => pxs (fun c => if c = x then d else 0) m = if x < m then d else 0) ?_ ?_ m
    · intro m hm; rw [pxs_0 hm, if_neg (by omega)]
    · intro m hm ih
      rw [pxs_S hm, ih]
      by_cases q : m = x
      · rw [if_pos q, if_neg (by omega), if_pos (by omega)]; omega
      · rw [if_neg q]
        by_cases r : x < m
        · rw [if_pos r, if_pos (by omega)]; omega
        · rw [if_neg r, if_neg (by omega)]; omega
  rw [e, z n, if_pos x1]
-- counted: whose parent has been placed
def prc (ab lv : Int → Int) (l i c : Int) : Int := if 0 ≤ ab c ∧ (l < lv (ab c) ∨ (lv (ab c) = l ∧ ab c < i)) then 1 else 0
def kid (ab : Int → Int) (i c : Int) : Int := if ab c = i then 1 else 0
def hang (ab : Int → Int) (c : Int) : Int := if 0 ≤ ab c then 1 else 0
def CTL (ab lv : Int → Int) (n l i : Int) : Int := pxs (prc ab lv l i) n
def TRT (n : Int) (nx : Int → Int) (t : Int) : Prop := 0 ≤ t ∧ ∃ lo hi : Int, (lo ≤ 0 ∧ 0 ≤ hi) ∧ hi - lo ≤ 4 * 2 ^ t.toNat - 4 ∧ ∀ i, 0 ≤ i → i < n → lo ≤ nx i ∧ nx i ≤ hi
theorem pow_le2 {a b : Nat} (h : a ≤ b) : (2 : Int) ^ a ≤ 2 ^ b := by
  have : (2 : Nat) ^ a ≤ 2 ^ b := Nat.pow_le_pow_right (by omega) h
  exact_mod_cast this
theorem trt_le {n t t_zq : Int} {nx : Int → Int} (h : TRT n nx t) (ht : t ≤ t_zq) : TRT n nx t_zq := by
  obtain ⟨t0, lo, hi, a, b, c⟩ := h
  refine ⟨by omega, lo, hi, a, ?_, c⟩
  have := pow_le2 (a := t.toNat) (b := t_zq.toNat) (by omega)
  omega
def FND (n : Int) (nx : Int → Int) (d : Int) : Prop := (∃ a b, (0 ≤ a ∧ a < n) ∧ (0 ≤ b ∧ b < n) ∧ d = nx a + 4 - nx b) ∨ (d = -1000000 ∧ ∃ a b, (0 ≤ a ∧ a < n) ∧ (0 ≤ b ∧ b < n) ∧ (1000000 ≤ nx a - nx b ∨ 1000000 ≤ nx a ∨ nx b ≤ -1000000))
theorem trt_shift {n t t_zq d : Int} {nx nx_zq : Int → Int} (h : TRT n nx t) (hd : FND n nx d) (hs : ∀ j, 0 ≤ j → j < n → nx_zq j = nx j ∨ nx_zq j = nx j + d) (ht : t_zq = t + 1) : TRT n nx_zq t_zq := by
  obtain ⟨t0, lo, hi, ⟨a0, a1⟩, b, c⟩ := h
  have e2 : (2 : Int) ^ t_zq.toNat = 2 * 2 ^ t.toNat := by
    rw [show t_zq.toNat = t.toNat + 1 by omega, Int.pow_succ]; omega
  have key : d ≤ hi - lo + 4 ∧ lo - hi ≤ d ∨ (d = -1000000 ∧ 1000000 ≤ hi - lo) := by
    rcases hd with ⟨a, b, ⟨p, q⟩, ⟨r, s⟩, e⟩ | ⟨e, a, b, ⟨p, q⟩, ⟨r, s⟩, f⟩
    · left
      have := c a p q
      have := c b r s
      omega
    · right
      have := c a p q
      have := c b r s
      omega
  rcases Int.le_total 0 d with g | g
  · refine ⟨by omega, lo, hi + d, ⟨a0, by omega⟩, by omega, fun j j0 j1 => ?_⟩
    have := c j j0 j1
    have := hs j j0 j1
    omega
  · refine ⟨by omega, lo + d, hi, ⟨by omega, a1⟩, by omega, fun j j0 j1 => ?_⟩
    have := c j j0 j1
    have := hs j j0 j1
    omega
theorem trt_put {n t s v a b : Int} {nx nx_zq : Int → Int} (h : TRT n nx t) (hs : st1 nx nx_zq s v) (hv : v = 0 ∨ ((0 ≤ a ∧ a < n) ∧ (0 ≤ b ∧ b < n) ∧ 2 * v ≤ nx a + nx b ∧ nx a + nx b ≤ 2 * v + 1)) : TRT n nx_zq t := by
  obtain ⟨t0, lo, hi, p, b, c⟩ := h
  refine ⟨t0, lo, hi, p, b, fun j j0 j1 => ?_⟩
  by_cases q : j = s
  · rw [(hs j j0).1 q]
    rcases hv with e | ⟨⟨w0, w1⟩, ⟨u0, u1⟩, e, f⟩
    · omega
    · have := c _ w0 w1
      have := c _ u0 u1
      omega
  · rw [(hs j j0).2 q]; exact c j j0 j1
theorem trt_bd {n t j : Int} {nx : Int → Int} (h : TRT n nx t) (ht : t ≤ 23) (j0 : 0 ≤ j) (j1 : j < n) : -33554432 ≤ nx j ∧ nx j ≤ 33554432 := by
  obtain ⟨t0, lo, hi, p, b, c⟩ := h
  have := pow_le2 (a := t.toNat) (b := 23) (by omega)
  have := c j j0 j1
  have : (2 : Int) ^ 23 = 8388608 := by decide
  omega
theorem ctl_kid {ab lv : Int → Int} {n l i i_zq : Int} (h : lv i = l) (i0 : 0 ≤ i) (hi : i_zq = i + 1) : CTL ab lv n l i_zq = CTL ab lv n l i + pxs (kid ab i) n := by
  refine pxs_add n (fun c a b => ?_)
  unfold prc kid
  by_cases q : ab c = i
  · rw [if_pos q, if_pos (by rw [q]; omega), if_neg (by rw [q]; omega)]; omega
  · rw [if_neg q]
    by_cases r : 0 ≤ ab c ∧ (l < lv (ab c) ∨ (lv (ab c) = l ∧ ab c < i))
    · rw [if_pos r, if_pos (by omega)]; omega
    · rw [if_neg r, if_neg (by omega)]; omega
theorem ctl_le {ab lv : Int → Int} {n l l_zq i i_zq : Int} (h : l_zq < l ∨ (l_zq = l ∧ i ≤ i_zq)) : CTL ab lv n l i ≤ CTL ab lv n l_zq i_zq := by
  refine pxs_mono n (fun c a b => ?_)
  unfold prc
  by_cases r : 0 ≤ ab c ∧ (l < lv (ab c) ∨ (lv (ab c) = l ∧ ab c < i))
  · rw [if_pos r, if_pos (by omega)]; omega
  · rw [if_neg r]
    by_cases q : 0 ≤ ab c ∧ (l_zq < lv (ab c) ∨ (lv (ab c) = l_zq ∧ ab c < i_zq))
    · rw [if_pos q]; omega
    · rw [if_neg q]; omega
theorem ctl_all {ab lv : Int → Int} {n l i : Int} : CTL ab lv n l i ≤ pxs (hang ab) n := by
  refine pxs_mono n (fun c a b => ?_)
  unfold prc hang
  by_cases r : 0 ≤ ab c ∧ (l < lv (ab c) ∨ (lv (ab c) = l ∧ ab c < i))
  · rw [if_pos r, if_pos r.1]; omega
  · rw [if_neg r]
    by_cases q : 0 ≤ ab c
    · rw [if_pos q]; omega
    · rw [if_neg q]; omega
theorem ctl_0 {ab lv : Int → Int} {n l i : Int} : 0 ≤ CTL ab lv n l i := pxs_lb n (fun c => by unfold prc; by_cases r : 0 ≤ ab c ∧ (l < lv (ab c) ∨ (lv (ab c) = l ∧ ab c < i)); rw [if_pos r]; omega; rw [if_neg r]; omega)
theorem kid_0 {ab : Int → Int} {n i : Int} : 0 ≤ pxs (kid ab i) n := pxs_lb n (fun c => by unfold kid; by_cases r : ab c = i; rw [if_pos r]; omega; rw [if_neg r]; omega)
end
section
-- the reference's trees: who is under whom (levels alone), shifts, children, roots
def LVE (n : Int) (ab lv : Int → Int) : Prop := ∀ j, 0 ≤ j → j < n → (0 < lv j → 0 ≤ ab j) ∧ (0 ≤ ab j → (0 ≤ lv (ab j) ∧ ab j < n) ∧ lv (ab j) + 1 = lv j)
def UN1 (lv : Int → Int) (i top k : Int) : Prop := (i = top → k = top) ∧ (k = i ∨ k < 0 ∨ lv k < lv i)
def UNQ2 (lv : Int → Int) (i top z : Int) : Prop := (i = top → z ≠ 0) ∧ (z ≠ 0 → i = top ∨ lv top < lv i)
def AH1 (ab : Int → Int) (i p k : Int) : Prop := 0 ≤ i → ab i = p → k = i
def AHP (ab : Int → Int) (i p c z : Int) : Prop := 0 ≤ i → i < c → ab i = p → z ≠ 0
def TTn (ab lv pt : Int → Int) (n p c many : Int) : Int := if many ≤ 0 then CTL ab lv n (lv p) p + pxs (kid ab p) c else pxs (hang ab) n + pt c - 1
def TRAA (r : Int) (A nx ab lv pt : Int → Int) (p c many : Int) : Prop := TRT (A r) nx (TTn ab lv pt (A r) p c many) ∧ TTn ab lv pt (A r) p c many ≤ 23
def TRZ (r : Int) (A nx ab lv pt : Int → Int) (p c many : Int) : Prop := TRT (A r) nx (TTn ab lv pt (A r) p c many + 1)
def NEB (r : Int) (A ab lv pt : Int → Int) (p c many f : Int) : Prop := ((0 ≤ c ∧ c < A r) ∧ 0 ≤ f ∧ f < A r ∧ f ≠ c) ∧ (lv f = lv c ∧ 0 ≤ lv c ∧ lv c < A r) ∧ ((0 < many ∧ pt f < pt c) ∨ (many ≤ 0 ∧ f < c ∧ ab f = p))
def NEP (r : Int) (A ab lv pt : Int → Int) (p c many : Int) : Prop := ∃ f, NEB r A ab lv pt p c many f
def NR8 (r : Int) (A nx ab lv pt : Int → Int) (p c many d l : Int) : Prop := TRAA r A nx ab lv pt p c many ∧ NEP r A ab lv pt p c many ∧ ((d = -1000000 ∧ l ≤ lv c) ∨ FND (A r) nx d)
def NR3 (r : Int) (A nx ab lv pt : Int → Int) (p c many d l mo le i : Int) : Prop := NR8 r A nx ab lv pt p c many d l ∧ (mo = -1000000 ∨ ∃ a, (0 ≤ a ∧ a < A r) ∧ mo = nx a) ∧ (le = 1000000 ∨ ∃ b, (0 ≤ b ∧ b < A r) ∧ le = nx b) ∧ (-1000000 ≤ mo ∧ le ≤ 1000000) ∧ ∃ f, NEB r A ab lv pt p c many f ∧ (lv c = l → (f < i → nx f ≤ mo) ∧ (c < i → le ≤ nx c))
def NR7 (r : Int) (A nx ab lv pt : Int → Int) (p c many d i : Int) : Prop := ∃ nx0, TRAA r A nx0 ab lv pt p c many ∧ FND (A r) nx0 d ∧ (∀ j, 0 ≤ j → j < A r → nx j = nx0 j ∨ nx j = nx0 j + d) ∧ ∀ j, i ≤ j → nx j = nx0 j
theorem nr8_start {r p c many d l : Int} {A nx ab lv pt : Int → Int} (h : TRAA r A nx ab lv pt p c many) (g : NEP r A ab lv pt p c many) (hd : d = -1000000) (hl : l = 0) : NR8 r A nx ab lv pt p c many d l := by
  obtain ⟨f, g1, g2, g3⟩ := g
  exact ⟨h, ⟨f, g1, g2, g3⟩, Or.inl ⟨hd, by omega⟩⟩
theorem nr3_start {r p c many d l mo le i : Int} {A nx ab lv pt : Int → Int} (h : NR8 r A nx ab lv pt p c many d l) (hm : mo = -1000000) (hl : le = 1000000) (hi : i = 0) : NR3 r A nx ab lv pt p c many d l mo le i := by
  obtain ⟨f, hf⟩ := h.2.1
  refine ⟨h, Or.inl hm, Or.inl hl, ⟨by omega, by omega⟩, f, hf, fun _ => ⟨fun a => ?_, fun a => ?_⟩⟩
  · have := hf.1; omega
  · have := hf.1; omega
theorem nr3_skip {r p c many d l mo le i i_zq : Int} {A nx ab lv pt : Int → Int} (h : NR3 r A nx ab lv pt p c many d l mo le i) (hi : i_zq = i + 1) (hl : lv i ≠ l) : NR3 r A nx ab lv pt p c many d l mo le i_zq := by
  obtain ⟨h1, h2, h3, h4, f, hf, hh⟩ := h
  refine ⟨h1, h2, h3, h4, f, hf, fun e => ⟨fun a => ?_, fun a => ?_⟩⟩
  · have q : f ≠ i := fun q => hl (by rw [← q, hf.2.1.1]; exact e)
    exact (hh e).1 (by omega)
  · have q : c ≠ i := fun q => hl (by rw [← q]; exact e)
    exact (hh e).2 (by omega)
theorem nr3_under {r p c many d l mo le le_zq i i_zq z v : Int} {A nx ab lv pt : Int → Int} (h : NR3 r A nx ab lv pt p c many d l mo le i) (hi : i_zq = i + 1) (i0 : 0 ≤ i) (i1 : i < A r) (hl : lv i = l) (hz : z ≠ 0) (hu : UNQ2 lv i c z) (hv : v = nx i) (hm : (le_zq = le ∨ le_zq = v) ∧ le_zq ≤ le ∧ le_zq ≤ v) : NR3 r A nx ab lv pt p c many d l mo le_zq i_zq := by
  obtain ⟨h1, h2, h3, h4, f, hf, hh⟩ := h
  refine ⟨h1, h2, ?_, ⟨h4.1, by omega⟩, f, hf, fun e => ⟨fun a => ?_, fun a => ?_⟩⟩
  · rcases hm.1 with q | q
    · rw [q]; exact h3
    · exact Or.inr ⟨i, ⟨i0, i1⟩, by omega⟩
  · have q : f ≠ i := fun q => by
      rcases hu.2 hz with w | w
      · exact hf.1.2.2.2 (by omega)
      · rw [hl, ← e] at w; omega
    exact (hh e).1 (by omega)
  · by_cases q : c = i
    · rw [q]; omega
    · have := (hh e).2 (by omega); omega
theorem nr3_ahead {r p c many d l mo mo_zq le i i_zq z v : Int} {A nx ab lv pt : Int → Int} (h : NR3 r A nx ab lv pt p c many d l mo le i) (hi : i_zq = i + 1) (i0 : 0 ≤ i) (i1 : i < A r) (hz : z = 0) (hu : UNQ2 lv i c z) (hv : v = nx i) (hm : (mo_zq = mo ∨ mo_zq = v) ∧ mo ≤ mo_zq ∧ v ≤ mo_zq) : NR3 r A nx ab lv pt p c many d l mo_zq le i_zq := by
  obtain ⟨h1, h2, h3, h4, f, hf, hh⟩ := h
  refine ⟨h1, ?_, h3, ⟨by omega, h4.2⟩, f, hf, fun e => ⟨fun a => ?_, fun a => ?_⟩⟩
  · rcases hm.1 with q | q
    · rw [q]; exact h2
    · exact Or.inr ⟨i, ⟨i0, i1⟩, by omega⟩
  · by_cases q : f = i
    · rw [q]; omega
    · have := (hh e).1 (by omega); omega
  · have q : c ≠ i := fun q => (hu.1 q.symm) hz
    exact (hh e).2 (by omega)
theorem nr3_other {r p c many d l mo le i i_zq z : Int} {A nx ab lv pt : Int → Int} (h : NR3 r A nx ab lv pt p c many d l mo le i) (hi : i_zq = i + 1) (i0 : 0 ≤ i) (hz : z = 0) (hu : UNQ2 lv i c z) (hn : (0 < many ∧ pt c ≤ pt i) ∨ (many ≤ 0 ∧ ∃ y, AHP ab i p c y ∧ y = 0)) : NR3 r A nx ab lv pt p c many d l mo le i_zq := by
  obtain ⟨h1, h2, h3, h4, f, hf, hh⟩ := h
  refine ⟨h1, h2, h3, h4, f, hf, fun e => ⟨fun a => ?_, fun a => ?_⟩⟩
  · have q : f ≠ i := fun q => by
      rcases hn with ⟨w, u⟩ | ⟨w, y, u, u0⟩
      · rcases hf.2.2 with x | x
        · rw [q] at x; omega
        · omega
      · rcases hf.2.2 with x | x
        · omega
        · exact u i0 (by omega) (by rw [← q]; exact x.2.2) u0
    exact (hh e).1 (by omega)
  · have q : c ≠ i := fun q => (hu.1 q.symm) hz
    exact (hh e).2 (by omega)
theorem nr8_next {r p c many d d_zq l l_zq mo le i : Int} {A nx ab lv pt : Int → Int} (h : NR3 r A nx ab lv pt p c many d l mo le i) (hi : A r ≤ i) (hl : l_zq = l + 1) (hd : (-1000000 < mo ∧ le < 1000000 ∧ ((d_zq = d ∨ d_zq = mo + 4 - le) ∧ d ≤ d_zq ∧ mo + 4 - le ≤ d_zq)) ∨ ((mo ≤ -1000000 ∨ 1000000 ≤ le) ∧ d_zq = d)) : NR8 r A nx ab lv pt p c many d_zq l_zq := by
  obtain ⟨h1, h2, h3, h4, f, hf, hh⟩ := h
  refine ⟨h1.1, h1.2.1, ?_⟩
  rcases hd with ⟨m1, l1, k, k1, k2⟩ | ⟨m, k⟩
  · rcases h2 with q | ⟨a, ha, ea⟩
    · omega
    · rcases h3 with q | ⟨b, hb, eb⟩
      · omega
      · right
        rcases k with k | k
        · rcases h1.2.2 with ⟨w, _⟩ | w
          · exact Or.inr ⟨by omega, b, a, hb, ha, by omega⟩
          · rw [k]; exact w
        · exact Or.inl ⟨a, b, ha, hb, by omega⟩
  · rw [k]
    rcases h1.2.2 with ⟨w, u⟩ | w
    · by_cases e : lv c = l
      · right
        have g := hf.1
        have p1 := (hh e).1 (by omega)
        have p2 := (hh e).2 (by omega)
        rcases m with m | m
        · exact Or.inr ⟨w, c, f, ⟨by omega, by omega⟩, ⟨by omega, by omega⟩, by omega⟩
        · exact Or.inr ⟨w, c, f, ⟨by omega, by omega⟩, ⟨by omega, by omega⟩, by omega⟩
      · exact Or.inl ⟨w, by omega⟩
    · exact Or.inr w
theorem nr7_start {r p c many d l i : Int} {A nx ab lv pt : Int → Int} (h : NR8 r A nx ab lv pt p c many d l) (hl : A r ≤ l) : NR7 r A nx ab lv pt p c many d i := by
  refine ⟨nx, h.1, ?_, fun j _ _ => Or.inl rfl, fun j _ => rfl⟩
  rcases h.2.2 with ⟨_, u⟩ | w
  · obtain ⟨f, hf⟩ := h.2.1
    have := hf.2.1
    exfalso; omega
  · exact w
theorem nr7_keep {r p c many d i i_zq : Int} {A nx ab lv pt : Int → Int} (h : NR7 r A nx ab lv pt p c many d i) (hi : i ≤ i_zq) : NR7 r A nx ab lv pt p c many d i_zq := by
  obtain ⟨nx0, a, b, e, g⟩ := h
  exact ⟨nx0, a, b, e, fun j q => g j (by omega)⟩
theorem nr7_step {r p c many d i i_zq s v u : Int} {A nx nx_zq ab lv pt : Int → Int} (h : NR7 r A nx ab lv pt p c many d i) (i0 : 0 ≤ i) (hi : i_zq = i + 1) (hs : st1 nx nx_zq s v) (hss : s = i) (hu : u = nx i) (hv : v = u + d) : NR7 r A nx_zq ab lv pt p c many d i_zq := by
  obtain ⟨nx0, a, b, e, g⟩ := h
  refine ⟨nx0, a, b, fun j j0 j1 => ?_, fun j q => ?_⟩
  · by_cases q : j = i
    · rw [(hs j j0).1 (by omega), q]
      have := g i (by omega)
      right; omega
    · rw [(hs j j0).2 (by omega)]; exact e j j0 j1
  · rw [(hs j (by omega)).2 (by omega)]; exact g j (by omega)
theorem nr7_end {r p c many d i : Int} {A nx ab lv pt : Int → Int} (h : NR7 r A nx ab lv pt p c many d i) : TRZ r A nx ab lv pt p c many := by
  obtain ⟨nx0, a, b, e, g⟩ := h
  exact trt_shift a.1 b e rfl
theorem trt_bd4 {n t j : Int} {nx : Int → Int} (h : TRT n nx t) (ht : t ≤ 24) (j0 : 0 ≤ j) (j1 : j < n) : -67108864 ≤ nx j ∧ nx j ≤ 67108864 := by
  obtain ⟨t0, lo, hi, p, b, c⟩ := h
  have := pow_le2 (a := t.toNat) (b := 24) (by omega)
  have := c j j0 j1
  have : (2 : Int) ^ 24 = 16777216 := by decide
  omega
theorem fnd_bd {n t d : Int} {nx : Int → Int} (h : TRT n nx t) (ht : t ≤ 24) (hd : FND n nx d) : -134217728 ≤ d ∧ d ≤ 134217732 := by
  rcases hd with ⟨a, b, ⟨p, q⟩, ⟨r, s⟩, e⟩ | ⟨e, _⟩
  · have := trt_bd4 h ht p q
    have := trt_bd4 h ht r s
    omega
  · omega
theorem nr7_bd {r p c many d i : Int} {A nx ab lv pt : Int → Int} (h : NR7 r A nx ab lv pt p c many d i) (i0 : 0 ≤ i) (i1 : i < A r) : (-67108864 ≤ nx i ∧ nx i ≤ 67108864) ∧ -134217728 ≤ d ∧ d ≤ 134217732 := by
  obtain ⟨nx0, a, b, e, g⟩ := h
  rw [g i (by omega)]
  exact ⟨trt_bd4 a.1 (by have := a.2; omega) i0 i1, fnd_bd a.1 (by have := a.2; omega) b⟩
-- the children of a node
def CHX (r : Int) (A nx ab lv : Int → Int) (i t : Int) : Prop := (LVE (A r) ab lv ∧ (0 ≤ A r ∧ A r ≤ 24) ∧ 0 ≤ lv i ∧ 0 ≤ i ∧ i < A r) ∧ TRT (A r) nx t
def CHA (r : Int) (A nx ab lv : Int → Int) (i : Int) : Prop := CHX r A nx ab lv i (CTL ab lv (A r) (lv i) i)
def CHB (r : Int) (A nx ab lv : Int → Int) (i : Int) : Prop := CHX r A nx ab lv i (CTL ab lv (A r) (lv i) (i + 1))
def CH7 (r : Int) (A nx ab lv : Int → Int) (i f l c : Int) : Prop := CHX r A nx ab lv i (CTL ab lv (A r) (lv i) i + pxs (kid ab i) c) ∧ (0 ≤ c ∧ c ≤ A r) ∧ (f = -1 ∨ ((0 ≤ f ∧ f < c ∧ ab f = i) ∧ 0 ≤ l ∧ l < A r))
def CHK (r : Int) (A ab lv : Int → Int) (i f l c : Int) : Prop := (LVE (A r) ab lv ∧ (0 ≤ A r ∧ A r ≤ 24) ∧ 0 ≤ lv i ∧ 0 ≤ i ∧ i < A r) ∧ (0 ≤ c ∧ c ≤ A r) ∧ (f = -1 ∨ ((0 ≤ f ∧ f < c ∧ ab f = i) ∧ 0 ≤ l ∧ l < A r))
theorem chk_of {r i f l c : Int} {A nx ab lv : Int → Int} (h : CH7 r A nx ab lv i f l c) : CHK r A ab lv i f l c := ⟨h.1.1, h.2.1, h.2.2⟩
theorem lv_cnt {n : Int} {ab lv : Int → Int} (h : LVE n ab lv) (m : Nat) : ∀ c, 0 ≤ c → c < n → lv c = (m : Int) → (m : Int) + 1 ≤ pxs (fun x => if 0 ≤ lv x ∧ lv x ≤ (m : Int) then 1 else 0) n := by
  induction m with
  | zero =>
    intro c c0 c1 e
    have z := pxs_one (f := fun _ => 0) (g := fun x => if x = c then 1 else 0) (x := c) (d := 1) n (fun x _ _ q => if_neg q) c0 c1 (by simp)
    have z2 : 0 ≤ pxs (fun _ => (0 : Int)) n := pxs_lb n (fun _ => by omega)
    have := pxs_mono (f := fun x => if x = c then 1 else 0) (g := fun x => if 0 ≤ lv x ∧ lv x ≤ ((0 : Nat) : Int) then 1 else 0) n (fun x _ _ => by
      by_cases q : x = c
      · show (if x = c then (1 : Int) else 0) ≤ _
        rw [if_pos q, if_pos (by rw [q, e]; omega)]; omega
      · show (if x = c then (1 : Int) else 0) ≤ if 0 ≤ lv x ∧ lv x ≤ ((0 : Nat) : Int) then 1 else 0
        rw [if_neg q]
        by_cases w : 0 ≤ lv x ∧ lv x ≤ ((0 : Nat) : Int)
        · rw [if_pos w]; omega
        · rw [if_neg w]; omega)
    omega
  | succ m ih =>
    intro c c0 c1 e
    have q := (h c c0 c1).1 (by omega)
    have q2 := (h c c0 c1).2 q
    have := ih (ab c) q q2.1.2 (by omega)
    have z := pxs_one (f := fun x => if 0 ≤ lv x ∧ lv x ≤ (m : Int) then 1 else 0) (g := fun x => if x = c then 1 else if 0 ≤ lv x ∧ lv x ≤ (m : Int) then 1 else 0) (x := c) (d := 1) n (fun x _ _ q => by show (if x = c then (1 : Int) else _) = _; rw [if_neg q]) c0 c1 (by
      show (if c = c then (1 : Int) else _) = (if 0 ≤ lv c ∧ lv c ≤ (m : Int) then 1 else 0) + 1
      rw [if_pos rfl, if_neg (by omega)]; omega)
    have := pxs_mono (f := fun x => if x = c then 1 else if 0 ≤ lv x ∧ lv x ≤ (m : Int) then 1 else 0) (g := fun x => if 0 ≤ lv x ∧ lv x ≤ ((m + 1 : Nat) : Int) then 1 else 0) n (fun x _ _ => by
      show (if x = c then (1 : Int) else if 0 ≤ lv x ∧ lv x ≤ (m : Int) then 1 else 0) ≤ if 0 ≤ lv x ∧ lv x ≤ ((m + 1 : Nat) : Int) then 1 else 0
      by_cases q : x = c
      · rw [if_pos q, if_pos (by rw [q, e]; omega)]; omega
      · rw [if_neg q]
        by_cases w : 0 ≤ lv x ∧ lv x ≤ (m : Int)
        · rw [if_pos w, if_pos (by omega)]; omega
        · rw [if_neg w]
          by_cases w2 : 0 ≤ lv x ∧ lv x ≤ ((m + 1 : Nat) : Int)
          · rw [if_pos w2]; omega
          · rw [if_neg w2]; omega)
    omega
theorem lvl_lt {n c : Int} {ab lv : Int → Int} (h : LVE n ab lv) (c0 : 0 ≤ c) (c1 : c < n) (l0 : 0 ≤ lv c) : lv c < n := by
  have := lv_cnt h (lv c).toNat c c0 c1 (by omega)
  have := pxs_ub (f := fun x => if 0 ≤ lv x ∧ lv x ≤ ((lv c).toNat : Int) then 1 else 0) n (by omega) (fun x => by
    show (if 0 ≤ lv x ∧ lv x ≤ ((lv c).toNat : Int) then (1 : Int) else 0) ≤ 1
    by_cases w : 0 ≤ lv x ∧ lv x ≤ ((lv c).toNat : Int)
    · rw [if_pos w]; omega
    · rw [if_neg w]; omega)
  omega
theorem ch7_start {r i f l c : Int} {A nx ab lv : Int → Int} (h : CHA r A nx ab lv i) (hf : f = -1) (hc : c = 0) : CH7 r A nx ab lv i f l c := by
  refine ⟨⟨h.1, ?_⟩, ⟨by omega, by have := h.1; omega⟩, Or.inl hf⟩
  rw [pxs_0 (n := c) (by omega)]
  exact trt_le h.2 (by omega)
theorem kid_le {ab : Int → Int} {i c c_zq : Int} (c0 : 0 ≤ c) (hc : c_zq = c + 1) : pxs (kid ab i) c ≤ pxs (kid ab i) c_zq := by
  rw [hc, pxs_S c0]
  have : 0 ≤ kid ab i c := by unfold kid; by_cases q : ab c = i; rw [if_pos q]; omega; rw [if_neg q]; omega
  omega
theorem ch7_skip {r i f l c c_zq : Int} {A nx ab lv : Int → Int} (h : CH7 r A nx ab lv i f l c) (hc : c_zq = c + 1) (c1 : c < A r) : CH7 r A nx ab lv i f l c_zq := by
  obtain ⟨⟨h1, h2⟩, h3, h4⟩ := h
  have := kid_le (ab := ab) (i := i) h3.1 hc
  exact ⟨⟨h1, trt_le h2 (by omega)⟩, ⟨by omega, by omega⟩, by omega⟩
theorem ch7_first {r i f f_zq l l_zq c c_zq v : Int} {A nx ab lv : Int → Int} (h : CH7 r A nx ab lv i f l c) (hc : c_zq = c + 1) (c1 : c < A r) (hv : v = ab c) (hi : v = i) (hf : f_zq = c) (hl : l_zq = c) : CH7 r A nx ab lv i f_zq l_zq c_zq := by
  obtain ⟨⟨h1, h2⟩, h3, h4⟩ := h
  have := kid_le (ab := ab) (i := i) h3.1 hc
  exact ⟨⟨h1, trt_le h2 (by omega)⟩, ⟨by omega, by omega⟩, Or.inr ⟨⟨by omega, by omega, by rw [hf]; omega⟩, by omega, by omega⟩⟩
theorem ch7_pre {r i f l c v many : Int} {A nx ab lv pt : Int → Int} (h : CH7 r A nx ab lv i f l c) (c1 : c < A r) (hv : v = ab c) (hi : v = i) (hf : 0 ≤ f) (hm : many = 0) : TRAA r A nx ab lv pt i c many ∧ NEP r A ab lv pt i c many := by
  obtain ⟨⟨h1, h2⟩, h3, h4⟩ := h
  have e : TTn ab lv pt (A r) i c many = CTL ab lv (A r) (lv i) i + pxs (kid ab i) c := by unfold TTn; rw [if_pos (by omega)]
  have q := h4.resolve_left (by omega)
  have hc0 := (h1.1 c h3.1 c1).2 (by omega)
  have hf0 := (h1.1 f (by omega) (by omega)).2 (by omega)
  have ec : ab c = i := by omega
  have ef : ab f = i := q.1.2.2
  rw [ec] at hc0
  rw [ef] at hf0
  refine ⟨⟨by rw [e]; exact h2, ?_⟩, f, ⟨⟨h3.1, c1⟩, by omega, by omega, by omega⟩, ⟨by omega, by omega, ?_⟩, Or.inr ⟨by omega, by omega, ef⟩⟩
  · rw [e]
    have k1 : pxs (kid ab i) (c + 1) = pxs (kid ab i) c + 1 := by
      rw [pxs_S h3.1]; unfold kid; rw [if_pos ec]
    have k2 : pxs (kid ab i) (c + 1) ≤ pxs (kid ab i) (A r) := by
      have mono : ∀ m : Int, c + 1 ≤ m → pxs (kid ab i) (c + 1) ≤ pxs (kid ab i) m := by
        intro m
        refine pxs_ind (P := fun m => c + 1 ≤ m → pxs (kid ab i) (c + 1) ≤ pxs (kid ab i) m) ?_ ?_ m
        · intro m hm h; exfalso; omega
        · intro m hm ih h
          by_cases w : c + 1 ≤ m
          · have := ih w
            have := kid_le (ab := ab) (i := i) hm (c_zq := m + 1) rfl
            omega
          · rw [show m + 1 = c + 1 by omega]; omega
      exact mono _ (by omega)
    have k3 := ctl_kid (ab := ab) (lv := lv) (n := A r) (l := lv i) (i := i) (i_zq := i + 1) rfl (by omega) rfl
    have k4 := ctl_all (ab := ab) (lv := lv) (n := A r) (l := lv i) (i := i + 1)
    have k5 := pxs_ub (f := hang ab) (A r) (by omega) (fun c => by unfold hang; by_cases w : 0 ≤ ab c; rw [if_pos w]; omega; rw [if_neg w]; omega)
    omega
  · exact lvl_lt h1.1 h3.1 c1 (by omega)
theorem ch7_next {r i f l l_zq c c_zq v many : Int} {A nx_zq ab lv pt : Int → Int} (h : CHK r A ab lv i f l c) (hc : c_zq = c + 1) (c1 : c < A r) (hv : v = ab c) (hi : v = i) (hf : 0 ≤ f) (hm : many = 0) (hl : l_zq = c) (hz : TRZ r A nx_zq ab lv pt i c many) : CH7 r A nx_zq ab lv i f l_zq c_zq := by
  obtain ⟨h1, h3, h4⟩ := h
  have q := h4.resolve_left (by omega)
  have e : TTn ab lv pt (A r) i c many = CTL ab lv (A r) (lv i) i + pxs (kid ab i) c := by unfold TTn; rw [if_pos (by omega)]
  unfold TRZ at hz
  rw [e] at hz
  refine ⟨⟨h1, trt_le hz ?_⟩, ⟨by omega, by omega⟩, Or.inr ⟨⟨by omega, by omega, q.1.2.2⟩, by omega, by omega⟩⟩
  rw [hc, pxs_S h3.1]
  unfold kid
  rw [if_pos (by omega)]
  omega
theorem ch7_end {r i f l c s v a b : Int} {A nx nx_zq ab lv : Int → Int} (h : CH7 r A nx ab lv i f l c) (c1 : A r ≤ c) (hs : st1 nx nx_zq s v) (hv : (f < 0 ∧ v = 0) ∨ (0 ≤ f ∧ a = nx f ∧ b = nx l ∧ 2 * v ≤ a + b ∧ a + b ≤ 2 * v + 1)) : CHB r A nx_zq ab lv i := by
  obtain ⟨⟨h1, h2⟩, h3, h4⟩ := h
  have ec : c = A r := by omega
  have k3 := ctl_kid (ab := ab) (lv := lv) (n := A r) (l := lv i) (i := i) (i_zq := i + 1) rfl (by omega) rfl
  refine ⟨h1, ?_⟩
  rw [k3, ← ec]
  rw [ec] at h2 ⊢
  rcases hv with ⟨_, e⟩ | ⟨q, ea, eb, e1, e2⟩
  · exact trt_put (a := 0) (b := 0) h2 hs (Or.inl e)
  · have w := h4.resolve_left (by omega)
    exact trt_put (a := f) (b := l) h2 hs (Or.inr ⟨⟨by omega, by omega⟩, ⟨by omega, by omega⟩, by omega, by omega⟩)
-- the whole tree: roots, hanging
def hlv (lv : Int → Int) (c : Int) : Int := if 0 ≤ lv c then 1 else 0
def RTPT (pt root : Int → Int) (k : Int) : Prop := ∀ q, 0 ≤ q → q < k → pt (root q) = q
def RTI (pt root : Int → Int) (k : Int) : Prop := RTPT pt root k ∧ (root k = -1 ∨ pt (root k) = k)
def LVZ (pt lv root : Int → Int) (n p : Int) : Prop := (∀ c, 0 ≤ c → c < n → 0 ≤ lv c → pt c < p) ∧ (∀ q, 0 ≤ q → q < p → 0 ≤ root q ∧ lv (root q) = 0) ∧ p ≤ pxs (hlv lv) n
def BFS (r : Int) (A ab lv pt root : Int → Int) (many : Int) : Prop := (∀ q, 0 ≤ q → q < many → (0 ≤ root q ∧ root q < A r) ∧ lv (root q) = 0 ∧ pt (root q) = q) ∧ pxs (hang ab) (A r) + many ≤ pxs (hlv lv) (A r) ∧ LVE (A r) ab lv ∧ 0 ≤ A r ∧ A r ≤ 24
theorem rti_step {k : Int} {pt root root_zq : Int → Int} {s v : Int} (h : RTI pt root k) (hs : st1 root root_zq s v) (hss : s = k) (k0 : 0 ≤ k) (hv : v = -1 ∨ pt v = k) : RTI pt root_zq k := by
  refine ⟨fun q a b => ?_, ?_⟩
  · rw [(hs q a).2 (by omega)]; exact h.1 q a b
  · rw [(hs k k0).1 (by omega)]; exact hv
theorem rti_of {k : Int} {pt root root_zq : Int → Int} {s v : Int} (h : RTPT pt root k) (hs : st1 root root_zq s v) (hss : s = k) (k0 : 0 ≤ k) (hv : v = -1) : RTI pt root_zq k := by
  refine ⟨fun q a b => ?_, ?_⟩
  · rw [(hs q a).2 (by omega)]; exact h q a b
  · rw [(hs k k0).1 (by omega)]; exact Or.inl hv
theorem rtp_next {k k_zq : Int} {pt root : Int → Int} (h : RTI pt root k) (hk : k_zq = k + 1) (k1 : 0 ≤ root k) : RTPT pt root k_zq := by
  intro q a b
  by_cases e : q = k
  · rw [e]; exact h.2.resolve_left (by omega)
  · exact h.1 q a (by omega)
theorem lvz_start {pt lv ab root : Int → Int} {n m p : Int} (h : ∀ c, 0 ≤ c → c < n → lv c = -1) (hp : p = 0) : LVZ pt lv root n p := by
  refine ⟨fun c a b d => ?_, fun q a b => ?_, ?_⟩
  · have := h c a b; exfalso; omega
  · exfalso; omega
  · rw [hp]; exact pxs_lb n (fun c => by unfold hlv; by_cases w : 0 ≤ lv c; rw [if_pos w]; omega; rw [if_neg w]; omega)
theorem lvz_step {pt lv lv' root : Int → Int} {n p p_zq s v : Int} (h : LVZ pt lv root n p) (hr : pt (root p) = p) (r0 : 0 ≤ root p) (r1 : root p < n) (hp : p_zq = p + 1) (hs : st1 lv lv' s v) (hss : s = root p) (hv : v = 0) : LVZ pt lv' root n p_zq := by
  have ng : lv (root p) < 0 := by
    by_cases w : 0 ≤ lv (root p)
    · have := h.1 _ r0 r1 w; omega
    · omega
  refine ⟨fun c a b d => ?_, fun q a b => ?_, ?_⟩
  · by_cases q : c = root p
    · rw [q, hr]; omega
    · rw [(hs c a).2 (by omega)] at d
      have := h.1 c a b d; omega
  · by_cases e : root q = root p
    · rw [e]; exact ⟨r0, by rw [(hs _ r0).1 hss.symm]; exact hv⟩
    · by_cases e2 : q = p
      · exact absurd (congrArg root e2) e
      · have z := h.2.1 q a (by omega)
        exact ⟨z.1, by rw [(hs _ z.1).2 (by omega)]; exact z.2⟩
  · have := pxs_one (f := hlv lv) (g := hlv lv') (x := root p) (d := 1) n (fun c a b q => by unfold hlv; rw [(hs c a).2 (by omega)]) r0 r1 (by
      unfold hlv
      rw [(hs _ r0).1 hss.symm, if_pos (by omega), if_neg (by omega)]; omega)
    have := h.2.2
    omega
theorem hang_0 {ab : Int → Int} (n : Int) (h : ∀ c, 0 ≤ c → c < n → ab c = -1) : pxs (hang ab) n = 0 := by
  have a : pxs (hang ab) n ≤ pxs (fun _ => 0) n := pxs_mono n (fun c a b => by unfold hang; rw [if_neg (by have := h c a b; omega)]; omega)
  have b : 0 ≤ pxs (hang ab) n := pxs_lb n (fun c => by unfold hang; by_cases w : 0 ≤ ab c; rw [if_pos w]; omega; rw [if_neg w]; omega)
  have c : ∀ m : Int, pxs (fun _ => (0 : Int)) m = 0 := by
    intro m
    refine pxs_ind (P := fun m => pxs (fun _ => (0 : Int)) m = 0) (fun m hm => pxs_0 hm) (fun m hm ih => by rw [pxs_S hm, ih]; omega) m
  have := c n
  omega
theorem bfs_start {r n many : Int} {A ab lv pt root : Int → Int} (h : LVZ pt lv root n many) (hp : RTPT pt root many) (hr : RTK root n many) (ha : ABI ab lv n) (hn : n = A r) (n0 : 0 ≤ n) (n1 : n ≤ 24) : BFS r A ab lv pt root many := by
  subst hn
  refine ⟨fun q a b => ⟨hr q a b, (h.2.1 q a b).2, hp q a b⟩, ?_, ?_, n0, n1⟩
  · rw [hang_0 _ (fun c a b => (ha c a b).1)]
    have := h.2.2
    omega
  · intro j a b
    have := ha j a b
    exact ⟨fun q => by omega, fun q => by omega⟩
theorem bfs_hang {r many i f p v q w u : Int} {A ab ab_zq lv lv' pt root : Int → Int} (h : BFS r A ab lv pt root many) (i0 : 0 ≤ i) (i1 : i < A r) (f0 : 0 ≤ f) (f1 : f < A r) (hi : lv i < 0) (hf : 0 ≤ lv f) (hs : st1 ab ab_zq p v) (hp : p = i) (hv : v = f) (ht : st1 lv lv' q w) (hq : q = i) (hu : u = lv f) (hw : w = u + 1) : BFS r A ab_zq lv' pt root many := by
  obtain ⟨h1, h2, h3, h4⟩ := h
  rw [hp, hv] at hs
  rw [hq] at ht
  have hab : ab i < 0 := by
    by_cases z : 0 ≤ ab i
    · have := ((h3 i i0 i1).2 z); omega
    · omega
  have up : ∀ j, 0 ≤ j → j ≠ i → lv' j = lv j := fun j a b => (ht j a).2 b
  have ua : ∀ j, 0 ≤ j → j ≠ i → ab_zq j = ab j := fun j a b => (hs j a).2 b
  have ep : lv' i = w := (ht i i0).1 rfl
  have ea : ab_zq i = f := (hs i i0).1 rfl
  refine ⟨fun q a b => ?_, ?_, ?_, h4⟩
  · have z := h1 q a b
    refine ⟨z.1, ?_, z.2.2⟩
    rw [up _ z.1.1 (fun e => by rw [e] at z; omega)]
    exact z.2.1
  · have e1 := pxs_one (f := hang ab) (g := hang ab_zq) (x := i) (d := 1) (A r) (fun c a b q => by unfold hang; rw [ua c a q]) i0 i1 (by
      unfold hang; rw [ea, if_pos f0, if_neg (by omega)]; omega)
    have e2 := pxs_one (f := hlv lv) (g := hlv lv') (x := i) (d := 1) (A r) (fun c a b q => by unfold hlv; rw [up c a q]) i0 i1 (by
      unfold hlv; rw [ep, if_pos (by omega), if_neg (by omega)]; omega)
    omega
  · intro j a b
    have vp : f ≠ i := fun e => by rw [e] at hf; omega
    by_cases e : j = i
    · subst e
      rw [ep, ea, up f f0 vp]
      exact ⟨fun _ => f0, fun _ => ⟨⟨hf, f1⟩, by omega⟩⟩
    · rw [up j a e, ua j a e]
      refine ⟨(h3 j a b).1, fun z => ?_⟩
      have y := (h3 j a b).2 z
      rw [up _ z (fun e2 => by rw [e2] at y; omega)]
      exact y
-- going down the levels, then the roots
def TL7 (r : Int) (A nx ab lv : Int → Int) (l i : Int) : Prop := TRT (A r) nx (CTL ab lv (A r) l i)
def TL3 (r : Int) (A nx ab lv : Int → Int) (l : Int) : Prop := TRT (A r) nx (CTL ab lv (A r) l 0)
def TLR (r : Int) (A nx ab : Int → Int) (p : Int) : Prop := TRT (A r) nx (pxs (hang ab) (A r) + p - 1)
def NX0 (nx : Int → Int) (i : Int) : Prop := ∀ j, 0 ≤ j → j < i → nx j = 0
theorem nx0_step {nx nx_zq : Int → Int} {i i_zq s v : Int} (h : NX0 nx i) (hi : i_zq = i + 1) (hs : st1 nx nx_zq s v) (hss : s = i) (hv : v = 0) : NX0 nx_zq i_zq := by
  intro j a b
  by_cases e : j = i
  · rw [(hs j a).1 (by omega)]; exact hv
  · rw [(hs j a).2 (by omega)]; exact h j a (by omega)
theorem tl3_start {r n l : Int} {A nx ab lv : Int → Int} (h : NX0 nx n) (hn : n = A r) : TL3 r A nx ab lv l := by
  refine ⟨ctl_0, 0, 0, ⟨by omega, by omega⟩, ?_, fun j a b => ?_⟩
  · have := pow_le2 (a := 0) (b := (CTL ab lv (A r) l 0).toNat) (by omega)
    have e : (2 : Int) ^ 0 = 1 := rfl
    omega
  · rw [h j a (by omega)]; omega
theorem tl7_start {r l i : Int} {A nx ab lv : Int → Int} (h : TL3 r A nx ab lv l) (hi : i = 0) : TL7 r A nx ab lv l i := by subst hi; exact h
theorem tl7_skip {r l i i_zq : Int} {A nx ab lv : Int → Int} (h : TL7 r A nx ab lv l i) (hi : i ≤ i_zq) : TL7 r A nx ab lv l i_zq := trt_le h (ctl_le (Or.inr ⟨rfl, hi⟩))
theorem tl7_cha {r l i many : Int} {A nx ab lv pt root : Int → Int} (h : TL7 r A nx ab lv l i) (hb : BFS r A ab lv pt root many) (i0 : 0 ≤ i) (i1 : i < A r) (hl : lv i = l) (l0 : 0 ≤ l) : CHA r A nx ab lv i := by
  subst hl
  exact ⟨⟨hb.2.2.1, hb.2.2.2, l0, i0, i1⟩, h⟩
theorem tl7_chb {r l i i_zq : Int} {A nx ab lv : Int → Int} (h : CHB r A nx ab lv i) (hl : lv i = l) (hi : i_zq = i + 1) : TL7 r A nx ab lv l i_zq := by
  subst hl hi; exact h.2
theorem tl3_next {r l l_zq i : Int} {A nx ab lv : Int → Int} (h : TL7 r A nx ab lv l i) (hl : l_zq = l - 1) : TL3 r A nx ab lv l_zq := trt_le h (ctl_le (Or.inl (by omega)))
theorem tlr_start {r l p : Int} {A nx ab lv : Int → Int} (h : TL3 r A nx ab lv l) (hp : p = 1) : TLR r A nx ab p := by
  subst hp
  refine trt_le h ?_
  have := ctl_all (ab := ab) (lv := lv) (n := A r) (l := l) (i := 0)
  omega
theorem tlr_pre {r p c many : Int} {A nx ab lv pt root : Int → Int} (h : TLR r A nx ab p) (hb : BFS r A ab lv pt root many) (p1 : 1 ≤ p) (p2 : p < many) (hc : c = root p) (x : Int) : TRAA r A nx ab lv pt x c many ∧ NEP r A ab lv pt x c many := by
  obtain ⟨h1, h2, h3, h4, h5⟩ := hb
  have a := h1 p (by omega) p2
  have b := h1 0 (by omega) (by omega)
  rw [← hc] at a
  have e : TTn ab lv pt (A r) x c many = pxs (hang ab) (A r) + p - 1 := by unfold TTn; rw [if_neg (by omega), a.2.2]
  have ub := pxs_ub (f := hlv lv) (A r) h4 (fun c => by unfold hlv; by_cases w : 0 ≤ lv c; rw [if_pos w]; omega; rw [if_neg w]; omega)
  refine ⟨⟨by rw [e]; exact h, by rw [e]; omega⟩, root 0, ⟨a.1, b.1.1, b.1.2, fun q => ?_⟩, ⟨by omega, by omega, by omega⟩, Or.inl ⟨by omega, by omega⟩⟩
  rw [q] at b; omega
theorem tlr_next {r p p_zq c many x : Int} {A nx ab lv pt root : Int → Int} (hz : TRZ r A nx ab lv pt x c many) (hb : BFS r A ab lv pt root many) (p1 : 1 ≤ p) (p2 : p < many) (hc : c = root p) (hp : p_zq = p + 1) : TLR r A nx ab p_zq := by
  have a := hb.1 p (by omega) p2
  rw [← hc] at a
  unfold TRZ at hz
  have e : TTn ab lv pt (A r) x c many + 1 = pxs (hang ab) (A r) + p_zq - 1 := by unfold TTn; rw [if_neg (by omega), a.2.2]; omega
  rw [e] at hz
  exact hz
def TND (n : Int) (nx : Int → Int) : Prop := NBD nx n (-67108864) 67108864
theorem tnd_of {r p n many : Int} {A nx ab lv pt root : Int → Int} (h : TLR r A nx ab p) (hb : BFS r A ab lv pt root many) (hp : p ≤ many ∨ p ≤ 1) (hn : n = A r) (m0 : 0 ≤ many) : NBD nx n (-67108864) 67108864 := by
  subst hn
  obtain ⟨h1, h2, h3, h4, h5⟩ := hb
  have ub := pxs_ub (f := hlv lv) (A r) h4 (fun c => by unfold hlv; by_cases w : 0 ≤ lv c; rw [if_pos w]; omega; rw [if_neg w]; omega)
  exact fun j a b => trt_bd4 h (by omega) a b
def TNI (nx : Int → Int) (n i : Int) : Prop := NBD nx n (-70000000) 140000000 ∧ ∀ j, i ≤ j → 0 ≤ j → j < n → -67108864 ≤ nx j ∧ nx j ≤ 67108864
theorem tni_step {n i i_zq s v : Int} {nx nx_zq : Int → Int} (h : TNI nx n i) (hi : i_zq = i + 1) (hs : st1 nx nx_zq s v) (hss : s = i) (v0 : -70000000 ≤ v) (v1 : v ≤ 140000000) : TNI nx_zq n i_zq := by
  refine ⟨nbd_st h.1 hs (by omega) (by omega) (by omega) v0 v1, ?_⟩
  intro j a b c
  rw [(hs j b).2 (by omega)]
  exact h.2 j (by omega) b c
def TNB (nx : Int → Int) (n : Int) : Prop := NBD nx n (-67108864) 67108864
def LVN (lv : Int → Int) (i : Int) : Prop := ∀ j, 0 ≤ j → j < i → lv j = -1
theorem lvn_step {lv lv' : Int → Int} {i i_zq s v : Int} (h : LVN lv i) (hi : i_zq = i + 1) (hs : st1 lv lv' s v) (hss : s = i) (hv : v = -1) : LVN lv' i_zq := by
  intro j a b
  by_cases e : j = i
  · rw [(hs j a).1 (by omega)]; exact hv
  · rw [(hs j a).2 (by omega)]; exact h j a (by omega)
theorem rtp_store {k k_zq s v : Int} {pt root root_zq : Int → Int} (h : RTI pt root k) (k0 : 0 ≤ k) (hk : k_zq = k + 1) (hs : st1 root root_zq s v) (hss : s = k) (v0 : 0 ≤ v) (hv : pt v = k) : RTPT pt root_zq k_zq := by
  refine rtp_next (rti_step h hs hss k0 (Or.inr hv)) hk ?_
  rw [(hs k k0).1 (by omega)]; exact v0
theorem ch7_bd {r i f l c j : Int} {A nx ab lv : Int → Int} (h : CH7 r A nx ab lv i f l c) (hc : A r ≤ c) (j0 : 0 ≤ j) (j1 : j < A r) : -67108864 ≤ nx j ∧ nx j ≤ 67108864 := by
  obtain ⟨⟨h1, h2⟩, h3, h4⟩ := h
  refine trt_bd4 h2 ?_ j0 j1
  have k3 := ctl_kid (ab := ab) (lv := lv) (n := A r) (l := lv i) (i := i) (i_zq := i + 1) rfl (by omega) rfl
  have k4 := ctl_all (ab := ab) (lv := lv) (n := A r) (l := lv i) (i := i + 1)
  have k5 := pxs_ub (f := hang ab) (A r) (by omega) (fun c => by unfold hang; by_cases w : 0 ≤ ab c; rw [if_pos w]; omega; rw [if_neg w]; omega)
  rw [show c = A r by omega]
  omega
theorem ab_hang {r i f p v q w u : Int} {A ab ab_zq lv lv' : Int → Int} (h : ∀ j0 : Int, 0 ≤ j0 → j0 < 24 → ((j0 + 1) ≤ A r → ((-1) ≤ lv j0 ∧ (lv j0 ≤ 24 ∧ (0 ≤ ab j0 → ((ab j0 + 1) ≤ A r ∧ (0 ≤ lv (ab j0) ∧ (lv (ab j0) + 1) ≤ lv j0))))))) (i0 : 0 ≤ i) (i1 : i < A r) (f0 : 0 ≤ f) (f1 : f < A r) (f3 : f < 24) (hi : lv i < 0) (hf : 0 ≤ lv f) (hf2 : lv f ≤ 23) (hs : st1 ab ab_zq p v) (hp : p = i) (hv : v = f) (ht : st1 lv lv' q w) (hq : q = i) (hu : u = lv f) (hw : w = u + 1) : ∀ j0 : Int, 0 ≤ j0 → j0 < 24 → ((j0 + 1) ≤ A r → ((-1) ≤ lv' j0 ∧ (lv' j0 ≤ 24 ∧ (0 ≤ ab_zq j0 → ((ab_zq j0 + 1) ≤ A r ∧ (0 ≤ lv' (ab_zq j0) ∧ (lv' (ab_zq j0) + 1) ≤ lv' j0)))))) := by
  rw [hp, hv] at hs
  rw [hq] at ht
  have fi : f ≠ i := fun e => by rw [e] at hf; omega
  have lf : lv' f = lv f := (ht f f0).2 fi
  intro j a b c
  have o := h j a b c
  by_cases e : j = i
  · subst e
    rw [(ht j a).1 rfl, (hs j a).1 rfl, lf]
    omega
  · rw [(ht j a).2 e, (hs j a).2 e]
    refine ⟨o.1, o.2.1, fun z => ?_⟩
    have y := o.2.2 z
    rw [(ht _ z).2 (fun e2 => by rw [e2] at y; omega)]
    exact y
end
section
-- the reference's grid: the order has every node; placed nodes lie near
def ORQ4 (n : Int) (left order : Int → Int) (k : Int) : Prop := (∀ z, 0 ≤ z → z < n → left z = 0 → ∃ j, k < j ∧ j < n ∧ order j = z) ∧ n - 1 - k ≤ cz left n ∧ ((0 ≤ order 0 ∧ order 0 < n) ∧ 0 ≤ order 1 ∧ order 1 < n) ∧ left (order 0) ≠ 0 ∧ left (order 1) ≠ 0 ∧ order 0 ≠ order 1
def ORR4 (n : Int) (left order : Int → Int) (k : Int) : Prop := ORQ4 n left order (k - 1)
def ORS (n : Int) (order : Int → Int) : Prop := ∀ z, 0 ≤ z → z < n → ∃ j, 0 ≤ j ∧ j < n ∧ order j = z
theorem orq4_start {n m upper k i : Int} {pt ph al rm rot left U order : Int → Int} (h : CNS n m upper pt ph al rm rot left U order k) (hl : LF1 left i) (hi : n ≤ i) : ORQ4 n left order k := by
  obtain ⟨hb, hk, ⟨nx, ρ, ω, _, _, _, h0, _⟩, hc, _⟩ := h
  have a := (h0.2.2.2.1 0 (by omega) (by have := h0.1; omega))
  have b := (h0.2.2.2.1 (upper - 1) (by have := h0.1; omega) (by omega))
  have d := h0.2.2.2.2.1 0 (upper - 1) (by omega) (by have := h0.1; omega) (by omega)
  rw [h0.2.1] at a d
  rw [h0.2.2.1] at b d
  refine ⟨fun z z0 z1 e => ?_, by omega, ⟨a.1, b.1⟩, a.2, b.2, d⟩
  exact absurd e (hl z z0 (by omega))
theorem orr4_of {n m upper k place p x s v q w : Int} {pt ph al rm rot left left_zq U order order_zq : Int → Int} (h : CPK n m upper pt ph al rm rot left U order k place p) (hp : upper ≤ p + 1) (hx : x = U place) (hq : ORQ4 n left order k) (hs : st1 order order_zq s v) (hss : s = k) (hv : v = x) (ht : st1 left left_zq q w) (hqq : q = x) (hw : w = 0) : ORR4 n left_zq order_zq k := by
  have pe := (cpk_end h hp).1
  obtain ⟨⟨hb, hk, ⟨nx, ρ, ω, _, _, _, h0, _⟩, hc, _⟩, _⟩ := h
  have hU := h0.2.2.2.1 place (by omega) (by omega)
  have d0 := h0.2.2.2.2.1 0 place (by omega) (by omega) (by omega)
  have d1 := h0.2.2.2.2.1 place (upper - 1) (by omega) (by omega) (by omega)
  rw [h0.2.1, ← hx] at d0
  rw [h0.2.2.1, ← hx] at d1
  rw [← hx] at hU
  have hx1 := hU.1
  obtain ⟨q1, q2, ⟨q3, q4⟩, q5, q6, q7⟩ := hq
  have o0 : order_zq 0 = order 0 := (hs 0 (by omega)).2 (by omega)
  have o1 : order_zq 1 = order 1 := (hs 1 (by omega)).2 (by omega)
  refine ⟨fun z z0 z1 e => ?_, ?_, ⟨by rw [o0]; exact q3, by rw [o1]; exact q4⟩, ?_, ?_, by rw [o0, o1]; exact q7⟩
  · by_cases c : z = x
    · exact ⟨k, by omega, by omega, by rw [(hs k (by omega)).1 (by omega), hv, c]⟩
    · rw [(ht z z0).2 (by omega)] at e
      obtain ⟨j, j0, j1, j2⟩ := q1 z z0 z1 e
      exact ⟨j, by omega, j1, by rw [(hs j (by omega)).2 (by omega)]; exact j2⟩
  · have := cz_lt (f := left) (g := left_zq) (i := x) n.toNat hU.1.1 (by omega) (fun j j0 j1 e => by
      by_cases c : j = x
      · rw [(ht j j0).1 (by omega)]; exact hw
      · rw [(ht j j0).2 (by omega)]; exact e) (by rw [(ht x hU.1.1).1 (by omega)]; exact hw) hU.2
    rw [← cz_is, ← cz_is] at this
    omega
  · rw [o0, (ht _ q3.1).2 (by omega)]; exact q5
  · rw [o1, (ht _ q4.1).2 (by omega)]; exact q6
theorem ors_of {n k : Int} {left order : Int → Int} (h : ORQ4 n left order k) (hk : k ≤ 1) (k0 : -1 ≤ k) : ORS n order := by
  obtain ⟨q1, q2, ⟨q3, q4⟩, q5, q6, q7⟩ := h
  intro z z0 z1
  by_cases e : left z = 0
  · obtain ⟨j, j0, j1, j2⟩ := q1 z z0 z1 e
    exact ⟨j, by omega, j1, j2⟩
  · by_cases a : z = order 0
    · exact ⟨0, by omega, by omega, a.symm⟩
    · by_cases b : z = order 1
      · refine ⟨1, by omega, ?_, b.symm⟩
        by_cases n2 : 1 < n
        · exact n2
        · exfalso
          have : order 0 = order 1 := by omega
          exact q7 this
      · exfalso
        have := cz_inj (f := left) (U := fun t => if t = 0 then order 0 else if t = 1 then order 1 else z) (n := n) (L := 3) (by omega) (by omega) (fun t t0 t1 => by
          have : t = 0 ∨ t = 1 ∨ t = 2 := by omega
          rcases this with rfl | rfl | rfl
          · exact ⟨q3, q5⟩
          · exact ⟨q4, q6⟩
          · exact ⟨⟨z0, z1⟩, e⟩) (fun s t s0 st t1 => by
          have : (s = 0 ∧ t = 1) ∨ (s = 0 ∧ t = 2) ∨ (s = 1 ∧ t = 2) := by omega
          rcases this with ⟨rfl, rfl⟩ | ⟨rfl, rfl⟩ | ⟨rfl, rfl⟩
          · exact q7
          · exact fun c => a c.symm
          · exact fun c => b c.symm)
        omega
-- shift
def sml (nx ny : Int → Int) (z s : Int) : Prop := (-s ≤ nx z + ny z ∧ nx z + ny z ≤ s) ∧ -s ≤ nx z - ny z ∧ nx z - ny z ≤ s
def SPK (nx ny order : Int → Int) (k s : Int) : Prop := ∀ j, 0 ≤ j → j < k → sml nx ny (order j) s
def UND (n : Int) (under order : Int → Int) (k : Int) : Prop := ∀ i z, 0 ≤ i → i < n → 0 ≤ z → z < n → bit (under i) z → z = i ∨ ∃ j, 0 ≤ j ∧ j < k ∧ order j = z
def ULX (U order : Int → Int) (k m : Int) : Prop := ∀ t, 0 ≤ t → t < m → ∃ j, 0 ≤ j ∧ j < k ∧ U t = order j
theorem sml_le {nx ny : Int → Int} {z s t : Int} (h : sml nx ny z s) (st : s ≤ t) : sml nx ny z t := by
  unfold sml at *; omega
theorem und_le {n k k_zq : Int} {under order : Int → Int} (h : UND n under order k) (hk : k ≤ k_zq) : UND n under order k_zq := fun i z a b c d e => by
  rcases h i z a b c d e with q | ⟨j, j0, j1, j2⟩
  · exact Or.inl q
  · exact Or.inr ⟨j, j0, by omega, j2⟩
theorem ulx_le {k k_zq m m_zq : Int} {U order : Int → Int} (h : ULX U order k m) (hk : k ≤ k_zq) (hm : m_zq ≤ m) : ULX U order k_zq m_zq := fun t a b => by
  obtain ⟨j, j0, j1, j2⟩ := h t a (by omega)
  exact ⟨j, j0, by omega, j2⟩
theorem ulx_st {k k_zq m m_zq s v : Int} {U U_zq order : Int → Int} (h : ULX U order k m) (hk : k ≤ k_zq) (hs : st1 U U_zq s v) (hm : m_zq ≤ m ∨ (m_zq = m + 1 ∧ s = m)) (hv : ∃ j, 0 ≤ j ∧ j < k_zq ∧ v = order j) : ULX U_zq order k_zq m_zq := fun t a b => by
  by_cases e : t = s
  · rw [(hs t a).1 e]; exact hv
  · rw [(hs t a).2 e]
    obtain ⟨j, j0, j1, j2⟩ := h t a (by omega)
    exact ⟨j, j0, by omega, j2⟩
def UN0 (n : Int) (under : Int → Int) (i : Int) : Prop := ∀ j z, 0 ≤ j → j < i → 0 ≤ z → z < 32 → bit (under j) z → z = j
theorem un0_step {n i i_zq s v one : Int} {under under_zq : Int → Int} (h : UN0 n under i) (hi : i_zq = i + 1) (i0 : 0 ≤ i) (hs : st1 under under_zq s v) (hss : s = i) (hv : bvp v = bvp one <<< i.toNat) (h1 : one = 1) : UN0 n under_zq i_zq := by
  intro j z a b c d e
  by_cases q : j = i
  · rw [(hs j a).1 (by omega)] at e
    rw [q]
    exact (bit_shl hv h1 i0 c d).1 e
  · rw [(hs j a).2 (by omega)] at e
    exact h j z a (by omega) c d e
theorem und_0 {n i k : Int} {under order : Int → Int} (h : UN0 n under i) (hi : n ≤ i) (hn : n ≤ 24) : UND n under order k := fun a z a0 a1 z0 z1 e => Or.inl (h a z a0 (by omega) z0 (by omega) e)
theorem und_or {n k x s v b c : Int} {under under_zq order : Int → Int} (h : UND n under order k) (hs : st1 under under_zq s v) (hx : s = x) (x0 : ∃ j, 0 ≤ j ∧ j < k ∧ order j = x) (xr : 0 ≤ x ∧ x < n) (hb : b = under x) (y : Int) (hc : c = under y) (y0 : 0 ≤ y ∧ y < n) (hy : ∃ j, 0 ≤ j ∧ j < k ∧ order j = y) (hv : bvp v = bvp b ||| bvp c) : UND n under_zq order k := by
  intro i z i0 i1 z0 z1 e
  by_cases q : i = s
  · rw [(hs i i0).1 q] at e
    rcases (bit_or hv z).1 e with w | w
    · rw [hb] at w
      rcases h x z xr.1 xr.2 z0 z1 w with u | u
      · left; omega
      · exact Or.inr u
    · rw [hc] at w
      rcases h y z y0.1 y0.2 z0 z1 w with u | u
      · right; rw [u]; exact hy
      · exact Or.inr u
  · rw [(hs i i0).2 q] at e
    exact h i z i0 i1 z0 z1 e
-- move
def MVA (n : Int) (nx ny order : Int → Int) (bits k q : Int) : Prop := SPK nx ny order k (64 * k + 2 * q) ∧ ∀ z, 0 ≤ z → z < n → bit bits z → ∃ j, 0 ≤ j ∧ j < k ∧ order j = z
def MVB (n : Int) (nx ny order : Int → Int) (k q : Int) : Prop := SPK nx ny order k (64 * k + 2 * q + 2)
def MVI (n : Int) (nx ny order : Int → Int) (bits k q i : Int) : Prop := (∀ j, 0 ≤ j → j < k → (order j < i → sml nx ny (order j) (64 * k + 2 * q + 2)) ∧ (i ≤ order j → sml nx ny (order j) (64 * k + 2 * q))) ∧ ∀ z, 0 ≤ z → z < n → bit bits z → ∃ j, 0 ≤ j ∧ j < k ∧ order j = z
theorem mvi_start {n bits k q i : Int} {nx ny order : Int → Int} (h : MVA n nx ny order bits k q) (hi : i = 0) : MVI n nx ny order bits k q i := ⟨fun j a b => ⟨fun _ => sml_le (h.1 j a b) (by omega), fun _ => h.1 j a b⟩, h.2⟩
theorem mvi_end {n bits k q i : Int} {nx ny order : Int → Int} (h : MVI n nx ny order bits k q i) (hi : n ≤ i) : MVB n nx ny order k q := by
  intro j a b
  by_cases c : order j < i
  · exact (h.1 j a b).1 c
  · exact sml_le ((h.1 j a b).2 (by omega)) (by omega)
theorem mvi_val {n bits k q i b u v d : Int} {nx ny order : Int → Int} (h : MVI n nx ny order bits k q i) (i0 : 0 ≤ i) (i1 : i < n) (b0 : 0 ≤ b) (b1 : b ≤ 1) (hb : b = 1 → bit bits i) (hv : v = b * d) (hu : u = nx i) : v = 0 ∨ (v = d ∧ sml nx ny i (64 * k + 2 * q)) := by
  by_cases c : b = 1
  · right
    obtain ⟨j, j0, j1, j2⟩ := h.2 i i0 i1 (hb c)
    refine ⟨by rw [hv, c]; omega, ?_⟩
    rw [← j2]
    exact (h.1 j j0 j1).2 (by omega)
  · left
    rw [hv, show b = 0 by omega]; omega
theorem mvi_step {n bits k q i i_zq b u v w d s : Int} {nx nx_zq ny order : Int → Int} (h : MVI n nx ny order bits k q i) (hi : i_zq = i + 1) (i0 : 0 ≤ i) (i1 : i < n) (b0 : 0 ≤ b) (b1 : b ≤ 1) (hb : b = 1 → bit bits i) (hv : v = b * d) (d0 : 0 ≤ d) (d2 : d ≤ 2) (hu : u = nx i) (hw : w = u + v) (hs : st1 nx nx_zq s w) (hss : s = i) (ho : ∀ j, 0 ≤ j → j < k → 0 ≤ order j) : MVI n nx_zq ny order bits k q i_zq := by
  have val := mvi_val h i0 i1 b0 b1 hb hv hu
  refine ⟨fun j a c => ?_, h.2⟩
  have oj := ho j a c
  by_cases e : order j = i
  · refine ⟨fun _ => ?_, fun f => by exfalso; omega⟩
    have g := (h.1 j a c).2 (by omega)
    unfold sml at *
    rw [(hs _ oj).1 (by omega), e]
    rw [e] at g
    omega
  · refine ⟨fun f => ?_, fun f => ?_⟩
    · have g := (h.1 j a c).1 (by omega)
      unfold sml at *
      rw [(hs _ oj).2 (by omega)]
      exact g
    · have g := (h.1 j a c).2 (by omega)
      unfold sml at *
      rw [(hs _ oj).2 (by omega)]
      exact g
def ORN4 (n : Int) (order : Int → Int) : Prop := ∀ j, 0 ≤ j → j < n → 0 ≤ order j ∧ order j < n
theorem td2 {e v : Int} (h : v = Int.tdiv e 2) : (2 * v ≤ e ∧ e ≤ 2 * v + 1) ∨ (e ≤ 2 * v ∧ 2 * v ≤ e + 1) := by
  rcases Int.le_total 0 e with q | q
  · left; rw [Int.tdiv_eq_ediv_of_nonneg q] at h; omega
  · right
    have z : Int.tdiv e 2 = -(Int.tdiv (-e) 2) := by rw [Int.neg_tdiv, Int.neg_neg]
    rw [z, Int.tdiv_eq_ediv_of_nonneg (show 0 ≤ -e by omega)] at h
    omega
theorem spk_put {k S x l r a b c d e f s1 v1 s2 v2 : Int} {nx ny nx_zq ny_zq order : Int → Int} (h : SPK nx ny order k S) (hl : ∃ j, 0 ≤ j ∧ j < k ∧ l = order j) (hr : ∃ j, 0 ≤ j ∧ j < k ∧ r = order j) (xl : x ≠ l) (xr : x ≠ r) (l0 : 0 ≤ l) (r0 : 0 ≤ r) (ho : ∀ j, 0 ≤ j → j < k + 1 → 0 ≤ order j) (hx : x = order k) (ha : a = nx l) (hb : b = nx r) (hc : c = ny r) (hd : d = ny l) (e1 : e = a + b + c - d) (f1 : f = b - a + c + d) (hs1 : st1 nx nx_zq s1 v1) (ss1 : s1 = x) (hv1 : v1 = Int.tdiv e 2) (hs2 : st1 ny ny_zq s2 v2) (ss2 : s2 = x) (hv2 : v2 = Int.tdiv f 2) {k_zq S_zq : Int} (hk : k_zq = k + 1) (hS : S + 1 ≤ S_zq) : SPK nx_zq ny_zq order k_zq S_zq := by
  obtain ⟨jl, jl0, jl1, el⟩ := hl
  obtain ⟨jr, jr0, jr1, er⟩ := hr
  have gl := h jl jl0 jl1
  have gr := h jr jr0 jr1
  rw [← el] at gl
  rw [← er] at gr
  unfold sml at gl gr
  rw [← ha, ← hd] at gl
  rw [← hb, ← hc] at gr
  have t1 := td2 hv1
  have t2 := td2 hv2
  intro j a0 b0
  have oj := ho j a0 (by omega)
  by_cases q : order j = x
  · unfold sml
    rw [(hs1 _ oj).1 (by omega), (hs2 _ oj).1 (by omega)]
    omega
  · have jk : j < k := by
      by_cases w : j = k
      · rw [w] at q; exact absurd hx.symm q
      · omega
    have g := h j a0 jk
    unfold sml at *
    rw [(hs1 _ oj).2 (by omega), (hs2 _ oj).2 (by omega)]
    omega

def SPKs (nx ny order : Int → Int) (k : Int) : Prop := SPK nx ny order k (64 * k)
def SPKm (nx ny order : Int → Int) (k q : Int) : Prop := SPK nx ny order k (64 * k + 2 * q)
def SPKn (nx ny order : Int → Int) (k : Int) : Prop := SPK nx ny order (k + 1) (64 * (k + 1))
def UNDn (n : Int) (under order : Int → Int) (k : Int) : Prop := UND n under order (k + 1)
def ULU (upper : Int) (U order : Int → Int) (k : Int) : Prop := ULX U order k upper
def ULV (upper : Int) (U order : Int → Int) (k q : Int) : Prop := ULX U order k upper ∧ (q < upper → ∃ j, 0 ≤ j ∧ j < k ∧ U upper = order j)
def SP3 (nx ny order : Int → Int) : Prop := SPK nx ny order 3 192
def NYF (n : Int) (ny : Int → Int) : Prop := NBD ny n (-2000) 2000
def NYG (n : Int) (ny : Int → Int) (i : Int) : Prop := NBD ny n (-2000) 4000 ∧ ∀ j, i ≤ j → 0 ≤ j → j < n → ny j ≤ 2000
theorem nyg_step {n i i_zq s v : Int} {ny ny_zq : Int → Int} (h : NYG n ny i) (hi : i_zq = i + 1) (hs : st1 ny ny_zq s v) (hss : s = i) (v0 : -2000 ≤ v) (v1 : v ≤ 4000) : NYG n ny_zq i_zq := by
  refine ⟨nbd_st h.1 hs (by omega) (by omega) (by omega) v0 v1, ?_⟩
  intro j a b c
  rw [(hs j b).2 (by omega)]
  exact h.2 j (by omega) b c
theorem nyf_of {n k : Int} {nx ny order : Int → Int} (h : SPKs nx ny order k) (hk : n ≤ k) (k1 : k ≤ 30) (ho : ORS n order) : NYF n ny := by
  intro i a b
  obtain ⟨j, j0, j1, j2⟩ := ho i a b
  have g := h j j0 (by omega)
  unfold sml at g
  rw [j2] at g
  omega
theorem sp3_of {u v w s1 s2 s3 t1 t2 t3 v1 v2 v3 w1 w2 w3 : Int} {x0 x1 x2 x3 y0 y1 y2 y3 order : Int → Int} (hu : u = order 0) (hv : v = order 1) (hw : w = order 2) (p : 0 ≤ u ∧ 0 ≤ v ∧ 0 ≤ w) (a1 : st1 x0 x1 s1 v1) (a2 : st1 x1 x2 s2 v2) (a3 : st1 x2 x3 s3 v3) (b1 : st1 y0 y1 t1 w1) (b2 : st1 y1 y2 t2 w2) (b3 : st1 y2 y3 t3 w3) (e1 : s1 = u) (e2 : s2 = v) (e3 : s3 = w) (f1 : t1 = u) (f2 : t2 = v) (f3 : t3 = w) (g : 0 ≤ v1 ∧ v1 ≤ 2 ∧ 0 ≤ v2 ∧ v2 ≤ 2 ∧ 0 ≤ v3 ∧ v3 ≤ 2) (g2 : 0 ≤ w1 ∧ w1 ≤ 2 ∧ 0 ≤ w2 ∧ w2 ≤ 2 ∧ 0 ≤ w3 ∧ w3 ≤ 2) : SP3 x3 y3 order := by
  have X : ∀ z, 0 ≤ z → (z = u ∨ z = v ∨ z = w) → 0 ≤ x3 z ∧ x3 z ≤ 2 := by
    intro z z0 c
    by_cases q3 : z = w
    · rw [(a3 z z0).1 (by omega)]; omega
    · rw [(a3 z z0).2 (by omega)]
      by_cases q2 : z = v
      · rw [(a2 z z0).1 (by omega)]; omega
      · rw [(a2 z z0).2 (by omega), (a1 z z0).1 (by omega)]; omega
  have Y : ∀ z, 0 ≤ z → (z = u ∨ z = v ∨ z = w) → 0 ≤ y3 z ∧ y3 z ≤ 2 := by
    intro z z0 c
    by_cases q3 : z = w
    · rw [(b3 z z0).1 (by omega)]; omega
    · rw [(b3 z z0).2 (by omega)]
      by_cases q2 : z = v
      · rw [(b2 z z0).1 (by omega)]; omega
      · rw [(b2 z z0).2 (by omega), (b1 z z0).1 (by omega)]; omega
  intro j j0 j1
  have : j = 0 ∨ j = 1 ∨ j = 2 := by omega
  unfold sml
  rcases this with rfl | rfl | rfl
  · have := X (order 0) (by omega) (by omega); have := Y (order 0) (by omega) (by omega); omega
  · have := X (order 1) (by omega) (by omega); have := Y (order 1) (by omega) (by omega); omega
  · have := X (order 2) (by omega) (by omega); have := Y (order 2) (by omega) (by omega); omega
theorem orn_of {n m : Int} {pt ph al order : Int → Int} (h : CNH n m pt ph al order) : ORN4 n order := fun j a b => (cnh_rng h a b).1

theorem spks_next {k k_zq : Int} {nx ny order : Int → Int} (h : SPKn nx ny order k) (hk : k_zq = k + 1) : SPKs nx ny order k_zq := by subst hk; exact h
theorem und_next {n k k_zq : Int} {under order : Int → Int} (h : UNDn n under order k) (hk : k_zq = k + 1) : UND n under order k_zq := by subst hk; exact h
theorem spks_3 {k : Int} {nx ny order : Int → Int} (h : SP3 nx ny order) (hk : k = 3) : SPKs nx ny order k := by subst hk; exact h
theorem spkm_of {k q : Int} {nx ny order : Int → Int} (h : SPKs nx ny order k) (hq : 0 ≤ q) : SPKm nx ny order k q := fun j a b => sml_le (h j a b) (by omega)
theorem spkm_next {n k q k2 q2 q_zq : Int} {nx ny order : Int → Int} (h : MVB n nx ny order k2 q2) (hk : k2 = k) (hq : q2 = q) (hq_zq : q_zq = q + 1) : SPKm nx ny order k q_zq := by
  subst hk; subst hq; exact fun j a b => sml_le (h j a b) (by omega)
theorem ulu_3 {upper k s1 s2 s3 u v w : Int} {U0 U1 U2 U3 order : Int → Int} (hu : upper ≤ 3) (hk : k = 3) (a1 : st1 U0 U1 s1 u) (a2 : st1 U1 U2 s2 w) (a3 : st1 U2 U3 s3 v) (e1 : s1 = 0) (e2 : s2 = 1) (e3 : s3 = 2) (ou : u = order 0) (ov : v = order 1) (ow : w = order 2) : ULU upper U3 order k := by
  intro t a b
  have : t = 0 ∨ t = 1 ∨ t = 2 := by omega
  rcases this with rfl | rfl | rfl
  · exact ⟨0, by omega, by omega, by rw [(a3 0 (by omega)).2 (by omega), (a2 0 (by omega)).2 (by omega), (a1 0 (by omega)).1 (by omega)]; exact ou⟩
  · exact ⟨2, by omega, by omega, by rw [(a3 1 (by omega)).2 (by omega), (a2 1 (by omega)).1 (by omega)]; exact ow⟩
  · exact ⟨1, by omega, by omega, by rw [(a3 2 (by omega)).1 (by omega)]; exact ov⟩
theorem ulu_end1 {upper upper_zq k k_zq q s v : Int} {U U_zq order : Int → Int} (h : ULV upper U order k q) (hq : q < upper) (hs : st1 U U_zq s v) (hx : v = order k) (k0 : 0 ≤ k) (hu : upper_zq ≤ upper + 1) (hk : k_zq = k + 1) : ULU upper_zq U_zq order k_zq := by
  refine ulx_st (m := upper + 1) (k := k) ?_ (by omega) hs (Or.inl hu) ⟨k, k0, by omega, hx⟩
  intro t a b
  by_cases e : t = upper
  · rw [e]; exact h.2 hq
  · exact h.1 t a (by omega)
theorem ulu_end2 {upper upper_zq k k_zq s v : Int} {U U_zq order : Int → Int} (h : ULU upper U order k) (hs : st1 U U_zq s v) (hx : v = order k) (k0 : 0 ≤ k) (hu : upper_zq ≤ upper) (hk : k_zq = k + 1) : ULU upper_zq U_zq order k_zq := ulx_st h (by omega) hs (Or.inl hu) ⟨k, k0, by omega, hx⟩
theorem ulv_start {upper k q : Int} {U order : Int → Int} (h : ULU upper U order k) (hq : upper ≤ q) : ULV upper U order k q := ⟨h, fun e => by exfalso; omega⟩
theorem ulv_step {upper k q q_zq s v r : Int} {U U_zq order : Int → Int} (h : ULV upper U order k q) (hq : q_zq = q - 1) (q1 : q ≤ upper) (q0 : 1 ≤ q) (hs : st1 U U_zq s v) (hss : s = q) (hr : r = q - 1) (hv : v = U r) : ULV upper U_zq order k q_zq := by
  have pl : ∃ j, 0 ≤ j ∧ j < k ∧ v = order j := by rw [hv, hr]; exact h.1 (q - 1) (by omega) (by omega)
  refine ⟨ulx_st h.1 (by omega) hs (Or.inl (by omega)) pl, fun _ => ?_⟩
  by_cases e : upper = q
  · rw [(hs upper (by omega)).1 (by omega)]; exact pl
  · rw [(hs upper (by omega)).2 (by omega)]; exact h.2 (by omega)
theorem ulu_mv {upper k s v r : Int} {U U_zq order : Int → Int} (h : ULU upper U order k) (hs : st1 U U_zq s v) (r0 : 0 ≤ r) (r1 : r < upper) (hv : v = U r) : ULU upper U_zq order k := ulx_st h (by omega) hs (Or.inl (by omega)) (by rw [hv]; exact h r r0 r1)
theorem mva_of {n upper k q k2 q2 y bits : Int} {nx ny order under U : Int → Int} (h1 : SPKm nx ny order k q) (h2 : UND n under order k) (h3 : ULU upper U order k) (q0 : 0 ≤ q) (q1 : q < upper) (hy : y = U q) (ho : ORN4 n order) (kn : k ≤ n) (hb : bits = under y) (hk : k2 = k) (hq : q2 = q) : MVA n nx ny order bits k2 q2 := by
  subst hk; subst hq
  have yr : 0 ≤ y ∧ y < n := by
    obtain ⟨j, j0, j1, j2⟩ := h3 q2 q0 q1
    rw [hy, j2]; exact ho j j0 (by omega)
  have y0 := yr.1
  have y1 := yr.2
  refine ⟨h1, fun z z0 z1 e => ?_⟩
  rw [hb] at e
  rcases h2 y z y0 y1 z0 z1 e with w | w
  · obtain ⟨j, j0, j1, j2⟩ := h3 q2 q0 q1
    exact ⟨j, j0, j1, by rw [← j2, ← hy]; exact w.symm⟩
  · exact w
theorem put_bd {S l r a b c d e v k : Int} {nx ny order : Int → Int} (h : SPK nx ny order k S) (hl : ∃ j, 0 ≤ j ∧ j < k ∧ l = order j) (hr : ∃ j, 0 ≤ j ∧ j < k ∧ r = order j) (hS : S ≤ 1990) (ha : a = nx l) (hb : b = nx r) (hc : c = ny r) (hd : d = ny l) (e1 : e = a + b + c - d ∨ e = b - a + c + d) (hv : v = Int.tdiv e 2) : -2000 ≤ v ∧ v ≤ 2000 := by
  obtain ⟨jl, jl0, jl1, el⟩ := hl
  obtain ⟨jr, jr0, jr1, er⟩ := hr
  have gl := h jl jl0 jl1
  have gr := h jr jr0 jr1
  rw [← el] at gl
  rw [← er] at gr
  unfold sml at gl gr
  rw [← ha, ← hd] at gl
  rw [← hb, ← hc] at gr
  have t1 := td2 hv
  omega
theorem jA_ne4 {n m x y : Int} {pt ph al : Int → Int} (g : GOK n m pt ph) (h : jA m pt ph al x y) : x ≠ y := by
  obtain ⟨e, h⟩ := h
  unfold JJ at h
  have := g.1 e h.1 h.2.1
  omega
theorem shc_ne {n m upper k x a b : Int} {pt ph al U order : Int → Int} (h : SHC n m upper pt ph al U order k x a b) (g : GOK n m pt ph) : x ≠ U a ∧ x ≠ U b := ⟨fun e => jA_ne4 g (h.1.2.2.1) e, fun e => jA_ne4 g h.2.2 e⟩

theorem grid_b4 {w h : Int} (hw : 1 ≤ w) (hh : 1 ≤ h) (hp : w * h ≤ 6000) : w ≤ 6000 ∧ h ≤ 6000 := by
  have h1 := Int.mul_le_mul_of_nonneg_left hh (show 0 ≤ w from by omega)
  have h2 := Int.mul_le_mul_of_nonneg_right hw (show 0 ≤ h from by omega)
  rw [Int.mul_one] at h1
  rw [Int.one_mul] at h2
  omega
theorem sg_end4 {A : Int → Int} {r e a b p q : Int} (h : SGR r A) (e0 : 0 ≤ e) (e1 : e < A (r + 1)) (hp : p = r + 267 + e) (hq : q = r + 315 + e) (ha : a = A p) (hb : b = A q) : (0 ≤ a ∧ a < A r) ∧ 0 ≤ b ∧ b < A r := by
  subst hp; subst hq; subst ha; subst hb
  have := h.2.1 e e0 e1
  simp only [] at this
  omega
theorem rtw_cell2 {r l t g w h e v x y d p s c : Int} {A X Y : Int → Int} (hR : RTW r l t g w h A X Y) (v0 : 0 ≤ v) (v1 : v < A r) (hx : x = X (24 * g + v)) (hy : y = Y (24 * g + v)) (hd : d = y - t) (he : e = w) (hp : p = d * e) (hs : s = p + x) (hc : c = s - l) : 0 ≤ c ∧ c + 1 ≤ w * h := by
  have h1 := hR.2 v v0 v1
  rw [← hx, ← hy] at h1
  have := grid_cell (l := l) (t := t) (w := w) (h := h) (a := l + w - 1) (b := t + h - 1) (x := x) (y := y) (c := (y - t) * w + x - l) (by omega) (by omega) h1.1.1 h1.1.2 h1.2.1 h1.2.2 rfl
  rw [hd, he] at hp
  omega
end
section
-- the class's router: all nodes lie in the frame
def FRB (l t : Int) (len x y : Int → Int) (a b k : Int) : Prop := ∀ i, 0 ≤ i → i < k → (l + len i + 3 ≤ x i ∧ x i + len i + 3 ≤ a) ∧ t + 3 ≤ y i ∧ y i + 3 ≤ b
def FRM (l t w h n : Int) (len x y : Int → Int) : Prop := (1 ≤ w ∧ 1 ≤ h ∧ w * h ≤ 6000) ∧ 1 ≤ n ∧ ∀ i, 0 ≤ i → i < n → (l + len i + 3 ≤ x i ∧ x i + len i + 3 ≤ l + w - 1) ∧ t + 3 ≤ y i ∧ y i + 3 ≤ t + h - 1
def FRA (l t w h n : Int) (len x y : Int → Int) (z : Int) : Prop := z ≠ 0 → FRM l t w h n len x y
def PTO (l t w : Int) (x y : Int → Int) (i z : Int) : Prop := z = (y i - t) * w + x i - l
def BRK (m f : Int) : Prop := 0 ≤ m - f ∧ m + f ≤ 5999
theorem frb_step {l t l_zq t_zq a b a_zq b_zq k k_zq p q h : Int} {len x y : Int → Int} (H : FRB l t len x y a b k) (hk : k_zq = k + 1) (hp : p = x k) (hq : q = y k) (hh : h = len k + 1) (l1 : l_zq ≤ l) (l2 : l_zq ≤ p - h - 2) (t1 : t_zq ≤ t) (t2 : t_zq ≤ q - 3) (a1 : a ≤ a_zq) (a2 : p + h + 2 ≤ a_zq) (b1 : b ≤ b_zq) (b2 : q + 3 ≤ b_zq) : FRB l_zq t_zq len x y a_zq b_zq k_zq := by
  intro v v0 v1
  by_cases e : v = k
  · rw [e, ← hp, ← hq]; omega
  · have := H v v0 (by omega); omega
theorem frm_of {l t w h n a b k p u v : Int} {len x y : Int → Int} (H : FRB l t len x y a b k) (hk : n ≤ k) (n1 : 1 ≤ n) (ll : ∀ i, 0 ≤ i → i < n → 0 ≤ len i) (hw : w = a - l + 1) (hh : h = b - t + 1) (hu : u = w) (hv : v = h) (hp : p = u * v) (h6 : p ≤ 6000) : FRM l t w h n len x y := by
  have h0 := H 0 (by omega) (by omega)
  have l0 := ll 0 (by omega) (by omega)
  refine ⟨⟨by omega, by omega, by rw [← hu, ← hv, ← hp]; exact h6⟩, n1, fun i i0 i1 => ?_⟩
  have := H i i0 (by omega)
  omega
theorem frm_cell {l t w h n i f m d s : Int} {len x y : Int → Int} (H : FRM l t w h n len x y) (i0 : 0 ≤ i) (i1 : i < n) (ll : 0 ≤ len i) (d0 : -1 ≤ d) (d1 : d ≤ 1) (s0 : -(len i + 1) ≤ s) (s1 : s ≤ len i + 1) (hm : m = (y i - t) * w + x i - l + d * w + s) : 0 ≤ m ∧ m + 1 ≤ w * h := by
  obtain ⟨⟨w1, h1, wh⟩, n1, H⟩ := H
  have c := H i i0 i1
  have e1 : m = (y i - t + d) * w + (x i - l + s) := by rw [hm, Int.add_mul]; omega
  have r0 : 0 ≤ y i - t + d := by omega
  have r1 : y i - t + d ≤ h - 1 := by omega
  have p0 : 0 ≤ (y i - t + d) * w := Int.mul_nonneg r0 (by omega)
  have p1 : (y i - t + d) * w ≤ (h - 1) * w := Int.mul_le_mul_of_nonneg_right r1 (by omega)
  have e2 : (h - 1) * w = w * h - w := by rw [Int.sub_mul, Int.one_mul, Int.mul_comm]
  omega
theorem frm_pt {l t w h n i z : Int} {len x y : Int → Int} (H : FRM l t w h n len x y) (i0 : 0 ≤ i) (i1 : i < n) (ll : 0 ≤ len i) (hz : PTO l t w x y i z) : 0 ≤ z ∧ z + 1 ≤ w * h := by
  unfold PTO at hz
  exact frm_cell (d := 0) (s := 0) (f := 0) H i0 i1 ll (by omega) (by omega) (by omega) (by omega) (by rw [hz]; omega)
theorem frm_bar {l t w h n i z m d e p f : Int} {len x y : Int → Int} (H : FRM l t w h n len x y) (i0 : 0 ≤ i) (i1 : i < n) (ll : 0 ≤ len i) (hz : PTO l t w x y i z) (d0 : -1 ≤ d) (d1 : d ≤ 1) (he : e = w) (hp : p = d * e) (hm : m = z + p) (hf : f = len i + 1) : BRK m f := by
  unfold PTO at hz
  have a := frm_cell (m := m - f) (d := d) (s := -f) (f := 0) H i0 i1 ll d0 d1 (by omega) (by omega) (by rw [hm, hz, hp, he]; omega)
  have b := frm_cell (m := m + f) (d := d) (s := f) (f := 0) H i0 i1 ll d0 d1 (by omega) (by omega) (by rw [hm, hz, hp, he])
  have := H.1
  exact ⟨a.1, by omega⟩
theorem frm_wh {l t w h n : Int} {len x y : Int → Int} (H : FRM l t w h n len x y) : (1 ≤ w ∧ w ≤ 6000) ∧ 1 ≤ h ∧ h ≤ 6000 := by
  have := grid_b4 H.1.1 H.1.2.1 H.1.2.2
  have := H.1
  omega
theorem pto_of {l t w i z p d e a b s : Int} {x y : Int → Int} (he : e = w) (hd : d = a - t) (ha : a = y i) (hp : p = d * e) (hb : b = x i) (hs : s = p + b) (hz : z = s - l) : PTO l t w x y i z := by
  unfold PTO
  rw [hz, hs, hp, hd, he, ha, hb]
end
section
-- the class's areas: boxes in 0 .. 512
def BXA (A : Int → Int) : Prop := ∀ q, 0 ≤ q → q < 8 → HUL (A (4 * (24 + q))) (A (4 * (24 + q) + 2)) ∧ HUL (A (4 * (24 + q) + 1)) (A (4 * (24 + q) + 3))
def SPC (S : Int → Int) : Prop := HUL (S 0) (S 2) ∧ HUL (S 1) (S 3)
def BXC (d s : Int → Int) (sp dp n : Int) : Prop := BXA s ∧ dp = 0 ∧ n = 4 ∧ ∃ q, 0 ≤ q ∧ q < 8 ∧ sp = 4 * (24 + q)
def BXD (d s : Int → Int) (sp dp n : Int) : Prop := SPC d ∧ BXA s
theorem bxc_le {Dd S : Int → Int} {sp dp n : Int} (_ : 0 ≤ sp) (_ : 0 ≤ dp) (_ : 0 ≤ n) (h : BXC Dd S sp dp n) : ∀ j, 0 ≤ j → j < n → -512 ≤ S (sp + j) ∧ S (sp + j) ≤ 512 := by
  obtain ⟨ha, _, hn, q, q0, q1, hs⟩ := h
  intro j j0 j1
  have g := ha q q0 q1
  obtain ⟨⟨⟨a, b⟩, c, d⟩, ⟨e, f⟩, u, v⟩ := g
  have : j = 0 ∨ j = 1 ∨ j = 2 ∨ j = 3 := by omega
  rw [hs]
  rcases this with rfl | rfl | rfl | rfl
  · rw [Int.add_zero]; omega
  · omega
  · omega
  · omega
theorem bxc_bxd {Dd S D_zq S_zq : Int → Int} {sp dp n : Int} (_ : 0 ≤ sp) (_ : 0 ≤ dp) (_ : 0 ≤ n) (h1 : ∀ j, 0 ≤ j → D_zq j = if dp ≤ j ∧ j < dp + n then S (sp + (j - dp)) else Dd j) (h2 : (∀ j, S_zq j = S j) ∨ ((∀ j, S_zq j = D_zq j) ∧ ∀ j, S j = Dd j)) (h : BXC Dd S sp dp n) : BXD D_zq S_zq sp dp n := by
  obtain ⟨ha, hd, hn, q, q0, q1, hs⟩ := h
  have g := ha q q0 q1
  have d0 := h1 0 (by omega)
  have d1 := h1 1 (by omega)
  have d2 := h1 2 (by omega)
  have d3 := h1 3 (by omega)
  rw [if_pos (by omega), hs, hd] at d0 d1 d2 d3
  have r0 : D_zq 0 = S (4 * (24 + q)) := by rw [d0]; congr 1; omega
  have r1 : D_zq 1 = S (4 * (24 + q) + 1) := by rw [d1]; congr 1
  have r2 : D_zq 2 = S (4 * (24 + q) + 2) := by rw [d2]; congr 1
  have r3 : D_zq 3 = S (4 * (24 + q) + 3) := by rw [d3]; congr 1
  refine ⟨?_, ?_⟩
  · unfold SPC; rw [r0, r1, r2, r3]; exact g
  · rcases h2 with e | ⟨e, f⟩
    · intro p p0 p1
      rw [e, e, e, e]; exact ha p p0 p1
    · intro p p0 p1
      have z : ∀ j : Int, 96 ≤ j → S_zq j = S j := fun j hj => by
        rw [e, h1 j (by omega), if_neg (by omega), f]
      rw [z _ (by omega), z _ (by omega), z _ (by omega), z _ (by omega)]
      exact ha p p0 p1
theorem bxa_0 {A : Int → Int} (h : ∀ j, 0 ≤ j → j < 128 → A j = 0) : BXA A := by
  intro q a b
  rw [h _ (by omega) (by omega), h _ (by omega) (by omega), h _ (by omega) (by omega), h _ (by omega) (by omega)]
  exact ⟨⟨⟨by omega, by omega⟩, by omega, by omega⟩, ⟨by omega, by omega⟩, by omega, by omega⟩
theorem bxa_set {A0 A1 A2 A3 A4 : Int → Int} {i p0 p1 p2 p3 x y w h : Int} (hb : BXA A0) (i0 : 0 ≤ i) (hx : HUL x w) (hy : HUL y h) (s0 : st1 A0 A1 p0 x) (s1 : st1 A1 A2 p1 y) (s2 : st1 A2 A3 p2 w) (s3 : st1 A3 A4 p3 h) (e0 : p0 = 4 * i) (e1 : p1 = 4 * i + 1) (e2 : p2 = 4 * i + 2) (e3 : p3 = 4 * i + 3) : BXA A4 := by
  intro q a b
  by_cases c : 24 + q = i
  · subst c
    rw [(s3 (4 * (24 + q)) (by omega)).2 (by omega), (s2 (4 * (24 + q)) (by omega)).2 (by omega), (s1 (4 * (24 + q)) (by omega)).2 (by omega), (s0 (4 * (24 + q)) (by omega)).1 (by omega)]
    rw [(s3 (4 * (24 + q) + 1) (by omega)).2 (by omega), (s2 (4 * (24 + q) + 1) (by omega)).2 (by omega), (s1 (4 * (24 + q) + 1) (by omega)).1 (by omega)]
    rw [(s3 (4 * (24 + q) + 2) (by omega)).2 (by omega), (s2 (4 * (24 + q) + 2) (by omega)).1 (by omega), (s3 (4 * (24 + q) + 3) (by omega)).1 (by omega)]
    exact ⟨hx, hy⟩
  · have r : ∀ d : Int, 0 ≤ d → d < 4 → A4 (4 * (24 + q) + d) = A0 (4 * (24 + q) + d) := fun d d0 d1 => by
      rw [(s3 _ (by omega)).2 (by omega), (s2 _ (by omega)).2 (by omega), (s1 _ (by omega)).2 (by omega), (s0 _ (by omega)).2 (by omega)]
    have r0 := r 0 (by omega) (by omega)
    rw [Int.add_zero] at r0
    rw [r0, r 1 (by omega) (by omega), r 2 (by omega) (by omega), r 3 (by omega) (by omega)]
    exact hb q a b
-- sums of sizes that are not below 0
theorem pxs_up {f : Int → Int} {a b : Int} (h : ∀ j, a ≤ j → j < b → 0 ≤ f j) (a0 : 0 ≤ a) (ab : a ≤ b) : pxs f a ≤ pxs f b := by
  have key : ∀ b : Int, (∀ j, a ≤ j → j < b → 0 ≤ f j) → a ≤ b → pxs f a ≤ pxs f b := by
    intro b
    refine pxs_ind (P := fun b => (∀ j, a ≤ j → j < b → 0 ≤ f j) → a ≤ b → pxs f a ≤ pxs f b) ?_ ?_ b
    · intro n hn _ hab; rw [show a = n by omega]; omega
    · intro n hn ih h1 hab
      by_cases e : a = n + 1
      · rw [e]; omega
      · rw [pxs_S hn]
        have := ih (fun j p q => h1 j p (by omega)) (by omega)
        have := h1 n (by omega) (by omega)
        omega
  exact key b h ab
theorem pxs_2400 {f : Int → Int} {b : Int} (h : ∀ j, 0 ≤ j → j < b → 0 ≤ f j ∧ f j ≤ 2400) (b0 : 0 ≤ b) : pxs f b ≤ 2400 * b := by
  have key : ∀ b : Int, (∀ j, 0 ≤ j → j < b → 0 ≤ f j ∧ f j ≤ 2400) → 0 ≤ b → pxs f b ≤ 2400 * b := by
    intro b
    refine pxs_ind (P := fun b => (∀ j, 0 ≤ j → j < b → 0 ≤ f j ∧ f j ≤ 2400) → 0 ≤ b → pxs f b ≤ 2400 * b) ?_ ?_ b
    · intro n hn _ hab; rw [pxs_0 hn]; omega
    · intro n hn ih h1 hab
      rw [pxs_S hn]
      have := ih (fun j p q => h1 j p (by omega)) hn
      have := h1 n hn (by omega)
      omega
  exact key b h b0
def SZB (f : Int → Int) : Prop := ∀ j, 0 ≤ j → j < 32 → 0 ≤ f j ∧ f j ≤ 2400
def RWS6 (is : Int → Int) (a b s t : Int) : Prop := (0 ≤ a ∧ a ≤ b ∧ b ≤ 32) ∧ s = pxs is b - pxs is a ∧ 0 ≤ s ∧ s ≤ t ∧ t ≤ 76800
def RWK (is : Int → Int) (a b s k p : Int) : Prop := (0 ≤ a ∧ a ≤ b ∧ b ≤ 32) ∧ s = pxs is b - pxs is a ∧ s ≤ 76800 ∧ (a ≤ k ∧ k ≤ b) ∧ p = pxs is k - pxs is a
def RWA (S : Int → Int) (t a c : Int) : Prop := (t ≠ 0 ∧ a = S 2 ∧ BTW c (S 3)) ∨ (t = 0 ∧ a = S 3 ∧ BTW c (S 2))
def RT16 (m : Int) (is : Int → Int) (k t : Int) : Prop := (0 ≤ k ∧ k ≤ m ∧ m ≤ 32) ∧ t = pxs is k
def RT26 (m : Int) (is : Int → Int) (a t : Int) : Prop := (0 ≤ a ∧ a ≤ m ∧ m ≤ 32) ∧ t = pxs is m - pxs is a
def RT36 (m : Int) (is : Int → Int) (a b k s t : Int) : Prop := (0 ≤ a ∧ a ≤ k ∧ k ≤ b ∧ b ≤ m ∧ m ≤ 32) ∧ s = pxs is k - pxs is a ∧ t = pxs is m - pxs is a
theorem rt1_bd {m k t : Int} {is : Int → Int} (h : RT16 m is k t) (z : SZB is) : 0 ≤ t ∧ t ≤ 76800 := by
  obtain ⟨a, e⟩ := h
  have p := pxs_up (f := is) (a := 0) (b := k) (fun j u v => (z j u (by omega)).1) (by omega) (by omega)
  have q := pxs_2400 (f := is) (b := k) (fun j u v => z j u (by omega)) (by omega)
  rw [pxs_0 (n := 0) (by omega)] at p
  omega
theorem rt1_step {m k t k_zq t_zq v : Int} {is : Int → Int} (h : RT16 m is k t) (km : k < m) (hv : v = is k) (hk : k_zq = k + 1) (ht : t_zq = t + v) : RT16 m is k_zq t_zq := by
  refine ⟨by have := h.1; omega, ?_⟩
  rw [hk, pxs_S h.1.1, ht, h.2, hv]
theorem rt2_start {m k t a : Int} {is : Int → Int} (h : RT16 m is k t) (km : m ≤ k) (ha : a = 0) : RT26 m is a t := by
  refine ⟨by have := h.1; omega, ?_⟩
  rw [h.2, show k = m by have := h.1; omega, ha, pxs_0 (n := 0) (by omega)]; omega
theorem rt3_start {m a t b k s : Int} {is : Int → Int} (h : RT26 m is a t) (hb : a ≤ b) (bm : b ≤ m) (hk : k = a) (hs : s = 0) : RT36 m is a b k s t := by
  refine ⟨by have := h.1; omega, ?_, h.2⟩
  rw [hk, hs]; omega
theorem rt3_step {m a t b k s k_zq s_zq v : Int} {is : Int → Int} (h : RT36 m is a b k s t) (kb : k < b) (hv : v = is k) (hk : k_zq = k + 1) (hs : s_zq = s + v) : RT36 m is a b k_zq s_zq t := by
  refine ⟨by have := h.1; omega, ?_, h.2.2⟩
  rw [hk, pxs_S (by have := h.1; omega), hs, h.2.1, hv]; omega
theorem rt3_bd {m a t b k s : Int} {is : Int → Int} (h : RT36 m is a b k s t) (z : SZB is) : (0 ≤ s ∧ s ≤ t) ∧ t ≤ 76800 := by
  obtain ⟨q, hs, ht⟩ := h
  have p1 := pxs_up (f := is) (a := a) (b := k) (fun j u v => (z j (by omega) (by omega)).1) (by omega) (by omega)
  have p2 := pxs_up (f := is) (a := k) (b := m) (fun j u v => (z j (by omega) (by omega)).1) (by omega) (by omega)
  have p3 := pxs_up (f := is) (a := 0) (b := a) (fun j u v => (z j (by omega) (by omega)).1) (by omega) (by omega)
  have p4 := pxs_2400 (f := is) (b := m) (fun j u v => z j u (by omega)) (by omega)
  rw [pxs_0 (n := 0) (by omega)] at p3
  omega
theorem rt3_rws {m a t b k s : Int} {is : Int → Int} (h : RT36 m is a b k s t) (kb : b ≤ k) (z : SZB is) : RWS6 is a b s t := by
  have g := rt3_bd h z
  obtain ⟨q, hs, ht⟩ := h
  refine ⟨by omega, ?_, g.1.1, g.1.2, g.2⟩
  rw [hs, show k = b by omega]
theorem rt2_next {m a t b k s a_zq t_zq : Int} {is : Int → Int} (h : RT36 m is a b k s t) (kb : b ≤ k) (ha : a_zq = b) (ht : t_zq = t - s) : RT26 m is a_zq t_zq := by
  obtain ⟨q, hs, e⟩ := h
  refine ⟨by omega, ?_⟩
  rw [ht, hs, e, ha, show k = b by omega]; omega
theorem rwk_start {a b s t k p : Int} {is : Int → Int} (h : RWS6 is a b s t) (hk : k = a) (hp : p = 0) : RWK is a b s k p := by
  obtain ⟨q, hs, s0, s1, t1⟩ := h
  refine ⟨q, hs, by omega, by omega, ?_⟩
  rw [hk, hp]; omega
theorem rwk_step {a b s k p k_zq p_zq v : Int} {is : Int → Int} (h : RWK is a b s k p) (kb : k < b) (hv : v = is k) (hk : k_zq = k + 1) (hp : p_zq = p + v) : RWK is a b s k_zq p_zq := by
  obtain ⟨q, hs, s1, r, e⟩ := h
  refine ⟨q, hs, s1, by omega, ?_⟩
  rw [hk, pxs_S (by omega), hp, e, hv]; omega
theorem rwk_bd {a b s k p : Int} {is : Int → Int} (h : RWK is a b s k p) (z : SZB is) : 0 ≤ p ∧ p ≤ s ∧ s ≤ 76800 := by
  obtain ⟨q, hs, s1, r, e⟩ := h
  have p1 := pxs_up (f := is) (a := a) (b := k) (fun j u v => (z j (by omega) (by omega)).1) (by omega) (by omega)
  have p2 := pxs_up (f := is) (a := k) (b := b) (fun j u v => (z j (by omega) (by omega)).1) (by omega) (by omega)
  omega
theorem btw_q {a o u z p : Int} (hz : z = Int.tdiv p u) (hp : p = a * o) (o0 : 0 ≤ o) (o1 : o ≤ u) (u0 : 0 < u) : BTW z a := by
  rw [hp] at hz; exact btw_div o0 o1 u0 hz
theorem spc_top {S S1 S2 : Int → Int} {c p q v w a b : Int} (h : SPC S) (hc : BTW c (S 3)) (s1 : st1 S S1 p v) (s2 : st1 S1 S2 q w) (hp : p = 1) (hq : q = 3) (ha : a = S 1) (hv : v = a + c) (hb : b = S1 3) (hw : w = b - c) : SPC S2 := by
  have e3 : S1 3 = S 3 := (s1 3 (by omega)).2 (by omega)
  have n0 : S2 0 = S 0 := by rw [(s2 0 (by omega)).2 (by omega), (s1 0 (by omega)).2 (by omega)]
  have n2 : S2 2 = S 2 := by rw [(s2 2 (by omega)).2 (by omega), (s1 2 (by omega)).2 (by omega)]
  have n1 : S2 1 = v := by rw [(s2 1 (by omega)).2 (by omega), (s1 1 (by omega)).1 (by omega)]
  have n3 : S2 3 = w := by rw [(s2 3 (by omega)).1 (by omega)]
  unfold SPC
  rw [n0, n1, n2, n3]
  exact ⟨h.1, hul_st h.2 hc (by omega) (by omega)⟩
theorem spc_side {S S1 S2 : Int → Int} {c p q v w a b : Int} (h : SPC S) (hc : BTW c (S 2)) (s1 : st1 S S1 p v) (s2 : st1 S1 S2 q w) (hp : p = 0) (hq : q = 2) (ha : a = S 0) (hv : v = a + c) (hb : b = S1 2) (hw : w = b - c) : SPC S2 := by
  have e3 : S1 2 = S 2 := (s1 2 (by omega)).2 (by omega)
  have n1 : S2 1 = S 1 := by rw [(s2 1 (by omega)).2 (by omega), (s1 1 (by omega)).2 (by omega)]
  have n3 : S2 3 = S 3 := by rw [(s2 3 (by omega)).2 (by omega), (s1 3 (by omega)).2 (by omega)]
  have n0 : S2 0 = v := by rw [(s2 0 (by omega)).2 (by omega), (s1 0 (by omega)).1 (by omega)]
  have n2 : S2 2 = w := by rw [(s2 2 (by omega)).1 (by omega)]
  unfold SPC
  rw [n0, n1, n2, n3]
  exact ⟨hul_st h.1 hc (by omega) (by omega), h.2⟩
end
section
-- heights of a drawing of the house; the class's grid
def DYB (y : Int → Int) (n : Int) : Prop := ∀ v, 0 ≤ v → v < 24 → -1000000 ≤ y v ∧ y v ≤ 70000000 + 200000 * n
def DYG (y : Int → Int) (n g i : Int) : Prop := DYB y n ∧ ∀ v, 0 ≤ v → v < i → y v ≤ g
def DYI (m : Int) (y : Int → Int) (g i : Int) : Prop := ∀ v, i ≤ v → 0 ≤ v → v < m → v < 24 → -1000000 ≤ y v ∧ y v ≤ g
theorem dyg_step {y : Int → Int} {n g g_zq i i_zq v : Int} (h : DYG y n g i) (hi : i_zq = i + 1) (hv : v = y i) (g1 : g ≤ g_zq) (g2 : v ≤ g_zq) : DYG y n g_zq i_zq := ⟨h.1, fun j a b => by
  by_cases e : j = i
  · rw [e, ← hv]; exact g2
  · have := h.2 j a (by omega); omega⟩
theorem dyi_of {y : Int → Int} {n g i k m : Int} (h : DYG y n g i) (hi : m ≤ i) : DYI m y g k := fun v _ a b c => ⟨(h.1 v a c).1, h.2 v a (by omega)⟩
theorem dyi_step {y y_zq : Int → Int} {g i i_zq m s v : Int} (h : DYI m y g i) (hi : i_zq = i + 1) (hs : st1 y y_zq s v) (hss : s = i) : DYI m y_zq g i_zq := fun j a b c d => by
  rw [(hs j b).2 (by omega)]; exact h j (by omega) b c d
end
section
-- the class's grid: every node of the line, and all that is under it, has small coordinates
def gS : Nat → Int
  | 0 => 3
  | k + 1 => 3 * (gS k + 46) / 2 + 2
def gT (k : Int) : Int := gS (k - 3).toNat
theorem gS_pos (k : Nat) : 3 ≤ gS k := by
  induction k with
  | zero => exact Int.le_refl _
  | succ k h => show 3 ≤ 3 * (gS k + 46) / 2 + 2; omega
theorem gS_mono (k d : Nat) : gS k ≤ gS (k + d) := by
  induction d with
  | zero => exact Int.le_refl _
  | succ d h =>
    have p := gS_pos (k + d)
    show gS k ≤ 3 * (gS (k + d) + 46) / 2 + 2
    omega
theorem gS_21 : gS 21 ≤ 730000 := by decide +kernel
theorem gT_le {k : Int} (h : k ≤ 24) : gT k ≤ 730000 := by
  have e : gS (k - 3).toNat ≤ gS ((k - 3).toNat + (21 - (k - 3).toNat)) := gS_mono _ _
  rw [show (k - 3).toNat + (21 - (k - 3).toNat) = 21 by omega] at e
  exact Int.le_trans e gS_21
theorem gT_pos (k : Int) : 3 ≤ gT k := gS_pos _
theorem gT_next {k : Int} (h : 3 ≤ k) : gT (k + 1) = 3 * (gT k + 46) / 2 + 2 := by
  unfold gT
  rw [show (k + 1 - 3).toNat = (k - 3).toNat + 1 by omega]
  rfl
def okz (under x y : Int → Int) (s q : Int) : Prop := (0 ≤ q ∧ q < 24) ∧ sml x y q s ∧ ∀ z, 0 ≤ z → z < 24 → bit (under q) z → sml x y z s
def CGI (len : Int) (line under x y : Int → Int) (k : Int) : Prop := (3 ≤ len ∧ len ≤ 24) ∧ ∀ q, 0 ≤ q → q < len → okz under x y (gT k) (line q)
def CGN (len : Int) (line under x y : Int → Int) (k : Int) : Prop := CGI len line under x y (k + 1)
def CG2 (len : Int) (line under x y : Int → Int) (k j v : Int) : Prop := (3 ≤ len ∧ len ≤ 24) ∧ (∀ q, 0 ≤ q → q < len → okz under x y (gT k + 2 * (j - 1)) (line q)) ∧ ∀ z, 0 ≤ z → z < 24 → bit (under v) z → z = v ∨ sml x y z (gT k + 2 * (j - 1))
def CG2n (len : Int) (line under x y : Int → Int) (k j v : Int) : Prop := CG2 len line under x y k (j + 1) v
def CG5 (len : Int) (line under x y : Int → Int) (k v : Int) : Prop := (3 ≤ len ∧ len ≤ 24) ∧ (∀ q, 0 ≤ q → q < len → okz under x y (gT (k + 1)) (line q)) ∧ okz under x y (gT (k + 1)) v
-- while nodes under one of the line move
def cgp (x y : Int → Int) (s i z : Int) : Prop := (z < i → sml x y z (s + 2)) ∧ (i ≤ z → sml x y z s)
def CGS (len : Int) (line under x y : Int → Int) (k j v i : Int) : Prop := (3 ≤ len ∧ len ≤ 24) ∧ (∀ q, 0 ≤ q → q < len → (0 ≤ line q ∧ line q < 24) ∧ cgp x y (gT k + 2 * (j - 1)) i (line q) ∧ ∀ z, 0 ≤ z → z < 24 → bit (under (line q)) z → cgp x y (gT k + 2 * (j - 1)) i z) ∧ ∀ z, 0 ≤ z → z < 24 → bit (under v) z → z = v ∨ cgp x y (gT k + 2 * (j - 1)) i z
theorem cgp_of {x y : Int → Int} {s i z : Int} (h : sml x y z s) : cgp x y s i z := ⟨fun _ => sml_le h (by omega), fun _ => h⟩
theorem cgp_to {x y : Int → Int} {s i z : Int} (h : cgp x y s i z) : sml x y z (s + 2) := by
  by_cases c : z < i
  · exact h.1 c
  · exact sml_le (h.2 (by omega)) (by omega)
theorem cgs_start {len k j v i : Int} {line under x y : Int → Int} (h : CG2 len line under x y k j v) : CGS len line under x y k j v i := ⟨h.1, fun q a b => ⟨(h.2.1 q a b).1, cgp_of (h.2.1 q a b).2.1, fun z c d e => cgp_of ((h.2.1 q a b).2.2 z c d e)⟩, fun z a b c => (h.2.2 z a b c).imp id cgp_of⟩
theorem cgs_end {len k j v i : Int} {line under x y : Int → Int} (h : CGS len line under x y k j v i) : CG2n len line under x y k j v := by
  have e : gT k + 2 * (j + 1 - 1) = gT k + 2 * (j - 1) + 2 := by omega
  unfold CG2n CG2
  rw [e]
  exact ⟨h.1, fun q a b => ⟨(h.2.1 q a b).1, cgp_to (h.2.1 q a b).2.1, fun z c d f => cgp_to ((h.2.1 q a b).2.2 z c d f)⟩, fun z a b c => (h.2.2 z a b c).imp id cgp_to⟩
theorem cgp_step {x x_zq y : Int → Int} {s i i_zq z w d t : Int} (h : cgp x y s i z) (z0 : 0 ≤ z) (hi : i_zq = i + 1) (hs : st1 x x_zq t w) (ht : t = i) (hw : w = x i + d) (d0 : 0 ≤ d) (d2 : d ≤ 2) : cgp x_zq y s i_zq z := by
  by_cases c : z = i
  · refine ⟨fun _ => ?_, fun f => by exfalso; omega⟩
    have g := h.2 (by omega)
    unfold sml at *
    rw [(hs z z0).1 (by omega), hw]
    rw [c] at *
    omega
  · refine ⟨fun f => ?_, fun f => ?_⟩
    · have g := h.1 (by omega)
      unfold sml at *
      rw [(hs z z0).2 (by omega)]
      exact g
    · have g := h.2 (by omega)
      unfold sml at *
      rw [(hs z z0).2 (by omega)]
      exact g
theorem cgs_step {len k j v i i_zq w d t : Int} {line under x x_zq y : Int → Int} (h : CGS len line under x y k j v i) (hi : i_zq = i + 1) (hs : st1 x x_zq t w) (ht : t = i) (hw : w = x i + d) (d0 : 0 ≤ d) (d2 : d ≤ 2) : CGS len line under x_zq y k j v i_zq := ⟨h.1, fun q a b => ⟨(h.2.1 q a b).1, cgp_step (h.2.1 q a b).2.1 (h.2.1 q a b).1.1 hi hs ht hw d0 d2, fun z c e f => cgp_step ((h.2.1 q a b).2.2 z c e f) c hi hs ht hw d0 d2⟩, fun z a b c => (h.2.2 z a b c).imp id (fun g => cgp_step g a hi hs ht hw d0 d2)⟩
theorem cgp_skip {x y : Int → Int} {s i i_zq z : Int} (h : cgp x y s i z) (hi : i_zq = i + 1) : cgp x y s i_zq z := ⟨fun _ => cgp_to h, fun f => h.2 (by omega)⟩
theorem cgs_skip {len k j v i i_zq : Int} {line under x y : Int → Int} (h : CGS len line under x y k j v i) (hi : i_zq = i + 1) : CGS len line under x y k j v i_zq := ⟨h.1, fun q a b => ⟨(h.2.1 q a b).1, cgp_skip (h.2.1 q a b).2.1 hi, fun z c e f => cgp_skip ((h.2.1 q a b).2.2 z c e f) hi⟩, fun z a b c => (h.2.2 z a b c).imp id (fun g => cgp_skip g hi)⟩
theorem cgs_val {len k j v i u t : Int} {line under x y : Int → Int} (h : CGS len line under x y k j v i) (i0 : 0 ≤ i) (i1 : i < 24) (j0 : 0 ≤ j) (j1 : j < len) (ht : t = line j) (hb : bit (under t) i) (hu : u = x i) (j2 : 1 ≤ j) (kk : k ≤ 24) : -800000 ≤ u ∧ u ≤ 800000 := by
  have g := ((h.2.1 j j0 j1).2.2 i i0 i1 (by rw [← ht]; exact hb)).2 (Int.le_refl _)
  have q := gT_le kk
  have := h.1
  unfold sml at g
  omega
-- what is under the new node
theorem cg2_of {len k j v s w : Int} {line under under_zq x y : Int → Int} (h : CGI len line under x y k) (hs : st1 under under_zq s w) (ss : s = v) (hw : ∀ z, 0 ≤ z → z < 24 → (bit w z ↔ z = v)) (v0 : 0 ≤ v) (v1 : v < 24) (hj : 1 ≤ j) : CG2 len line under_zq x y k j v := by
  refine ⟨h.1, fun q a b => ?_, fun z a b c => ?_⟩
  · have g := h.2 q a b
    refine ⟨g.1, sml_le g.2.1 (by omega), fun z c d e => ?_⟩
    by_cases f : line q = v
    · rw [(hs (line q) g.1.1).1 (by omega)] at e
      rw [(hw z c d).1 e, ← f]
      exact sml_le g.2.1 (by omega)
    · rw [(hs (line q) g.1.1).2 (by omega)] at e
      exact sml_le (g.2.2 z c d e) (by omega)
  · rw [(hs v v0).1 (by omega)] at c
    exact Or.inl ((hw z a b).1 c)
theorem cg2_step {len k j j_zq v s w o a : Int} {line under under_zq x y : Int → Int} (h : CG2n len line under x y k j v) (hj : j_zq = j + 1) (hs : st1 under under_zq s w) (ss : s = v) (v0 : 0 ≤ v) (ho : o = under v) (hw : ∀ z, bit w z → bit o z ∨ bit a z) (ha : (∀ z, ¬ bit a z) ∨ ∃ q, 0 ≤ q ∧ q < len ∧ a = under (line q)) : CG2 len line under_zq x y k j_zq v := by
  rw [hj]
  have hn : ∀ z, 0 ≤ z → z < 24 → bit w z → z = v ∨ sml x y z (gT k + 2 * (j + 1 - 1)) := fun z z0 z1 f => by
    rcases hw z f with g | g
    · rw [ho] at g
      exact h.2.2 z z0 z1 g
    · rcases ha with q | ⟨q, q0, q1, q2⟩
      · exact (q z g).elim
      · rw [q2] at g
        exact Or.inr ((h.2.1 q q0 q1).2.2 z z0 z1 g)
  refine ⟨h.1, fun q b c => ?_, fun z b c d => ?_⟩
  · have g := h.2.1 q b c
    refine ⟨g.1, g.2.1, fun z z0 z1 e => ?_⟩
    by_cases f : line q = v
    · rw [(hs (line q) g.1.1).1 (by omega)] at e
      rcases hn z z0 z1 e with r | r
      · rw [r, ← f]; exact g.2.1
      · exact r
    · rw [(hs (line q) g.1.1).2 (by omega)] at e
      exact g.2.2 z z0 z1 e
  · rw [(hs v v0).1 (by omega)] at d
    exact hn z b c d
-- the new node's place
theorem cg_new {s X Y xa xb ya yb xa_zq xb_zq e f : Int} (ha : (-s ≤ xa + ya ∧ xa + ya ≤ s) ∧ -s ≤ xa - ya ∧ xa - ya ≤ s) (hb : (-s ≤ xb + yb ∧ xb + yb ≤ s) ∧ -s ≤ xb - yb ∧ xb - yb ≤ s) (he : e = xa + xb + yb - ya) (hX : X = Int.tdiv e 2) (hab : (xa_zq = xa ∧ xb_zq = xb) ∨ (xa_zq = X ∧ xb_zq = xb) ∨ (xa_zq = xa ∧ xb_zq = X) ∨ (xa_zq = X ∧ xb_zq = X ∧ xa = xb ∧ ya = yb)) (hf : f = xb_zq - xa_zq + ya + yb) (hY : Y = Int.tdiv f 2) : (-(3 * s / 2 + 2) ≤ X + Y ∧ X + Y ≤ 3 * s / 2 + 2) ∧ -(3 * s / 2 + 2) ≤ X - Y ∧ X - Y ≤ 3 * s / 2 + 2 := by
  have q1 := td2 hX
  have q2 := td2 hY
  rcases hab with ⟨r1, r2⟩ | ⟨r1, r2⟩ | ⟨r1, r2⟩ | ⟨r1, r2, r3, r4⟩ <;> rcases q1 with q1 | q1 <;> rcases q2 with q2 | q2 <;> omega
theorem cg_x {s X xa xb ya yb e : Int} (ha : (-s ≤ xa + ya ∧ xa + ya ≤ s) ∧ -s ≤ xa - ya ∧ xa - ya ≤ s) (hb : (-s ≤ xb + yb ∧ xb + yb ≤ s) ∧ -s ≤ xb - yb ∧ xb - yb ≤ s) (hs : s ≤ 800000) (he : e = xa + xb + yb - ya) (hX : X = Int.tdiv e 2) : -1000000 ≤ X ∧ X ≤ 1000000 := by
  rcases td2 hX with q1 | q1 <;> omega
theorem cg_alias {x x_zq : Int → Int} {v a b s1 X xa xb ya yb xa_zq xb_zq : Int} {y : Int → Int} (hs1 : st1 x x_zq s1 X) (ss1 : s1 = v) (a0 : 0 ≤ a) (b0 : 0 ≤ b) (h1 : xa = x a) (h2 : xb = x b) (h3 : ya = y a) (h4 : yb = y b) (h5 : xa_zq = x_zq a) (h6 : xb_zq = x_zq b) : (xa_zq = xa ∧ xb_zq = xb) ∨ (xa_zq = X ∧ xb_zq = xb) ∨ (xa_zq = xa ∧ xb_zq = X) ∨ (xa_zq = X ∧ xb_zq = X ∧ xa = xb ∧ ya = yb) := by
  by_cases c : a = v
  · by_cases d : b = v
    · exact Or.inr (Or.inr (Or.inr ⟨by rw [h5]; exact (hs1 a a0).1 (by omega), by rw [h6]; exact (hs1 b b0).1 (by omega), by rw [h1, h2, c, d], by rw [h3, h4, c, d]⟩))
    · exact Or.inr (Or.inl ⟨by rw [h5]; exact (hs1 a a0).1 (by omega), by rw [h6, h2]; exact (hs1 b b0).2 (by omega)⟩)
  · by_cases d : b = v
    · exact Or.inr (Or.inr (Or.inl ⟨by rw [h5, h1]; exact (hs1 a a0).2 (by omega), by rw [h6]; exact (hs1 b b0).1 (by omega)⟩))
    · exact Or.inl ⟨by rw [h5, h1]; exact (hs1 a a0).2 (by omega), by rw [h6, h2]; exact (hs1 b b0).2 (by omega)⟩
theorem cg2_at {len k j v l a xa ya : Int} {line under x y : Int → Int} (h : CG2 len line under x y k j v) (hj : j ≤ 24) (l0 : 0 ≤ l) (l1 : l < len) (ha : a = line l) (h1 : xa = x a) (h3 : ya = y a) : (0 ≤ a ∧ a < 24) ∧ (-(gT k + 46) ≤ xa + ya ∧ xa + ya ≤ gT k + 46) ∧ -(gT k + 46) ≤ xa - ya ∧ xa - ya ≤ gT k + 46 := by
  have ga := h.2.1 l l0 l1
  rw [← ha] at ga
  have g := ga.2.1
  refine ⟨ga.1, ?_⟩
  unfold sml at g
  rw [h1, h3]
  omega
theorem cg_vx {len k j v l r a b xa ya xb yb e X : Int} {line under x y : Int → Int} (h : CG2 len line under x y k j v) (hj : j ≤ 24) (hk : k ≤ 24) (l0 : 0 ≤ l) (l1 : l < len) (r0 : 0 ≤ r) (r1 : r < len) (ha : a = line l) (hb : b = line r) (h1 : xa = x a) (h2 : xb = x b) (h3 : ya = y a) (h4 : yb = y b) (he : e = xa + xb + yb - ya) (hX : X = Int.tdiv e 2) : -1000000 ≤ X ∧ X ≤ 1000000 := by
  have p := gT_le hk
  exact cg_x (s := gT k + 46) (cg2_at h hj l0 l1 ha h1 h3).2 (cg2_at h hj r0 r1 hb h2 h4).2 (by omega) he hX
theorem cg_vy {len k j v l r a b xa ya xb yb xa_zq xb_zq e X f Y s1 : Int} {line under x x_zq y : Int → Int} (h : CG2 len line under x y k j v) (hj : j ≤ 24) (k3 : 3 ≤ k) (hk : k ≤ 23) (l0 : 0 ≤ l) (l1 : l < len) (r0 : 0 ≤ r) (r1 : r < len) (ha : a = line l) (hb : b = line r) (h1 : xa = x a) (h2 : xb = x b) (h3 : ya = y a) (h4 : yb = y b) (he : e = xa + xb + yb - ya) (hX : X = Int.tdiv e 2) (hs1 : st1 x x_zq s1 X) (ss1 : s1 = v) (h5 : xa_zq = x_zq a) (h6 : xb_zq = x_zq b) (hf : f = xb_zq - xa_zq + ya + yb) (hY : Y = Int.tdiv f 2) : (-gT (k + 1) ≤ X + Y ∧ X + Y ≤ gT (k + 1)) ∧ -gT (k + 1) ≤ X - Y ∧ X - Y ≤ gT (k + 1) := by
  have n1 := gT_next k3
  have qa := cg2_at h hj l0 l1 ha h1 h3
  have qb := cg2_at h hj r0 r1 hb h2 h4
  have g := cg_new (s := gT k + 46) qa.2 qb.2 he hX (cg_alias (y := y) hs1 ss1 qa.1.1 qb.1.1 h1 h2 h3 h4 h5 h6) hf hY
  rw [n1]
  exact g
theorem cg_vyb {k X Y : Int} (hk : k ≤ 23) (h : (-gT (k + 1) ≤ X + Y ∧ X + Y ≤ gT (k + 1)) ∧ -gT (k + 1) ≤ X - Y ∧ X - Y ≤ gT (k + 1)) : -1000000 ≤ Y ∧ Y ≤ 1000000 := by
  have p := gT_le (k := k + 1) (by omega)
  omega
theorem cg5_of {len k j v l r a b xa ya xb yb xa_zq xb_zq e X f Y s1 s2 : Int} {line under x x_zq y y_zq : Int → Int} (h : CG2 len line under x y k j v) (hj : j ≤ 24) (k3 : 3 ≤ k) (hk : k ≤ 23) (v0 : 0 ≤ v) (v1 : v < 24) (l0 : 0 ≤ l) (l1 : l < len) (r0 : 0 ≤ r) (r1 : r < len) (ha : a = line l) (hb : b = line r) (h1 : xa = x a) (h2 : xb = x b) (h3 : ya = y a) (h4 : yb = y b) (he : e = xa + xb + yb - ya) (hX : X = Int.tdiv e 2) (hs1 : st1 x x_zq s1 X) (ss1 : s1 = v) (h5 : xa_zq = x_zq a) (h6 : xb_zq = x_zq b) (hf : f = xb_zq - xa_zq + ya + yb) (hY : Y = Int.tdiv f 2) (hs2 : st1 y y_zq s2 Y) (ss2 : s2 = v) : CG5 len line under x_zq y_zq k v := by
  have g := cg_vy h hj k3 hk l0 l1 r0 r1 ha hb h1 h2 h3 h4 he hX hs1 ss1 h5 h6 hf hY
  have n1 := gT_next k3
  have hv : sml x_zq y_zq v (gT (k + 1)) := by
    unfold sml
    rw [(hs1 v v0).1 (by omega), (hs2 v v0).1 (by omega)]
    exact g
  have old : ∀ z, 0 ≤ z → (z = v ∨ sml x y z (gT k + 2 * (j - 1))) → sml x_zq y_zq z (gT (k + 1)) := fun z z0 q => by
    by_cases c : z = v
    · rw [c]; exact hv
    · have q := q.resolve_left c
      have p := gT_pos k
      unfold sml at *
      rw [(hs1 z z0).2 (by omega), (hs2 z z0).2 (by omega)]
      omega
  exact ⟨h.1, fun q c d => ⟨(h.2.1 q c d).1, old _ (h.2.1 q c d).1.1 (Or.inr (h.2.1 q c d).2.1), fun z z0 z1 i => old z z0 (Or.inr ((h.2.1 q c d).2.2 z z0 z1 i))⟩, ⟨v0, v1⟩, hv, fun z z0 z1 i => old z z0 (h.2.2 z z0 z1 i)⟩
-- the line gets the new node
def CR1 (d s under x y : Int → Int) (sp dp n m k v g : Int) : Prop := (2 ≤ dp ∧ sp = dp - 1 + g ∧ n = m - sp ∧ 0 ≤ g ∧ 0 ≤ n) ∧ (∀ q, 0 ≤ q → q < m → okz under x y (gT (k + 1)) (d q)) ∧ (∀ q, 0 ≤ q → q < m → okz under x y (gT (k + 1)) (s q)) ∧ okz under x y (gT (k + 1)) v
def CR2 (d s under x y : Int → Int) (sp dp n m k v g : Int) : Prop := (2 ≤ dp ∧ sp = dp - 1 + g ∧ n = m - sp ∧ 0 ≤ g ∧ 0 ≤ n) ∧ (∀ q, 0 ≤ q → q < m - g + 1 → q ≠ dp - 1 → okz under x y (gT (k + 1)) (d q)) ∧ okz under x y (gT (k + 1)) v
def CR3 (d s under x y : Int → Int) (sp dp n m k v g : Int) : Prop := (sp = 0 ∧ n = 1 ∧ s 0 = v) ∧ (∀ q, 0 ≤ q → q < m - g + 1 → q ≠ dp → okz under x y (gT (k + 1)) (d q)) ∧ okz under x y (gT (k + 1)) v
def CR4 (d s under x y : Int → Int) (sp dp n m k v g : Int) : Prop := ∀ q, 0 ≤ q → q < m - g + 1 → okz under x y (gT (k + 1)) (d q)
theorem okz_eq {under x y under_zq x_zq y_zq : Int → Int} {s q : Int} (hu : ∀ j, under_zq j = under j) (hx : ∀ j, x_zq j = x j) (hy : ∀ j, y_zq j = y j) (h : okz under x y s q) : okz under_zq x_zq y_zq s q := by
  rw [show under_zq = under from funext hu, show x_zq = x from funext hx, show y_zq = y from funext hy]
  exact h
theorem cr1_cr2 {U U_zq : Nat → Int → Int} {xs : List Int} {sp dp n : Int} (_ : 0 ≤ sp) (_ : 0 ≤ dp) (_ : 0 ≤ n) (h1 : ∀ j, 0 ≤ j → U_zq 0 j = if dp ≤ j ∧ j < dp + n then U 1 (sp + (j - dp)) else U 0 j) (_ : (∀ j, U_zq 1 j = U 1 j) ∨ ((∀ j, U_zq 1 j = U_zq 0 j) ∧ ∀ j, U 1 j = U 0 j)) (h3 : ∀ i, 2 ≤ i → ∀ j, U_zq i j = U i j) (e1 : xs.getD 5 0 = sp) (e2 : xs.getD (5 + 1) 0 = dp) (e3 : xs.getD (5 + 2) 0 = n) (h : CR1 (U 0) (U 1) (U 2) (U 3) (U 4) (xs.getD 5 0) (xs.getD 6 0) (xs.getD 7 0) (xs.getD 8 0) (xs.getD 9 0) (xs.getD 10 0) (xs.getD 11 0)) : CR2 (U_zq 0) (U_zq 1) (U_zq 2) (U_zq 3) (U_zq 4) (xs.getD 5 0) (xs.getD 6 0) (xs.getD 7 0) (xs.getD 8 0) (xs.getD 9 0) (xs.getD 10 0) (xs.getD 11 0) := by
  have e2 : xs.getD 6 0 = dp := e2
  have e3 : xs.getD 7 0 = n := e3
  rw [e1, e2, e3] at h ⊢
  obtain ⟨hb, hd, hs, hv⟩ := h
  refine ⟨hb, fun q a b c => ?_, okz_eq (h3 2 (by omega)) (h3 3 (by omega)) (h3 4 (by omega)) hv⟩
  refine okz_eq (h3 2 (by omega)) (h3 3 (by omega)) (h3 4 (by omega)) ?_
  rw [h1 q a]
  by_cases f : dp ≤ q ∧ q < dp + n
  · rw [if_pos f]; exact hs _ (by omega) (by omega)
  · rw [if_neg f]; exact hd q a (by omega)
theorem cr3_cr4 {U U_zq : Nat → Int → Int} {xs : List Int} {sp dp n : Int} (_ : 0 ≤ sp) (_ : 0 ≤ dp) (_ : 0 ≤ n) (h1 : ∀ j, 0 ≤ j → U_zq 0 j = if dp ≤ j ∧ j < dp + n then U 1 (sp + (j - dp)) else U 0 j) (_ : (∀ j, U_zq 1 j = U 1 j) ∨ ((∀ j, U_zq 1 j = U_zq 0 j) ∧ ∀ j, U 1 j = U 0 j)) (h3 : ∀ i, 2 ≤ i → ∀ j, U_zq i j = U i j) (e1 : xs.getD 5 0 = sp) (e2 : xs.getD (5 + 1) 0 = dp) (e3 : xs.getD (5 + 2) 0 = n) (h : CR3 (U 0) (U 1) (U 2) (U 3) (U 4) (xs.getD 5 0) (xs.getD 6 0) (xs.getD 7 0) (xs.getD 8 0) (xs.getD 9 0) (xs.getD 10 0) (xs.getD 11 0)) : CR4 (U_zq 0) (U_zq 1) (U_zq 2) (U_zq 3) (U_zq 4) (xs.getD 5 0) (xs.getD 6 0) (xs.getD 7 0) (xs.getD 8 0) (xs.getD 9 0) (xs.getD 10 0) (xs.getD 11 0) := by
  have e2 : xs.getD 6 0 = dp := e2
  have e3 : xs.getD 7 0 = n := e3
  rw [e1, e2, e3] at h ⊢
  obtain ⟨hb, hd, hv⟩ := h
  intro q a b
  refine okz_eq (h3 2 (by omega)) (h3 3 (by omega)) (h3 4 (by omega)) ?_
  rw [h1 q a]
  by_cases f : dp ≤ q ∧ q < dp + n
  · rw [if_pos f, show sp + (q - dp) = 0 by omega, hb.2.2]; exact hv
  · rw [if_neg f]; exact hd q a b (by omega)
theorem cr1_of {len m k v g sp dp n : Int} {line under x y : Int → Int} (h : CG5 len line under x y k v) (hm : m = len) (h1 : 2 ≤ dp) (h2 : sp = dp - 1 + g) (h3 : n = m - sp) (h4 : 0 ≤ g) (h5 : 0 ≤ n) : CR1 line line under x y sp dp n m k v g := ⟨⟨h1, h2, h3, h4, h5⟩, fun q a b => h.2.1 q a (by omega), fun q a b => h.2.1 q a (by omega), h.2.2⟩
theorem cr3_of {m k v g sp dp n sp_zq dp_zq n_zq : Int} {line s way under x y : Int → Int} (h : CR2 line s under x y sp dp n m k v g) (h1 : sp_zq = 0) (h2 : n_zq = 1) (h3 : way 0 = v) (h4 : dp_zq = dp - 1) : CR3 line way under x y sp_zq dp_zq n_zq m k v g := ⟨⟨h1, h2, h3⟩, fun q a b c => h.2.1 q a b (by omega), h.2.2⟩
theorem cgn_4 {len m k v g sp dp n : Int} {line way under x y : Int → Int} (h : CR4 line way under x y sp dp n m k v g) (hl : len = m - g + 1) (l0 : 3 ≤ len) (l1 : len ≤ 24) : CGN len line under x y k := ⟨⟨l0, l1⟩, fun q a b => h q a (by omega)⟩
theorem cgn_5 {len k v : Int} {line under x y : Int → Int} (h : CG5 len line under x y k v) : CGN len line under x y k := ⟨h.1, h.2.1⟩
-- the first three
def CG0 (line order under x y : Int → Int) (k : Int) : Prop := ∀ j, 0 ≤ j → j < k → okz under x y 3 (order j)
theorem cgi_start {len k : Int} {line order under x y : Int → Int} (h : CG0 line order under x y 3) (hk : k = 3) (hl : len = 3) (h0 : line 0 = order 0) (h1 : line 1 = order 2) (h2 : line 2 = order 1) : CGI len line under x y k := by
  refine ⟨by omega, fun q a b => ?_⟩
  rw [hk, show gT 3 = 3 from rfl]
  have : q = 0 ∨ q = 1 ∨ q = 2 := by omega
  rcases this with rfl | rfl | rfl
  · rw [h0]; exact h 0 (by omega) (by omega)
  · rw [h1]; exact h 2 (by omega) (by omega)
  · rw [h2]; exact h 1 (by omega) (by omega)
theorem cg0_step {k k_zq v X Y w s1 s2 s3 : Int} {line order under under_zq x x_zq y y_zq : Int → Int} (h : CG0 line order under x y k) (hk : k_zq = k + 1) (hv : v = order k) (v0 : 0 ≤ v) (v1 : v < 24) (hs1 : st1 x x_zq s1 X) (ss1 : s1 = v) (hs2 : st1 y y_zq s2 Y) (ss2 : s2 = v) (hs3 : st1 under under_zq s3 w) (ss3 : s3 = v) (X0 : 0 ≤ X) (Y0 : 0 ≤ Y) (XY : X + Y ≤ 3) (hw : ∀ z, 0 ≤ z → z < 24 → (bit w z ↔ z = v)) : CG0 line order under_zq x_zq y_zq k_zq := by
  have hvv : sml x_zq y_zq v 3 := by
    unfold sml
    rw [(hs1 v v0).1 (by omega), (hs2 v v0).1 (by omega)]
    omega
  have old : ∀ z, 0 ≤ z → sml x y z 3 → sml x_zq y_zq z 3 := fun z z0 q => by
    by_cases c : z = v
    · rw [c]; exact hvv
    · unfold sml at *
      rw [(hs1 z z0).2 (by omega), (hs2 z z0).2 (by omega)]
      exact q
  have nv : okz under_zq x_zq y_zq 3 v := ⟨⟨v0, v1⟩, hvv, fun z a b c => by
    rw [(hs3 v v0).1 (by omega)] at c
    rw [(hw z a b).1 c]; exact hvv⟩
  intro j a b
  by_cases e : order j = v
  · rw [e]; exact nv
  · have jk : j < k := by
      rcases Int.lt_or_le j k with q | q
      · exact q
      · exact absurd (by rw [hv, show j = k by omega]) e
    have g := h j a jk
    refine ⟨g.1, old _ g.1.1 g.2.1, fun z z0 z1 c => ?_⟩
    rw [(hs3 _ g.1.1).2 (by omega)] at c
    exact old z z0 (g.2.2 z z0 z1 c)
theorem cgn_to {len k k_zq : Int} {line under x y : Int → Int} (h : CGN len line under x y k) (hk : k_zq = k + 1) : CGI len line under x y k_zq := by
  rw [hk]; exact h
-- heights of the class's bars
def RY1 (line y : Int → Int) (k : Int) : Prop := ∀ i, 0 ≤ i → i < k → 0 ≤ y (line i) ∧ y (line i) ≤ 24 * k
def RY2 (line y : Int → Int) (k j v : Int) : Prop := (∀ i, 0 ≤ i → i < k → line i = v ∨ (0 ≤ y (line i) ∧ y (line i) ≤ 24 * k)) ∧ 0 ≤ y v ∧ y v ≤ 24 * k + j
theorem ry2_of {k j v s w : Int} {line y y_zq : Int → Int} (h : RY1 line y k) (hl : ∀ i, 0 ≤ i → i < k → 0 ≤ line i) (v0 : 0 ≤ v) (hs : st1 y y_zq s w) (ss : s = v) (hw : w = 0) (k0 : 0 ≤ k) (j0 : 0 ≤ j) : RY2 line y_zq k j v := by
  refine ⟨fun i a b => ?_, ?_⟩
  · by_cases c : line i = v
    · exact Or.inl c
    · rw [(hs (line i) (hl i a b)).2 (by omega)]; exact Or.inr (h i a b)
  · rw [(hs v v0).1 (by omega)]; omega
theorem ry2_val {k j v u : Int} {line y : Int → Int} (h : RY2 line y k j v) (j0 : 0 ≤ j) (j1 : j < k) (hu : u = y (line j)) : 0 ≤ u ∧ u ≤ 24 * k + j := by
  rcases h.1 j j0 j1 with c | c
  · rw [hu, c]; exact h.2
  · rw [hu]; omega
theorem ry2_step {k j j_zq v s w : Int} {line y y_zq : Int → Int} (h : RY2 line y k j v) (hj : j_zq = j + 1) (hl : ∀ i, 0 ≤ i → i < k → 0 ≤ line i) (v0 : 0 ≤ v) (hs : st1 y y_zq s w) (ss : s = v) (w0 : 0 ≤ w) (w1 : w ≤ 24 * k + j + 1) : RY2 line y_zq k j_zq v := by
  refine ⟨fun i a b => ?_, ?_⟩
  · by_cases c : line i = v
    · exact Or.inl c
    · rw [(hs (line i) (hl i a b)).2 (by omega)]; exact h.1 i a b
  · rw [(hs v v0).1 (by omega)]; omega
theorem ry2_skip {k j j_zq v : Int} {line y : Int → Int} (h : RY2 line y k j v) (hj : j_zq = j + 1) : RY2 line y k j_zq v := ⟨h.1, by have := h.2; omega⟩
theorem ry2_end {k k_zq j v : Int} {line y : Int → Int} (h : RY2 line y k j v) (hk : k_zq = k + 1) (hj : j ≤ k) (k1 : k ≤ 23) (hv : v = line k) (k0 : 0 ≤ k) : RY1 line y k_zq := fun i a b => by
  by_cases c : line i = v
  · rw [c]; have := h.2; omega
  · by_cases d : i = k
    · exact absurd (by rw [hv, d]) c
    · have := (h.1 i a (by omega)).resolve_left c; omega
end
section
-- the class's grid by its order: the line's nodes are of the order's first k
def LNO (len : Int) (line order : Int → Int) (k : Int) : Prop := (3 ≤ len ∧ len ≤ 24) ∧ ∀ q, 0 ≤ q → q < len → ∃ j, 0 ≤ j ∧ j < k ∧ line q = order j
def LNQ (len : Int) (line order : Int → Int) (k : Int) : Prop := LNO len line order (k + 1)
def TOQ (order : Int → Int) (t k : Int) : Prop := ∃ j, 0 ≤ j ∧ j < k ∧ t = order j
def CGO (order under x y : Int → Int) (k : Int) : Prop := CGI k order under x y k
def CGP (order under x y : Int → Int) (k : Int) : Prop := CGO order under x y (k + 1)
def CO2 (order under x y : Int → Int) (k j v : Int) : Prop := CG2 k order under x y k j v
def CO2n (order under x y : Int → Int) (k j v : Int) : Prop := CG2n k order under x y k j v
def COS (order under x y : Int → Int) (k j v i : Int) : Prop := CGS k order under x y k j v i
theorem lno_toq {len k q t : Int} {line order : Int → Int} (h : LNO len line order k) (q0 : 0 ≤ q) (q1 : q < len) (e : t = line q) : TOQ order t k := by
  obtain ⟨j, j0, j1, f⟩ := h.2 q q0 q1
  exact ⟨j, j0, j1, by rw [e, f]⟩
theorem cos_val {k j v i u t : Int} {order under x y : Int → Int} (h : COS order under x y k j v i) (ht : TOQ order t k) (i0 : 0 ≤ i) (i1 : i < 24) (hb : bit (under t) i) (hu : u = x i) (j2 : 1 ≤ j) (j3 : j ≤ 24) : -800000 ≤ u ∧ u ≤ 800000 := by
  obtain ⟨q, q0, q1, e⟩ := ht
  have g := ((h.2.1 q q0 q1).2.2 i i0 i1 (by rw [← e]; exact hb)).2 (Int.le_refl _)
  have p := gT_le h.1.2
  unfold sml at g
  omega
theorem co2_of {k j v s w : Int} {order under under_zq x y : Int → Int} (h : CGO order under x y k) (hs : st1 under under_zq s w) (ss : s = v) (hw : ∀ z, 0 ≤ z → z < 24 → (bit w z ↔ z = v)) (v0 : 0 ≤ v) (v1 : v < 24) (hj : 1 ≤ j) : CO2 order under_zq x y k j v := cg2_of h hs ss hw v0 v1 hj
theorem co2_step {k j j_zq v s w o a : Int} {order under under_zq x y : Int → Int} (h : CO2n order under x y k j v) (hj : j_zq = j + 1) (hs : st1 under under_zq s w) (ss : s = v) (v0 : 0 ≤ v) (ho : o = under v) (hw : ∀ z, bit w z → bit o z ∨ bit a z) (ha : (∀ z, ¬ bit a z) ∨ ∃ t, TOQ order t k ∧ a = under t) : CO2 order under_zq x y k j_zq v := by
  refine cg2_step h hj hs ss v0 ho hw ?_
  rcases ha with q | ⟨t, ⟨q, q0, q1, e⟩, f⟩
  · exact Or.inl q
  · exact Or.inr ⟨q, q0, q1, by rw [f, e]⟩
theorem cov_x {k j v a b xa ya xb yb e X : Int} {order under x y : Int → Int} (h : CO2 order under x y k j v) (ta : TOQ order a k) (tb : TOQ order b k) (hj : j ≤ 24) (h1 : xa = x a) (h2 : xb = x b) (h3 : ya = y a) (h4 : yb = y b) (he : e = xa + xb + yb - ya) (hX : X = Int.tdiv e 2) : -1000000 ≤ X ∧ X ≤ 1000000 := by
  obtain ⟨l, l0, l1, ea⟩ := ta
  obtain ⟨r, r0, r1, eb⟩ := tb
  exact cg_vx h hj h.1.2 l0 l1 r0 r1 ea eb h1 h2 h3 h4 he hX
theorem cov_y {k j v a b xa ya xb yb xa_zq xb_zq e X f Y s1 : Int} {order under x x_zq y : Int → Int} (h : CO2 order under x y k j v) (ta : TOQ order a k) (tb : TOQ order b k) (hj : j ≤ 24) (hk : k ≤ 23) (h1 : xa = x a) (h2 : xb = x b) (h3 : ya = y a) (h4 : yb = y b) (he : e = xa + xb + yb - ya) (hX : X = Int.tdiv e 2) (hs1 : st1 x x_zq s1 X) (ss1 : s1 = v) (h5 : xa_zq = x_zq a) (h6 : xb_zq = x_zq b) (hf : f = xb_zq - xa_zq + ya + yb) (hY : Y = Int.tdiv f 2) : -1000000 ≤ Y ∧ Y ≤ 1000000 := by
  obtain ⟨l, l0, l1, ea⟩ := ta
  obtain ⟨r, r0, r1, eb⟩ := tb
  exact cg_vyb hk (cg_vy h hj h.1.1 hk l0 l1 r0 r1 ea eb h1 h2 h3 h4 he hX hs1 ss1 h5 h6 hf hY)
theorem cgp_new {k j v a b xa ya xb yb xa_zq xb_zq e X f Y s1 s2 : Int} {order under x x_zq y y_zq : Int → Int} (h : CO2 order under x y k j v) (ta : TOQ order a k) (tb : TOQ order b k) (hj : j ≤ 24) (hk : k ≤ 23) (v0 : 0 ≤ v) (v1 : v < 24) (hv : v = order k) (h1 : xa = x a) (h2 : xb = x b) (h3 : ya = y a) (h4 : yb = y b) (he : e = xa + xb + yb - ya) (hX : X = Int.tdiv e 2) (hs1 : st1 x x_zq s1 X) (ss1 : s1 = v) (h5 : xa_zq = x_zq a) (h6 : xb_zq = x_zq b) (hf : f = xb_zq - xa_zq + ya + yb) (hY : Y = Int.tdiv f 2) (hs2 : st1 y y_zq s2 Y) (ss2 : s2 = v) : CGP order under x_zq y_zq k := by
  obtain ⟨l, l0, l1, ea⟩ := ta
  obtain ⟨r, r0, r1, eb⟩ := tb
  have g := cg5_of h hj h.1.1 hk v0 v1 l0 l1 r0 r1 ea eb h1 h2 h3 h4 he hX hs1 ss1 h5 h6 hf hY hs2 ss2
  have b := h.1
  refine ⟨by omega, fun q q0 q1 => ?_⟩
  by_cases c : q = k
  · rw [c, ← hv]; exact g.2.2
  · exact g.2.1 q q0 (by omega)
theorem cgo_start {k : Int} {line order under x y : Int → Int} (h : CG0 line order under x y k) (hk : 3 ≤ k) {k_zq : Int} (hk_zq : k_zq = 3) : CGO order under x y k_zq := by
  refine ⟨by omega, fun q q0 q1 => ?_⟩
  rw [hk_zq, show gT 3 = 3 from rfl]
  exact h q q0 (by omega)
theorem lno_start {len k : Int} {line order : Int → Int} (hl : len = 3) (hk : k = 3) (h0 : line 0 = order 0) (h1 : line 1 = order 2) (h2 : line 2 = order 1) : LNO len line order k := by
  refine ⟨by omega, fun q q0 q1 => ?_⟩
  have : q = 0 ∨ q = 1 ∨ q = 2 := by omega
  rcases this with rfl | rfl | rfl
  · exact ⟨0, by omega, by omega, h0⟩
  · exact ⟨2, by omega, by omega, h1⟩
  · exact ⟨1, by omega, by omega, h2⟩
theorem lno_st {len k : Int} {l0 l1 l2 l3 order : Int → Int} {p0 p1 p2 a b c : Int} (s0 : st1 l0 l1 p0 a) (s1 : st1 l1 l2 p1 b) (s2 : st1 l2 l3 p2 c) (e0 : p0 = 0) (e1 : p1 = 1) (e2 : p2 = 2) (ha : a = order 0) (hb : b = order 2) (hc : c = order 1) (hl : len = 3) (hk : k = 3) : LNO len l3 order k := by
  refine lno_start hl hk ?_ ?_ ?_
  · rw [(s2 0 (by omega)).2 (by omega), (s1 0 (by omega)).2 (by omega), (s0 0 (by omega)).1 (by omega), ha]
  · rw [(s2 1 (by omega)).2 (by omega), (s1 1 (by omega)).1 (by omega), hb]
  · rw [(s2 2 (by omega)).1 (by omega), hc]
theorem lnp_to {len k k_zq : Int} {line order : Int → Int} (h : LNQ len line order k) (hk : k_zq = k + 1) : LNO len line order k_zq := by
  rw [hk]; exact h
theorem cgp_to2 {k k_zq : Int} {order under x y : Int → Int} (h : CGP order under x y k) (hk : k_zq = k + 1) : CGO order under x y k_zq := by
  rw [hk]; exact h
-- the line gets the new node
def CQ1 (d s order : Int → Int) (sp dp n m k g : Int) : Prop := (2 ≤ dp ∧ sp = dp - 1 + g ∧ n = m - sp ∧ 0 ≤ g ∧ 0 ≤ n) ∧ (∀ q, 0 ≤ q → q < m → TOQ order (d q) k) ∧ ∀ q, 0 ≤ q → q < m → TOQ order (s q) k
def CQ2 (d s order : Int → Int) (sp dp n m k g : Int) : Prop := (2 ≤ dp ∧ sp = dp - 1 + g ∧ n = m - sp ∧ 0 ≤ g ∧ 0 ≤ n) ∧ ∀ q, 0 ≤ q → q < m - g + 1 → q ≠ dp - 1 → TOQ order (d q) k
def CQ3 (d s order : Int → Int) (sp dp n m k g : Int) : Prop := (sp = 0 ∧ n = 1 ∧ s 0 = order k ∧ 0 ≤ k) ∧ ∀ q, 0 ≤ q → q < m - g + 1 → q ≠ dp → TOQ order (d q) k
def CQ4 (d s order : Int → Int) (sp dp n m k g : Int) : Prop := ∀ q, 0 ≤ q → q < m - g + 1 → TOQ order (d q) (k + 1)
theorem toq_eq {order order_zq : Int → Int} {t k : Int} (h : ∀ j, order_zq j = order j) (q : TOQ order t k) : TOQ order_zq t k := by
  rw [show order_zq = order from funext h]; exact q
theorem cq1_cq2 {U U_zq : Nat → Int → Int} {xs : List Int} {sp dp n : Int} (_ : 0 ≤ sp) (_ : 0 ≤ dp) (_ : 0 ≤ n) (h1 : ∀ j, 0 ≤ j → U_zq 0 j = if dp ≤ j ∧ j < dp + n then U 1 (sp + (j - dp)) else U 0 j) (_ : (∀ j, U_zq 1 j = U 1 j) ∨ ((∀ j, U_zq 1 j = U_zq 0 j) ∧ ∀ j, U 1 j = U 0 j)) (h3 : ∀ i, 2 ≤ i → ∀ j, U_zq i j = U i j) (e1 : xs.getD 3 0 = sp) (e2 : xs.getD (3 + 1) 0 = dp) (e3 : xs.getD (3 + 2) 0 = n) (h : CQ1 (U 0) (U 1) (U 2) (xs.getD 3 0) (xs.getD 4 0) (xs.getD 5 0) (xs.getD 6 0) (xs.getD 7 0) (xs.getD 8 0)) : CQ2 (U_zq 0) (U_zq 1) (U_zq 2) (xs.getD 3 0) (xs.getD 4 0) (xs.getD 5 0) (xs.getD 6 0) (xs.getD 7 0) (xs.getD 8 0) := by
  have e2 : xs.getD 4 0 = dp := e2
  have e3 : xs.getD 5 0 = n := e3
  rw [e1, e2, e3] at h ⊢
  obtain ⟨hb, hd, hs⟩ := h
  refine ⟨hb, fun q a b c => toq_eq (h3 2 (by omega)) ?_⟩
  rw [h1 q a]
  by_cases f : dp ≤ q ∧ q < dp + n
  · rw [if_pos f]; exact hs _ (by omega) (by omega)
  · rw [if_neg f]; exact hd q a (by omega)
theorem cq3_cq4 {U U_zq : Nat → Int → Int} {xs : List Int} {sp dp n : Int} (_ : 0 ≤ sp) (_ : 0 ≤ dp) (_ : 0 ≤ n) (h1 : ∀ j, 0 ≤ j → U_zq 0 j = if dp ≤ j ∧ j < dp + n then U 1 (sp + (j - dp)) else U 0 j) (_ : (∀ j, U_zq 1 j = U 1 j) ∨ ((∀ j, U_zq 1 j = U_zq 0 j) ∧ ∀ j, U 1 j = U 0 j)) (h3 : ∀ i, 2 ≤ i → ∀ j, U_zq i j = U i j) (e1 : xs.getD 3 0 = sp) (e2 : xs.getD (3 + 1) 0 = dp) (e3 : xs.getD (3 + 2) 0 = n) (h : CQ3 (U 0) (U 1) (U 2) (xs.getD 3 0) (xs.getD 4 0) (xs.getD 5 0) (xs.getD 6 0) (xs.getD 7 0) (xs.getD 8 0)) : CQ4 (U_zq 0) (U_zq 1) (U_zq 2) (xs.getD 3 0) (xs.getD 4 0) (xs.getD 5 0) (xs.getD 6 0) (xs.getD 7 0) (xs.getD 8 0) := by
  have e2 : xs.getD 4 0 = dp := e2
  have e3 : xs.getD 5 0 = n := e3
  rw [e1, e2, e3] at h ⊢
  obtain ⟨hb, hd⟩ := h
  intro q a b
  refine toq_eq (h3 2 (by omega)) ?_
  rw [h1 q a]
  by_cases f : dp ≤ q ∧ q < dp + n
  · rw [if_pos f, show sp + (q - dp) = 0 by omega, hb.2.2.1]; exact ⟨_, hb.2.2.2, by omega, rfl⟩
  · rw [if_neg f]
    obtain ⟨j, j0, j1, e⟩ := hd q a b (by omega)
    exact ⟨j, j0, by omega, e⟩
theorem cq1_of {len m k g sp dp n : Int} {line order : Int → Int} (h : LNO len line order k) (hm : m = len) (h1 : 2 ≤ dp) (h2 : sp = dp - 1 + g) (h3 : n = m - sp) (h4 : 0 ≤ g) (h5 : 0 ≤ n) : CQ1 line line order sp dp n m k g := ⟨⟨h1, h2, h3, h4, h5⟩, fun q a b => lno_toq h a (by omega) rfl, fun q a b => lno_toq h a (by omega) rfl⟩
theorem cq3_of {m k g sp dp n sp_zq dp_zq n_zq : Int} {line s way order : Int → Int} (h : CQ2 line s order sp dp n m k g) (h1 : sp_zq = 0) (h2 : n_zq = 1) (h3 : way 0 = order k) (k0 : 0 ≤ k) (h4 : dp_zq = dp - 1) : CQ3 line way order sp_zq dp_zq n_zq m k g := ⟨⟨h1, h2, h3, k0⟩, fun q a b c => h.2 q a b (by omega)⟩
theorem lnp_4 {len m k g sp dp n : Int} {line way order : Int → Int} (h : CQ4 line way order sp dp n m k g) (hl : len = m - g + 1) (l0 : 3 ≤ len) (l1 : len ≤ 24) : LNQ len line order k := ⟨⟨l0, l1⟩, fun q a b => h q a (by omega)⟩
theorem lnp_same {len k : Int} {line order : Int → Int} (h : LNO len line order k) : LNQ len line order k := ⟨h.1, fun q a b => by
  obtain ⟨j, j0, j1, e⟩ := h.2 q a b
  exact ⟨j, j0, by omega, e⟩⟩
def RWL (is : Int → Int) (a b s k p : Int) : Prop := RWK is a b s (k + 1) p
theorem rwl_to {a b s k k_zq p : Int} {is : Int → Int} (h : RWL is a b s k p) (hk : k_zq = k + 1) : RWK is a b s k_zq p := by
  rw [hk]; exact h
theorem rwl_of {a b s k p p_zq v : Int} {is : Int → Int} (h : RWK is a b s k p) (kb : k < b) (hv : v = is k) (hp : p_zq = p + v) : RWL is a b s k p_zq := rwk_step h kb hv rfl hp
end
