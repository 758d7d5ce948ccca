-- the reference's trees: all x lie in a stretch that at most doubles with each shift
theorem pxs_0 {f : Int → Int} {n : Int} (hn : n ≤ 0) : pxs f n = 0 := by
  unfold pxs
  rw [show n.toNat = 0 by omega]
  rfl
theorem pxs_ind {P : Int → Prop} (h0 : ∀ n, n ≤ 0 → P n) (h1 : ∀ n, 0 ≤ n → P n → P (n + 1)) (n : Int) : P n := by
  rcases Int.le_total n 0 with h | h
  · exact h0 n h
  · obtain ⟨k, hk⟩ := Int.eq_ofNat_of_zero_le h
    subst hk
    clear h
    induction k with
    | zero => exact h0 _ (by omega)
    | succ k ih => rw [show ((k + 1 : Nat) : Int) = (k : Int) + 1 by omega]; exact h1 _ (by omega) ih
theorem pxs_S {f : Int → Int} {n : Int} (h : 0 ≤ n) : pxs f (n + 1) = pxs f n + f n := pxs_succ h rfl
theorem pxs_mono {f g : Int → Int} (n : Int) : (∀ c, 0 ≤ c → c < n → f c ≤ g c) → pxs f n ≤ pxs g n := by
  refine pxs_ind (P := fun n => (∀ c, 0 ≤ c → c < n → f c ≤ g c) → pxs f n ≤ pxs g n) ?_ ?_ n
  · intro n hn _; rw [pxs_0 hn, pxs_0 hn]; omega
  · intro n hn ih h
    rw [pxs_S hn, pxs_S hn]
    have := ih (fun c a b => h c a (by omega))
    have := h n hn (by omega)
    omega
theorem pxs_add {f g h : Int → Int} (n : Int) : (∀ c, 0 ≤ c → c < n → h c = f c + g c) → pxs h n = pxs f n + pxs g n := by
  refine pxs_ind (P := fun n => (∀ c, 0 ≤ c → c < n → h c = f c + g c) → pxs h n = pxs f n + pxs g n) ?_ ?_ n
  · intro n hn _; rw [pxs_0 hn, pxs_0 hn, pxs_0 hn]; omega
  · intro n hn ih e
    rw [pxs_S hn, pxs_S hn, pxs_S hn, ih (fun c a b => e c a (by omega)), e n hn (by omega)]
    omega
theorem pxs_ub {f : Int → Int} (n : Int) : 0 ≤ n → (∀ c, f c ≤ 1) → pxs f n ≤ n := by
  refine pxs_ind (P := fun n => 0 ≤ n → (∀ c, f c ≤ 1) → pxs f n ≤ n) ?_ ?_ n
  · intro n hn h0 _; rw [pxs_0 hn]; omega
  · intro n hn ih _ e
    rw [pxs_S hn]
    have := ih hn e
    have := e n
    omega
theorem pxs_lb {f : Int → Int} (n : Int) : (∀ c, 0 ≤ f c) → 0 ≤ pxs f n := by
  refine pxs_ind (P := fun n => (∀ c, 0 ≤ f c) → 0 ≤ pxs f n) ?_ ?_ n
  · intro n hn _; rw [pxs_0 hn]; omega
  · intro n hn ih e
    rw [pxs_S hn]
    have := ih e
    have := e n
    omega
theorem pxs_one {f g : Int → Int} {x d : Int} (n : Int) : (∀ c, 0 ≤ c → c < n → c ≠ x → g c = f c) → 0 ≤ x → x < n → g x = f x + d → pxs g n = pxs f n + d := by
  intro h x0 x1 hx
  have e : pxs g n = pxs f n + pxs (fun c => if c = x then d else 0) n := pxs_add n (fun c a b => by
    by_cases q : c = x
    · rw [if_pos q, q]; exact hx
    · rw [if_neg q, h c a b q]; omega)
  have z : ∀ m : Int, pxs (fun c => if c = x then d else 0) m = if x < m then d else 0 := by
    intro m
    refine pxs_ind (P := fun m => pxs (fun c => if c = x then d else 0) m = if x < m then d else 0) ?_ ?_ m
    · intro m hm; rw [pxs_0 hm, if_neg (by omega)]
    · intro m hm ih
      rw [pxs_S hm, ih]
      by_cases q : m = x
      · rw [if_pos q, if_neg (by omega), if_pos (by omega)]; omega
      · rw [if_neg q]
        by_cases r : x < m
        · rw [if_pos r, if_pos (by omega)]; omega
        · rw [if_neg r, if_neg (by omega)]; omega
  rw [e, z n, if_pos x1]
-- counted: whose parent has been placed
def prc (ab lv : Int → Int) (l i c : Int) : Int := if 0 ≤ ab c ∧ (l < lv (ab c) ∨ (lv (ab c) = l ∧ ab c < i)) then 1 else 0
def kid (ab : Int → Int) (i c : Int) : Int := if ab c = i then 1 else 0
def hang (ab : Int → Int) (c : Int) : Int := if 0 ≤ ab c then 1 else 0
def CTL (ab lv : Int → Int) (n l i : Int) : Int := pxs (prc ab lv l i) n
def TRT (n : Int) (nx : Int → Int) (t : Int) : Prop := 0 ≤ t ∧ ∃ lo hi : Int, (lo ≤ 0 ∧ 0 ≤ hi) ∧ hi - lo ≤ 4 * 2 ^ t.toNat - 4 ∧ ∀ i, 0 ≤ i → i < n → lo ≤ nx i ∧ nx i ≤ hi
theorem pow_le2 {a b : Nat} (h : a ≤ b) : (2 : Int) ^ a ≤ 2 ^ b := by
  have : (2 : Nat) ^ a ≤ 2 ^ b := Nat.pow_le_pow_right (by omega) h
  exact_mod_cast this
theorem trt_le {n t t' : Int} {nx : Int → Int} (h : TRT n nx t) (ht : t ≤ t') : TRT n nx t' := by
  obtain ⟨t0, lo, hi, a, b, c⟩ := h
  refine ⟨by omega, lo, hi, a, ?_, c⟩
  have := pow_le2 (a := t.toNat) (b := t'.toNat) (by omega)
  omega
def FND (n : Int) (nx : Int → Int) (d : Int) : Prop := (∃ a b, (0 ≤ a ∧ a < n) ∧ (0 ≤ b ∧ b < n) ∧ d = nx a + 4 - nx b) ∨ (d = -1000000 ∧ ∃ a b, (0 ≤ a ∧ a < n) ∧ (0 ≤ b ∧ b < n) ∧ (1000000 ≤ nx a - nx b ∨ 1000000 ≤ nx a ∨ nx b ≤ -1000000))
theorem trt_shift {n t t' d : Int} {nx nx' : Int → Int} (h : TRT n nx t) (hd : FND n nx d) (hs : ∀ j, 0 ≤ j → j < n → nx' j = nx j ∨ nx' j = nx j + d) (ht : t' = t + 1) : TRT n nx' t' := by
  obtain ⟨t0, lo, hi, ⟨a0, a1⟩, b, c⟩ := h
  have e2 : (2 : Int) ^ t'.toNat = 2 * 2 ^ t.toNat := by
    rw [show t'.toNat = t.toNat + 1 by omega, Int.pow_succ]; omega
  have key : d ≤ hi - lo + 4 ∧ lo - hi ≤ d ∨ (d = -1000000 ∧ 1000000 ≤ hi - lo) := by
    rcases hd with ⟨a, b, ⟨p, q⟩, ⟨r, s⟩, e⟩ | ⟨e, a, b, ⟨p, q⟩, ⟨r, s⟩, f⟩
    · left
      have := c a p q
      have := c b r s
      omega
    · right
      have := c a p q
      have := c b r s
      omega
  rcases Int.le_total 0 d with g | g
  · refine ⟨by omega, lo, hi + d, ⟨a0, by omega⟩, by omega, fun j j0 j1 => ?_⟩
    have := c j j0 j1
    have := hs j j0 j1
    omega
  · refine ⟨by omega, lo + d, hi, ⟨by omega, a1⟩, by omega, fun j j0 j1 => ?_⟩
    have := c j j0 j1
    have := hs j j0 j1
    omega
theorem trt_put {n t s v a b : Int} {nx nx' : Int → Int} (h : TRT n nx t) (hs : st1 nx nx' s v) (hv : v = 0 ∨ ((0 ≤ a ∧ a < n) ∧ (0 ≤ b ∧ b < n) ∧ 2 * v ≤ nx a + nx b ∧ nx a + nx b ≤ 2 * v + 1)) : TRT n nx' t := by
  obtain ⟨t0, lo, hi, p, b, c⟩ := h
  refine ⟨t0, lo, hi, p, b, fun j j0 j1 => ?_⟩
  by_cases q : j = s
  · rw [(hs j j0).1 q]
    rcases hv with e | ⟨⟨w0, w1⟩, ⟨u0, u1⟩, e, f⟩
    · omega
    · have := c _ w0 w1
      have := c _ u0 u1
      omega
  · rw [(hs j j0).2 q]; exact c j j0 j1
theorem trt_bd {n t j : Int} {nx : Int → Int} (h : TRT n nx t) (ht : t ≤ 23) (j0 : 0 ≤ j) (j1 : j < n) : -33554432 ≤ nx j ∧ nx j ≤ 33554432 := by
  obtain ⟨t0, lo, hi, p, b, c⟩ := h
  have := pow_le2 (a := t.toNat) (b := 23) (by omega)
  have := c j j0 j1
  have : (2 : Int) ^ 23 = 8388608 := by decide
  omega
theorem ctl_kid {ab lv : Int → Int} {n l i i' : Int} (h : lv i = l) (i0 : 0 ≤ i) (hi : i' = i + 1) : CTL ab lv n l i' = CTL ab lv n l i + pxs (kid ab i) n := by
  refine pxs_add n (fun c a b => ?_)
  unfold prc kid
  by_cases q : ab c = i
  · rw [if_pos q, if_pos (by rw [q]; omega), if_neg (by rw [q]; omega)]; omega
  · rw [if_neg q]
    by_cases r : 0 ≤ ab c ∧ (l < lv (ab c) ∨ (lv (ab c) = l ∧ ab c < i))
    · rw [if_pos r, if_pos (by omega)]; omega
    · rw [if_neg r, if_neg (by omega)]; omega
theorem ctl_le {ab lv : Int → Int} {n l l' i i' : Int} (h : l' < l ∨ (l' = l ∧ i ≤ i')) : CTL ab lv n l i ≤ CTL ab lv n l' i' := by
  refine pxs_mono n (fun c a b => ?_)
  unfold prc
  by_cases r : 0 ≤ ab c ∧ (l < lv (ab c) ∨ (lv (ab c) = l ∧ ab c < i))
  · rw [if_pos r, if_pos (by omega)]; omega
  · rw [if_neg r]
    by_cases q : 0 ≤ ab c ∧ (l' < lv (ab c) ∨ (lv (ab c) = l' ∧ ab c < i'))
    · rw [if_pos q]; omega
    · rw [if_neg q]; omega
theorem ctl_all {ab lv : Int → Int} {n l i : Int} : CTL ab lv n l i ≤ pxs (hang ab) n := by
  refine pxs_mono n (fun c a b => ?_)
  unfold prc hang
  by_cases r : 0 ≤ ab c ∧ (l < lv (ab c) ∨ (lv (ab c) = l ∧ ab c < i))
  · rw [if_pos r, if_pos r.1]; omega
  · rw [if_neg r]
    by_cases q : 0 ≤ ab c
    · rw [if_pos q]; omega
    · rw [if_neg q]; omega
theorem ctl_0 {ab lv : Int → Int} {n l i : Int} : 0 ≤ CTL ab lv n l i := pxs_lb n (fun c => by unfold prc; by_cases r : 0 ≤ ab c ∧ (l < lv (ab c) ∨ (lv (ab c) = l ∧ ab c < i)); rw [if_pos r]; omega; rw [if_neg r]; omega)
theorem kid_0 {ab : Int → Int} {n i : Int} : 0 ≤ pxs (kid ab i) n := pxs_lb n (fun c => by unfold kid; by_cases r : ab c = i; rw [if_pos r]; omega; rw [if_neg r]; omega)
