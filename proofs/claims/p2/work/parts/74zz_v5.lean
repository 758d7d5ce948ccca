-- the class's router: all nodes lie in the frame
def FRB (l t : Int) (len x y : Int → Int) (a b k : Int) : Prop := ∀ i, 0 ≤ i → i < k → (l + len i + 3 ≤ x i ∧ x i + len i + 3 ≤ a) ∧ t + 3 ≤ y i ∧ y i + 3 ≤ b
def FRM (l t w h n : Int) (len x y : Int → Int) : Prop := (1 ≤ w ∧ 1 ≤ h ∧ w * h ≤ 6000) ∧ 1 ≤ n ∧ ∀ i, 0 ≤ i → i < n → (l + len i + 3 ≤ x i ∧ x i + len i + 3 ≤ l + w - 1) ∧ t + 3 ≤ y i ∧ y i + 3 ≤ t + h - 1
def FRA (l t w h n : Int) (len x y : Int → Int) (z : Int) : Prop := z ≠ 0 → FRM l t w h n len x y
def PTO (l t w : Int) (x y : Int → Int) (i z : Int) : Prop := z = (y i - t) * w + x i - l
def BRK (m f : Int) : Prop := 0 ≤ m - f ∧ m + f ≤ 5999
theorem frb_step {l t l' t' a b a' b' k k' p q h : Int} {len x y : Int → Int} (H : FRB l t len x y a b k) (hk : k' = k + 1) (hp : p = x k) (hq : q = y k) (hh : h = len k + 1) (l1 : l' ≤ l) (l2 : l' ≤ p - h - 2) (t1 : t' ≤ t) (t2 : t' ≤ q - 3) (a1 : a ≤ a') (a2 : p + h + 2 ≤ a') (b1 : b ≤ b') (b2 : q + 3 ≤ b') : FRB l' t' len x y a' b' k' := by
  intro v v0 v1
  by_cases e : v = k
  · rw [e, ← hp, ← hq]; omega
  · have := H v v0 (by omega); omega
theorem frm_of {l t w h n a b k p u v : Int} {len x y : Int → Int} (H : FRB l t len x y a b k) (hk : n ≤ k) (n1 : 1 ≤ n) (ll : ∀ i, 0 ≤ i → i < n → 0 ≤ len i) (hw : w = a - l + 1) (hh : h = b - t + 1) (hu : u = w) (hv : v = h) (hp : p = u * v) (h6 : p ≤ 6000) : FRM l t w h n len x y := by
  have h0 := H 0 (by omega) (by omega)
  have l0 := ll 0 (by omega) (by omega)
  refine ⟨⟨by omega, by omega, by rw [← hu, ← hv, ← hp]; exact h6⟩, n1, fun i i0 i1 => ?_⟩
  have := H i i0 (by omega)
  omega
theorem frm_cell {l t w h n i f m d s : Int} {len x y : Int → Int} (H : FRM l t w h n len x y) (i0 : 0 ≤ i) (i1 : i < n) (ll : 0 ≤ len i) (d0 : -1 ≤ d) (d1 : d ≤ 1) (s0 : -(len i + 1) ≤ s) (s1 : s ≤ len i + 1) (hm : m = (y i - t) * w + x i - l + d * w + s) : 0 ≤ m ∧ m + 1 ≤ w * h := by
  obtain ⟨⟨w1, h1, wh⟩, n1, H⟩ := H
  have c := H i i0 i1
  have e1 : m = (y i - t + d) * w + (x i - l + s) := by rw [hm, Int.add_mul]; omega
  have r0 : 0 ≤ y i - t + d := by omega
  have r1 : y i - t + d ≤ h - 1 := by omega
  have p0 : 0 ≤ (y i - t + d) * w := Int.mul_nonneg r0 (by omega)
  have p1 : (y i - t + d) * w ≤ (h - 1) * w := Int.mul_le_mul_of_nonneg_right r1 (by omega)
  have e2 : (h - 1) * w = w * h - w := by rw [Int.sub_mul, Int.one_mul, Int.mul_comm]
  omega
theorem frm_pt {l t w h n i z : Int} {len x y : Int → Int} (H : FRM l t w h n len x y) (i0 : 0 ≤ i) (i1 : i < n) (ll : 0 ≤ len i) (hz : PTO l t w x y i z) : 0 ≤ z ∧ z + 1 ≤ w * h := by
  unfold PTO at hz
  exact frm_cell (d := 0) (s := 0) (f := 0) H i0 i1 ll (by omega) (by omega) (by omega) (by omega) (by rw [hz]; omega)
theorem frm_bar {l t w h n i z m d e p f : Int} {len x y : Int → Int} (H : FRM l t w h n len x y) (i0 : 0 ≤ i) (i1 : i < n) (ll : 0 ≤ len i) (hz : PTO l t w x y i z) (d0 : -1 ≤ d) (d1 : d ≤ 1) (he : e = w) (hp : p = d * e) (hm : m = z + p) (hf : f = len i + 1) : BRK m f := by
  unfold PTO at hz
  have a := frm_cell (m := m - f) (d := d) (s := -f) (f := 0) H i0 i1 ll d0 d1 (by omega) (by omega) (by rw [hm, hz, hp, he]; omega)
  have b := frm_cell (m := m + f) (d := d) (s := f) (f := 0) H i0 i1 ll d0 d1 (by omega) (by omega) (by rw [hm, hz, hp, he])
  have := H.1
  exact ⟨a.1, by omega⟩
theorem frm_wh {l t w h n : Int} {len x y : Int → Int} (H : FRM l t w h n len x y) : (1 ≤ w ∧ w ≤ 6000) ∧ 1 ≤ h ∧ h ≤ 6000 := by
  have := grid_b4 H.1.1 H.1.2.1 H.1.2.2
  have := H.1
  omega
theorem pto_of {l t w i z p d e a b s : Int} {x y : Int → Int} (he : e = w) (hd : d = a - t) (ha : a = y i) (hp : p = d * e) (hb : b = x i) (hs : s = p + b) (hz : z = s - l) : PTO l t w x y i z := by
  unfold PTO
  rw [hz, hs, hp, hd, he, ha, hb]
