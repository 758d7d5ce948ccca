/-! areas: items and their sizes; what lies within a group -/
def itm (io is : Int → Int) (j : Int) : Prop := ((0 ≤ io j ∧ io j < 24) ∨ (100 ≤ io j ∧ io j < 108)) ∧ 1 ≤ is j ∧ is j ≤ 2400
def ITM (k : Int) (io is : Int → Int) : Prop := ∀ j, 0 ≤ j → j < k → itm io is j
def IT1 (k : Int) (io is : Int → Int) (h : Int) : Prop := ∀ j, 0 ≤ j → j ≤ k → j ≠ h → itm io is j
theorem it1_start {k x : Int} {io is : Int → Int} (h : ITM k io is) (e : x = k) : IT1 k io is x := fun j a b c => h j a (by omega)
theorem it1_step {k x y v w : Int} {io is io' is' : Int → Int} (h : IT1 k io is x) (x0 : 0 < x) (xk : x ≤ k) (e : y = x - 1) (h1 : st1 io io' x v) (h2 : st1 is is' x w) (hv : v = io y) (hw : w = is y) : IT1 k io' is' y := by
  intro j a b c
  by_cases z : j = x
  · have q := h y (by omega) (by omega) (by omega)
    unfold itm at *
    rw [(h1 j a).1 z, (h2 j a).1 z, hv, hw]; exact q
  · have q := h j a b z
    unfold itm at *
    rw [(h1 j a).2 z, (h2 j a).2 z]; exact q
theorem it1_fin {k k' x v w : Int} {io is io' is' : Int → Int} (h : IT1 k io is x) (e : k' = k + 1) (h1 : st1 io io' x v) (h2 : st1 is is' x w) (hv : (0 ≤ v ∧ v < 24) ∨ (100 ≤ v ∧ v < 108)) (w1 : 1 ≤ w) (w2 : w ≤ 2400) : ITM k' io' is' := by
  intro j a b
  by_cases z : j = x
  · unfold itm; rw [(h1 j a).1 z, (h2 j a).1 z]; exact ⟨hv, w1, w2⟩
  · have q := h j a (by omega) z
    unfold itm at *
    rw [(h1 j a).2 z, (h2 j a).2 z]; exact q
theorem itm_none {k : Int} {io is : Int → Int} (e : k = 0) : ITM k io is := fun j a b => by omega
def sxN (f : Int → Int) : Nat → Int
  | 0 => 0
  | n + 1 => sxN f n + f ((n : Nat) : Int)
def pxs (f : Int → Int) (x : Int) : Int := sxN f x.toNat
theorem pxs_succ {f : Int → Int} {x y : Int} (x0 : 0 ≤ x) (e : y = x + 1) : pxs f y = pxs f x + f x := by
  subst e
  unfold pxs
  rw [show (x + 1).toNat = x.toNat + 1 by omega]
  show sxN f x.toNat + f ((x.toNat : Nat) : Int) = _
  rw [show ((x.toNat : Nat) : Int) = x by omega]
theorem pxs_grow {k : Int} {io is : Int → Int} (h : ITM k io is) (n : Nat) : ∀ a b : Int, 0 ≤ a → b = a + (n : Int) → b ≤ k → b - a ≤ pxs is b - pxs is a ∧ pxs is b - pxs is a ≤ 2400 * (b - a) := by
  induction n with
  | zero => intro a b a0 e bk; have : b = a := by omega
            subst this; omega
  | succ n ih =>
    intro a b a0 e bk
    have i := ih a (b - 1) a0 (by omega) (by omega)
    have s := pxs_succ (f := is) (x := b - 1) (y := b) (by omega) (by omega)
    have q := (h (b - 1) (by omega) (by omega)).2
    omega
def SQ1 (k : Int) (io is : Int → Int) (t x : Int) : Prop := ITM k io is ∧ 0 ≤ x ∧ x ≤ k ∧ t = pxs is x
def SQ2 (k : Int) (io is : Int → Int) (t x : Int) : Prop := ITM k io is ∧ 0 ≤ x ∧ x ≤ k ∧ t = pxs is k - pxs is x
def SQ3 (k : Int) (io is : Int → Int) (t x y u : Int) : Prop := SQ2 k io is t x ∧ x < y ∧ y ≤ k ∧ u = pxs is y - pxs is x
theorem sq1_start {k t x : Int} {io is : Int → Int} (h : ITM k io is) (k0 : 0 ≤ k) (ht : t = 0) (hx : x = 0) : SQ1 k io is t x := ⟨h, by omega, by omega, by rw [ht, hx]; rfl⟩
theorem sq1_step {k t x t' x' v : Int} {io is : Int → Int} (h : SQ1 k io is t x) (xk : x < k) (hv : v = is x) (ht : t' = t + v) (hx : x' = x + 1) : SQ1 k io is t' x' := ⟨h.1, by have := h.2.1; omega, by omega, by rw [pxs_succ h.2.1 hx, ← h.2.2.2, ← hv, ht]⟩
theorem sq1_bd {k t x : Int} {io is : Int → Int} (h : SQ1 k io is t x) (k4 : k ≤ 40) : 0 ≤ t ∧ t ≤ 96000 := by
  have q := pxs_grow h.1 x.toNat 0 x (by omega) (by have := h.2.1; omega) h.2.2.1
  have z : pxs is 0 = 0 := rfl
  have := h.2
  omega
theorem sq2_start {k t x y : Int} {io is : Int → Int} (h : SQ1 k io is t x) (xk : k ≤ x) (hy : y = 0) : SQ2 k io is t y := by
  have e : x = k := by have := h.2.2.1; omega
  refine ⟨h.1, by omega, by have := h.2; omega, ?_⟩
  have z : pxs is 0 = 0 := rfl
  rw [hy, z, ← e, ← h.2.2.2]; omega
theorem sq3_start {k t x y u : Int} {io is : Int → Int} (h : SQ2 k io is t x) (xk : x < k) (hy : y = x + 1) (hu : u = is x) : SQ3 k io is t x y u := ⟨h, by omega, by omega, by rw [pxs_succ h.2.1 hy, hu]; omega⟩
theorem sq3_step {k t x y u y' u' v : Int} {io is : Int → Int} (h : SQ3 k io is t x y u) (yk : y < k) (hv : v = is y) (hy : y' = y + 1) (hu : u' = u + v) : SQ3 k io is t x y' u' := by
  have a := h.1.2.1
  have b := h.2
  refine ⟨h.1, by omega, by omega, ?_⟩
  rw [pxs_succ (by omega) hy]; omega
theorem sq3_bd {k t x y u : Int} {io is : Int → Int} (h : SQ3 k io is t x y u) (k4 : k ≤ 40) : 1 ≤ u ∧ u ≤ t ∧ t ≤ 96000 := by
  have a := h.1.2
  have b := h.2
  have q := pxs_grow h.1.1 (y - x).toNat x y a.1 (by omega) b.2.1
  have p := pxs_grow h.1.1 (k - y).toNat y k (by omega) (by omega) (by omega)
  have s := pxs_grow h.1.1 (k - x).toNat x k (by omega) (by omega) (by omega)
  omega
theorem sq3_next {k t x y u t' x' : Int} {io is : Int → Int} (h : SQ3 k io is t x y u) (ht : t' = t - u) (hx : x' = y) : SQ2 k io is t' x' := by
  have a := h.1.2
  have b := h.2
  exact ⟨h.1.1, by omega, by omega, by rw [hx]; omega⟩
def wiF (A : Int → Int) (r b : Int) : Nat → Int → Int → Prop
  | 0, x, v => (x ≤ 0 ∨ x = b) ∧ v = if x = b then 1 else 0
  | n + 1, x, v => (0 < x ∧ x ≠ b) ∧ wiF A r b n (A (r + 531 + x)) v
def Wi (A : Int → Int) (r b x v : Int) : Prop := ∃ n, wiF A r b n x v
theorem wi_stop {A : Int → Int} {r b x v : Int} (h : x ≤ 0 ∨ x = b) (hv : v = if x = b then 1 else 0) : Wi A r b x v := ⟨0, h, hv⟩
theorem wi_step {A : Int → Int} {r b x v : Int} (x0 : 0 < x) (xb : x ≠ b) (h : Wi A r b (A (r + 531 + x)) v) : Wi A r b x v := by
  obtain ⟨n, h⟩ := h
  exact ⟨n + 1, ⟨x0, xb⟩, h⟩
theorem wi_det1 {A : Int → Int} {r b : Int} (n : Nat) : ∀ m x v w, wiF A r b n x v → wiF A r b m x w → v = w := by
  induction n with
  | zero =>
    intro m x v w h1 h2
    cases m with
    | zero => rw [h1.2, h2.2]
    | succ m => have a := h1.1; have c := h2.1; omega
  | succ n ih =>
    intro m x v w h1 h2
    cases m with
    | zero => have a := h1.1; have c := h2.1; omega
    | succ m => exact ih m _ v w h1.2 h2.2
theorem wi_det {A : Int → Int} {r b x v : Int} (h1 : Wi A r b x v) : ∀ w, Wi A r b x w → v = w := by
  intro w h2
  obtain ⟨n, h1⟩ := h1
  obtain ⟨m, h2⟩ := h2
  exact wi_det1 n m x v w h1 h2
def WI1 (r : Int) (A : Int → Int) (a b x : Int) : Prop := ∀ v, Wi A r b x v → Wi A r b a v
def WIN (r : Int) (A : Int → Int) (a b v : Int) : Prop := Wi A r b a v
theorem wi1_start {r a b x : Int} {A : Int → Int} (e : x = a) : WI1 r A a b x := fun v h => by rw [← e]; exact h
theorem wi1_step {r a b x y p : Int} {A : Int → Int} (h : WI1 r A a b x) (x0 : 0 < x) (xb : x ≠ b) (hp : p = r + 531 + x) (hy : y = A p) : WI1 r A a b y := fun v q => h v (wi_step x0 xb (by rw [← hp, ← hy]; exact q))
theorem win_end {r a b x v : Int} {A : Int → Int} (h : WI1 r A a b x) (hx : x ≤ 0 ∨ x = b) (hv : (x = b ∧ v = 1) ∨ (x ≠ b ∧ v = 0)) : WIN r A a b v := h v (wi_stop hx (by rcases hv with ⟨p, q⟩ | ⟨p, q⟩; rw [if_pos p, q]; rw [if_neg p, q]))
def Sgs (A : Int → Int) (r g : Int) : Nat → Int → Prop
  | 0, s => s = 0
  | n + 1, s => ∃ s0 w t, Sgs A r g n s0 ∧ Wi A r g (A (r + 243 + (n : Int))) w ∧ (t = if w = 0 then 0 else A (r + 219 + (n : Int))) ∧ s = s0 + t
theorem sgs_det {A : Int → Int} {r g : Int} (n : Nat) : ∀ s t, Sgs A r g n s → Sgs A r g n t → s = t := by
  induction n with
  | zero => intro s t h1 h2; rw [show s = 0 from h1, show t = 0 from h2]
  | succ n ih =>
    intro s t h1 h2
    obtain ⟨s0, w, u, a1, a2, a3, a4⟩ := h1
    obtain ⟨s0', w', u', b1, b2, b3, b4⟩ := h2
    rw [a4, b4, ih _ _ a1 b1, a3, b3, wi_det a2 _ b2]
def SO1 (r : Int) (A : Int → Int) (g n s : Int) : Prop := 0 ≤ n ∧ Sgs A r g n.toNat s
def SOG (r : Int) (A : Int → Int) (g s : Int) : Prop := Sgs A r g (A r).toNat s
theorem so1_start {r g n s : Int} {A : Int → Int} (hn : n = 0) (hs : s = 0) : SO1 r A g n s := ⟨by omega, by rw [hn, hs]; rfl⟩
theorem so1_step {r g n s n' s' a w t : Int} {A : Int → Int} (h : SO1 r A g n s) (hn : n' = n + 1) (ha : a = A (r + 243 + n)) (hw : WIN r A a g w) (ht : (w = 0 ∧ t = 0) ∨ (w ≠ 0 ∧ t = A (r + 219 + n))) (hs : s' = s + t) : SO1 r A g n' s' := by
  refine ⟨by have := h.1; omega, ?_⟩
  have e : ((n.toNat : Nat) : Int) = n := by have := h.1; omega
  rw [hn, hs, show (n + 1).toNat = n.toNat + 1 by have := h.1; omega]
  refine ⟨s, w, t, h.2, by rw [e, ← ha]; exact hw, ?_, rfl⟩
  rw [e]
  rcases ht with ⟨p, q⟩ | ⟨p, q⟩
  · rw [if_pos p, q]
  · rw [if_neg p, q]
theorem so1_end {r g n s : Int} {A : Int → Int} (h : SO1 r A g n s) (h1 : n = A r) : SOG r A g s := by
  unfold SOG; rw [← h1]; exact h.2
theorem sog_det {r g s t : Int} {A : Int → Int} (h1 : SOG r A g s) (h2 : SOG r A g t) : s = t := sgs_det _ _ _ h1 h2
