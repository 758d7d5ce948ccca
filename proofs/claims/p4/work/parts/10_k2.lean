/-! greedyOrder -/
def cnl (f : Int → Int) : Nat → Int
  | 0 => 0
  | k + 1 => cnl f k + if f (k : Int) ≠ 0 then 1 else 0
theorem cnl_same {f g : Int → Int} (k : Nat) (h : ∀ j : Int, 0 ≤ j → j < k → g j = f j) : cnl g k = cnl f k := by
  induction k with
  | zero => rfl
  | succ k ih =>
    unfold cnl
    rw [ih (fun j a b => h j a (by push_cast; omega)), h k (by omega) (by push_cast; omega)]
theorem cnl_zero {f g : Int → Int} (k : Nat) {x : Int} (x0 : 0 ≤ x) (x1 : x < k) (hf : f x ≠ 0) (hg : g x = 0) (h : ∀ j : Int, 0 ≤ j → j ≠ x → g j = f j) : cnl g k + 1 = cnl f k := by
  induction k with
  | zero => exact absurd x1 (by push_cast; omega)
  | succ k ih =>
    unfold cnl
    by_cases z : x = k
    · rw [cnl_same (f := f) (g := g) k (fun j a b => h j a (by omega)), if_neg (show ¬ g (k : Int) ≠ 0 from fun y => y (z ▸ hg)), if_pos (show f (k : Int) ≠ 0 from z ▸ hf)]; omega
    · have := ih (by push_cast at x1; omega)
      rw [h k (by omega) (fun y => z y.symm)]; omega
theorem cnl_ex {f : Int → Int} (k : Nat) (h : 1 ≤ cnl f k) : ∃ v : Int, 0 ≤ v ∧ v < k ∧ f v ≠ 0 := by
  induction k with
  | zero => simp [cnl] at h
  | succ k ih =>
    by_cases z : f (k : Int) = 0
    · unfold cnl at h
      rw [if_neg (fun y => y z)] at h
      obtain ⟨v, a, b, c⟩ := ih (by omega)
      exact ⟨v, a, by push_cast; omega, c⟩
    · exact ⟨k, by omega, by push_cast; omega, z⟩
theorem cnl_nn (f : Int → Int) (k : Nat) : 0 ≤ cnl f k := by
  induction k with
  | zero => simp [cnl]
  | succ k ih => unfold cnl; split <;> omega
theorem cnl_list {mb : Int → Int} (n : Nat) (k : Nat) : ∀ f : Int → Int, (∀ s t : Int, 0 ≤ s → s < t → t < k → mb s ≠ mb t) → (∀ t : Int, 0 ≤ t → t < k → 0 ≤ mb t ∧ mb t < n ∧ f (mb t) ≠ 0) → (k : Int) ≤ cnl f n := by
  induction k with
  | zero => intro f _ _; have := cnl_nn f n; push_cast; omega
  | succ k ih =>
    intro f h1 h2
    have hk := h2 k (by omega) (by push_cast; omega)
    have i1 := ih (fun j => if j = mb k then 0 else f j) (fun s t a b c => h1 s t a b (by push_cast; omega)) (fun t a b => by
      have := h2 t a (by push_cast; omega)
      refine ⟨this.1, this.2.1, ?_⟩
      rw [if_neg (h1 t k a b (by push_cast; omega))]; exact this.2.2)
    have := cnl_zero (f := f) (g := fun j => if j = mb k then 0 else f j) n hk.1 hk.2.1 hk.2.2 (if_pos rfl) (fun j _ b => if_neg b)
    push_cast; omega
def MBN (n r : Int) (mb A : Int → Int) : Prop := (∀ s t, 0 ≤ s → s < t → t < n → mb s ≠ mb t) ∧ ∀ s, 0 ≤ s → s < n → 0 ≤ mb s ∧ mb s < A r
def ISL (n : Int) (mb : Int → Int) (v k : Int) : Prop := ∀ t, 0 ≤ t → t < k → mb t ≠ v
def ISM (n : Int) (mb : Int → Int) (v z : Int) : Prop := (∃ t, 0 ≤ t ∧ t < n ∧ mb t = v) → z ≠ 0
theorem isl_next {n : Int} {mb : Int → Int} {v k k' : Int} (h : ISL n mb v k) (hk : k' = k + 1) (hn : mb k ≠ v) : ISL n mb v k' := by
  intro t a b
  by_cases q : t = k
  · rw [q]; exact hn
  · exact h t a (by omega)
def LMB (n : Int) (lf mb : Int → Int) (k : Int) : Prop := ∀ t, 0 ≤ t → t < n → mb t < k → lf (mb t) ≠ 0
theorem lmb_step {n r k k' q v z : Int} {lf lf' mb A : Int → Int} (h : LMB n lf mb k) (hk : k' = k + 1) (hm : MBN n r mb A) (hs : st1 lf lf' q v) (hq : q = k) (hi : ISM n mb k z) (hv : v = z) : LMB n lf' mb k' := by
  intro t a b c
  by_cases y : mb t = k
  · rw [(hs _ (hm.2 t a b).1).1 (by omega), hv]; exact hi ⟨t, a, b, y⟩
  · rw [(hs _ (hm.2 t a b).1).2 (by omega)]; exact h t a b (by omega)
def GL1 (r : Int) (A lf : Int → Int) (a b : Int) : Prop := b + 1 ≤ cnl lf (A r).toNat + a
def GL2 (r : Int) (A lf : Int → Int) (x k : Int) : Prop := (0 ≤ x ∧ lf x ≠ 0 ∧ x < A r) ∨ (x < 0 ∧ ∀ v, 0 ≤ v → v < k → lf v = 0)
def GL3 (r : Int) (A lf : Int → Int) (x : Int) : Prop := x < 0 ∨ (lf x ≠ 0 ∧ x < A r)
theorem gl1_start {n r a b k : Int} {A lf mb : Int → Int} (n0 : 0 ≤ n) (hM : MBN n r mb A) (hL : LMB n lf mb k) (hk : A r ≤ k) (ha : a = 0) (hb : b = n - 1) : GL1 r A lf a b := by
  have := cnl_list (mb := mb) (A r).toNat n.toNat lf (fun s t x y z => hM.1 s t x y (by omega)) (fun t x y => by
    have h1 := hM.2 t x (by omega)
    exact ⟨h1.1, by omega, hL t x (by omega) (by omega)⟩)
  unfold GL1; omega
theorem gl1_ex {r a b x k : Int} {A lf : Int → Int} (h : GL1 r A lf a b) (hab : a ≤ b) (h2 : GL2 r A lf x k) (hk : A r ≤ k) : 0 ≤ x ∧ lf x ≠ 0 ∧ x < A r := by
  rcases h2 with q | q
  · exact q
  · exfalso
    unfold GL1 at h
    obtain ⟨v, v0, v1, v2⟩ := cnl_ex (f := lf) (A r).toNat (by omega)
    exact v2 (q.2 v v0 (by omega))
theorem gl1_step {r a b a' b' x q v : Int} {A lf lf' : Int → Int} (h : GL1 r A lf a b) (hx : 0 ≤ x ∧ lf x ≠ 0 ∧ x < A r) (hs : st1 lf lf' q v) (hq : q = x) (hv : v = 0) (hab : b' - a' = b - a - 1) : GL1 r A lf' a' b' := by
  have := cnl_zero (f := lf) (g := lf') (A r).toNat hx.1 (by omega) hx.2.1 (by rw [(hs x hx.1).1 hq.symm, hv]) (fun j a b => (hs j a).2 (by omega))
  unfold GL1 at h ⊢; omega
theorem gl3_of {r x : Int} {A lf : Int → Int} (h : GL3 r A lf x) (x0 : 0 ≤ x) : 0 ≤ x ∧ lf x ≠ 0 ∧ x < A r := by
  rcases h with q | q
  · omega
  · exact ⟨x0, q⟩
theorem gl2_skip {r x k k' : Int} {A lf : Int → Int} (h : GL2 r A lf x k) (hk : k' = k + 1) (hl : 0 ≤ x ∨ lf k = 0) : GL2 r A lf x k' := by
  rcases h with q | q
  · exact Or.inl q
  · refine Or.inr ⟨q.1, fun v a b => ?_⟩
    by_cases z : v = k
    · rw [z]; rcases hl with y | y
      · omega
      · exact y
    · exact q.2 v a (by omega)
theorem mbn_take {n n' r i p v : Int} {mb mb' A : Int → Int} (h : MBN n r mb A) (h' : MBI n mb i) (n0 : 0 ≤ n) (hs : st1 mb mb' p v) (hp : p = n) (hv : v = i) (i0 : 0 ≤ i) (hi : i < A r) (hn : n' = n + 1) : MBN n' r mb' A := by
  refine ⟨(mbi_take h' n0 hs hp hv hn rfl).1, fun s a b => ?_⟩
  by_cases q : s = n
  · rw [(hs s a).1 (by omega)]; omega
  · rw [(hs s a).2 (by omega)]; exact h.2 s a (by omega)
