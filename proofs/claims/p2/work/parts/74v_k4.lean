/-! augment: a flood with a way back -/
def AU0 (cb : Int → Int) (k : Int) : Prop := ∀ v, 0 ≤ v → v < k → cb v = -1
theorem au0_step {cb cb' : Int → Int} {k k' p v : Int} (h : AU0 cb k) (hk : k' = k + 1) (hs : st1 cb cb' p v) (hp : p = k) (hv : v = -1) : AU0 cb' k' := by
  intro x a b
  by_cases q : x = k
  · rw [(hs x a).1 (by omega), hv]
  · rw [(hs x a).2 (by omega)]; exact h x a (by omega)
def AU1 (q cb : Int → Int) (n s m : Int) : Prop := (1 ≤ m ∧ 0 ≤ s ∧ s < n ∧ n ≤ 78) ∧ (q 0 = s ∧ cb s = s) ∧ (∀ k, 0 ≤ k → k < m → 0 ≤ q k ∧ q k < n) ∧ (∀ j k, 0 ≤ j → j < k → k < m → q j ≠ q k) ∧ (∀ k, 1 ≤ k → k < m → ∃ j, 0 ≤ j ∧ j < k ∧ cb (q k) = q j) ∧ ∀ v, 0 ≤ v → v < n → 0 ≤ cb v → ∃ k, 0 ≤ k ∧ k < m ∧ q k = v
def AU2 (q cb : Int → Int) (n s m u : Int) : Prop := AU1 q cb n s m ∧ ∃ j, 0 ≤ j ∧ j < m ∧ q j = u
def AUW (q cb : Int → Int) (n s m x g : Int) : Prop := AU1 q cb n s m ∧ ∃ k, 0 ≤ k ∧ k ≤ g ∧ k < m ∧ q k = x
theorem cnl_ones (k : Nat) : cnl (fun _ => 1) k ≤ k := by
  induction k with
  | zero => simp [cnl]
  | succ k ih => unfold cnl; split <;> (push_cast; omega)
theorem pigeon {q : Int → Int} {n m : Int} (n0 : 0 ≤ n) (h1 : ∀ k, 0 ≤ k → k < m → 0 ≤ q k ∧ q k < n) (h2 : ∀ j k, 0 ≤ j → j < k → k < m → q j ≠ q k) : m ≤ n := by
  by_cases z : m ≤ 0
  · omega
  · have := cnl_list (mb := q) n.toNat m.toNat (fun _ => 1) (fun s t a b c => h2 s t a b (by omega)) (fun t a b => by
      have := h1 t a (by omega); exact ⟨this.1, by omega, by omega⟩)
    have := cnl_ones n.toNat
    omega
theorem au1_start {q q' cb cb' : Int → Int} {n s m k p v i w : Int} (h : AU0 cb k) (hk : n ≤ k) (s0 : 0 ≤ s) (s1 : s < n) (n78 : n ≤ 78) (hs : st1 cb cb' p v) (hp : p = s) (hv : v = s) (ht : st1 q q' i w) (hi : i = 0) (hw : w = s) (hm : m = 1) : AU1 q' cb' n s m := by
  have q0 : q' 0 = s := by rw [(ht 0 (by omega)).1 hi.symm, hw]
  refine ⟨by omega, ⟨q0, by rw [(hs s s0).1 hp.symm, hv]⟩, fun k a b => ?_, fun j k a b c => by omega, fun k a b => by omega, fun v a b c => ?_⟩
  · rw [show k = 0 by omega, q0]; omega
  · by_cases z : v = s
    · exact ⟨0, by omega, by omega, by rw [q0, z]⟩
    · rw [(hs v a).2 (by omega)] at c; have := h v a (by omega); omega
theorem au1_in {q cb : Int → Int} {n s m k : Int} (h : AU1 q cb n s m) (k0 : 0 ≤ k) (k1 : k < m) : 0 ≤ cb (q k) := by
  obtain ⟨h1, h2, h3, h4, h5, h6⟩ := h
  by_cases z : k = 0
  · rw [z, h2.1, h2.2]; omega
  · obtain ⟨j, j0, j1, j2⟩ := h5 k (by omega) k1
    rw [j2]; exact (h3 j j0 (by omega)).1
theorem au1_room {q cb : Int → Int} {n s m v : Int} (h : AU1 q cb n s m) (v0 : 0 ≤ v) (v1 : v < n) (hv : cb v < 0) : m + 1 ≤ n := by
  obtain ⟨h1, h2, h3, h4, h5, h6⟩ := h
  have hn : ∀ k, 0 ≤ k → k < m → q k ≠ v := fun k a b e => by
    have := au1_in ⟨h1, h2, h3, h4, h5, h6⟩ a b; rw [e] at this; omega
  refine pigeon (q := fun k => if k = m then v else q k) (by omega) (fun k a b => ?_) (fun j k a b c => ?_)
  · split
    · omega
    · exact h3 k a (by omega)
  · rw [if_neg (show ¬ j = m by omega)]
    by_cases z : k = m
    · rw [if_pos z]; exact hn j a (by omega)
    · rw [if_neg z]; exact h4 j k a b (by omega)
theorem au1_len {q cb : Int → Int} {n s m : Int} (h : AU1 q cb n s m) : 1 ≤ m ∧ m ≤ n ∧ n ≤ 78 := by
  have := pigeon (q := q) (n := n) (m := m) (by have := h.1; omega) h.2.2.1 h.2.2.2.1
  have := h.1; omega
theorem au2_start {q cb : Int → Int} {n s m k u : Int} (h : AU1 q cb n s m) (k0 : 0 ≤ k) (k1 : k < m) (hu : u = q k) : AU2 q cb n s m u := ⟨h, k, k0, k1, hu.symm⟩
theorem au2_step {q q' cb cb' : Int → Int} {n s m m' u p v i w : Int} (h : AU2 q cb n s m u) (hm : m' = m + 1) (p0 : 0 ≤ p) (p1 : p < n) (hc : cb p < 0) (hs : st1 cb cb' p v) (hv : v = u) (ht : st1 q q' i w) (hi : i = m) (hw : w = p) : AU2 q' cb' n s m' u := by
  obtain ⟨h0, a, a0, a1, a2⟩ := h
  have hn : ∀ k, 0 ≤ k → k < m → q k ≠ p := fun k x y e => by
    have := au1_in h0 x y; rw [e] at this; omega
  obtain ⟨h1, h2, h3, h4, h5, h6⟩ := h0
  have eq : ∀ k, 0 ≤ k → k < m → q' k = q k := fun k x y => (ht k x).2 (by omega)
  have em : q' m = p := by rw [(ht m (by omega)).1 hi.symm, hw]
  have ec : ∀ k, 0 ≤ k → k < m → cb' (q k) = cb (q k) := fun k x y => (hs _ (h3 k x y).1).2 (hn k x y)
  have sp : s ≠ p := fun e => by have := hn 0 (by omega) (by omega); rw [h2.1] at this; exact this e
  refine ⟨⟨by omega, ⟨by rw [eq 0 (by omega) (by omega)]; exact h2.1, by rw [(hs s (by omega)).2 sp]; exact h2.2⟩, fun k x y => ?_, fun j k x y z => ?_, fun k x y => ?_, fun x x0 x1 hx => ?_⟩, a, a0, by omega, by rw [eq a a0 a1]; exact a2⟩
  · by_cases z : k = m
    · rw [z, em]; omega
    · rw [eq k x (by omega)]; exact h3 k x (by omega)
  · rw [eq j x (by omega)]
    by_cases e : k = m
    · rw [e, em]; exact hn j x (by omega)
    · rw [eq k (by omega) (by omega)]; exact h4 j k x y (by omega)
  · by_cases e : k = m
    · exact ⟨a, a0, by omega, by rw [e, em, (hs p p0).1 rfl, hv, eq a a0 a1, a2]⟩
    · obtain ⟨j, j0, j1, j2⟩ := h5 k x (by omega)
      exact ⟨j, j0, j1, by rw [eq k (by omega) (by omega), ec k (by omega) (by omega), eq j j0 (by omega)]; exact j2⟩
  · by_cases e : x = p
    · exact ⟨m, by omega, by omega, by rw [em, e]⟩
    · rw [(hs x x0).2 e] at hx
      obtain ⟨k, k0, k1, k2⟩ := h6 x x0 x1 hx
      exact ⟨k, k0, by omega, by rw [eq k k0 k1]; exact k2⟩
theorem auw_start {q cb : Int → Int} {n s m x g : Int} (h : AU1 q cb n s m) (x0 : 0 ≤ x) (x1 : x < n) (hx : 0 ≤ cb x) (hg : 80 ≤ g) : AUW q cb n s m x g := by
  obtain ⟨k, k0, k1, k2⟩ := h.2.2.2.2.2 x x0 x1 hx
  exact ⟨h, k, k0, by have := au1_len h; omega, k1, k2⟩
theorem auw_step {q cb : Int → Int} {n s m x y g g' : Int} (h : AUW q cb n s m x g) (hx : x ≠ s) (hy : y = cb x) (hg : g ≤ g' + 1) : AUW q cb n s m y g' ∧ 0 ≤ y ∧ y ≤ 77 ∧ 1 ≤ g := by
  obtain ⟨h0, k, k0, kg, k1, k2⟩ := h
  have hk : k ≠ 0 := fun e => hx (by rw [← k2, e]; exact h0.2.1.1)
  obtain ⟨j, j0, j1, j2⟩ := h0.2.2.2.2.1 k (by omega) k1
  rw [k2] at j2
  have := h0.2.2.1 j j0 (by omega)
  have := h0.1
  rw [hy, j2]
  exact ⟨⟨h0, j, j0, by omega, by omega, rfl⟩, by omega, by omega, by omega⟩
theorem au_idx {a b c p i : Int} (hi : i = p + c) (hp : p = a * b) (a0 : 0 ≤ a) (a1 : a ≤ 78) (b0 : 0 ≤ b) (b1 : b ≤ 77) (c0 : 0 ≤ c) (c1 : c ≤ 77) : 0 ≤ i ∧ i ≤ 6083 := by
  have h1 := Int.mul_nonneg a0 b0
  have h2 : a * b ≤ 78 * 77 := Int.mul_le_mul a1 b1 b0 (by omega)
  omega
theorem auw_bd {q cb : Int → Int} {n s m x g : Int} (h : AUW q cb n s m x g) : 0 ≤ x ∧ x ≤ 77 := by
  obtain ⟨h0, k, k0, kg, k1, k2⟩ := h
  have := h0.2.2.1 k k0 k1
  have := h0.1
  omega
theorem auw_of {q cb : Int → Int} {n s m x g : Int} (h : AU2 q cb n s m x) (hg : 80 ≤ g) : AUW q cb n s m x g := by
  obtain ⟨h0, k, k0, k1, k2⟩ := h
  exact ⟨h0, k, k0, by have := au1_len h0; omega, k1, k2⟩
theorem au2_of {q cb : Int → Int} {n s m x : Int} (h : AU1 q cb n s m) (x0 : 0 ≤ x) (x1 : x < n) (hx : 0 ≤ cb x) : AU2 q cb n s m x := by
  obtain ⟨k, k0, k1, k2⟩ := h.2.2.2.2.2 x x0 x1 hx
  exact ⟨h, k, k0, k1, k2⟩
def AUX (q cb : Int → Int) (n s m x g : Int) : Prop := AUW q cb n s m x (g - 1)
