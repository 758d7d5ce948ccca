/-! split: a face cut in two by a way -/
def dA (m : Int) (pt ph al bl dE : Int → Int) (b : Int) (u v : Int) : Prop := ∃ e, JJ m pt ph al e u v ∧ bl e = b ∧ dE e ≠ 0
def rwf (face : Int → Int) (f k : Int) : Int := face (60 * f + k)
def FI (m faces : Int) (pt ph al bl dE fm face : Int → Int) (b : Int) : Prop := ∃ nx ρ, FIX (dA m pt ph al bl dE b) nx ρ faces fm (rwf face)
def czf (faces m : Int) (dE : Int → Int) : Prop := 2 ≤ faces ∧ faces + cz dE m ≤ 82
def wy2 (A : pa_T) (n wm : Int) (way : Int → Int) (Z : Prop) : Prop := 2 ≤ wm ∧ wm ≤ n ∧ (∀ i, 0 ≤ i → i < wm → 0 ≤ way i ∧ way i < n) ∧ (∀ i j, 0 ≤ i → i < j → j < wm → way i ≠ way j) ∧ (∀ i, 1 ≤ i → i + 2 ≤ wm → ∀ u, ¬ A u (way i)) ∧ (wm = 2 → ¬ A (way 0) (way 1)) ∧ Z
def SPR (n m faces wm : Int) (pt ph al bl dE fm face way : Int → Int) (b f : Int) : Prop := GOK n m pt ph ∧ FI m faces pt ph al bl dE fm face b ∧ 0 ≤ f ∧ f < faces ∧ wy2 (dA m pt ph al bl dE b) n wm way (czf faces m dE) ∧ (∃ k, 0 ≤ k ∧ k < fm f ∧ rwf face f k = way 0) ∧ ∃ k, 0 ≤ k ∧ k < fm f ∧ rwf face f k = way (wm - 1)
theorem row_len {n m : Int} {pt ph al bl dE : Int → Int} {b : Int} {nx : Int → Int → Int} {L : Int} {r : Int → Int} (hg : GOK n m pt ph) (h : RW (dA m pt ph al bl dE b) nx L r) : 3 ≤ L ∧ L ≤ n := by
  refine ⟨h.1, ?_⟩
  have hn : 0 ≤ n := by
    obtain ⟨e, j, _⟩ := (h.2.1 0 (by omega) (by have := h.1; omega)).1
    have := JJ_rng hg j; omega
  have rg : ∀ k, 0 ≤ k → k < L → 0 ≤ r k ∧ r k < n := fun k k0 k1 => by
    obtain ⟨e, j, _⟩ := (h.2.1 k k0 k1).1
    have := JJ_rng hg j; omega
  have := php L.toNat n.toNat (fun t => (r t).toNat) (fun t ht => by have := rg t (by omega) (by omega); show (r t).toNat < n.toNat; omega) (fun s t hs ht e => by
    have e' : (r s).toNat = (r t).toNat := e
    have a1 := rg s (by omega) (by omega)
    have a2 := rg t (by omega) (by omega)
    rcases Nat.lt_trichotomy s t with q | q | q
    · exact absurd (by omega) (h.2.2 s t (by omega) (by omega) (by omega))
    · exact q
    · exact absurd (by omega) (h.2.2 t s (by omega) (by omega) (by omega)))
  have := h.1
  omega
theorem spr_len {n m faces wm : Int} {pt ph al bl dE fm face way : Int → Int} {b f : Int} (h : SPR n m faces wm pt ph al bl dE fm face way b f) : 3 ≤ fm f ∧ fm f ≤ n ∧ 2 ≤ wm ∧ wm ≤ n := by
  obtain ⟨hg, ⟨nx, ρ, hF⟩, f0, f1, hw, _⟩ := h
  have := row_len hg (hF.2.2.1 f f0 f1)
  exact ⟨this.1, this.2, hw.1, hw.2.1⟩
def S1 (n m faces wm : Int) (pt ph al bl dE fm face way : Int → Int) (b f a : Int) : Prop := SPR n m faces wm pt ph al bl dE fm face way b f ∧ ∀ j, 0 ≤ j → j < a → rwf face f j ≠ way 0
theorem s1_lt {n m faces wm : Int} {pt ph al bl dE fm face way : Int → Int} {b f a : Int} (h : S1 n m faces wm pt ph al bl dE fm face way b f a) : a < fm f := by
  obtain ⟨⟨_, _, _, _, _, ⟨k, k0, k1, k2⟩, _⟩, h2⟩ := h
  exact Classical.byContradiction (fun z => h2 k k0 (by omega) k2)
theorem s1_next {n m faces wm : Int} {pt ph al bl dE fm face way : Int → Int} {b f a a' : Int} (h : S1 n m faces wm pt ph al bl dE fm face way b f a) (ha : a' = a + 1) (hn : rwf face f a ≠ way 0) : S1 n m faces wm pt ph al bl dE fm face way b f a' := by
  refine ⟨h.1, fun j j0 j1 => ?_⟩
  by_cases q : j = a
  · rw [q]; exact hn
  · exact h.2 j j0 (by omega)
def S2 (n m faces wm : Int) (pt ph al bl dE fm face way line : Int → Int) (b f a L k : Int) : Prop := SPR n m faces wm pt ph al bl dE fm face way b f ∧ 0 ≤ a ∧ a < L ∧ L = fm f ∧ rwf face f a = way 0 ∧ ∀ j, 0 ≤ j → j < k → line j = rwf face f ((a + j) % L)
theorem emod2 {a j L : Int} (a0 : 0 ≤ a) (a1 : a < L) (j0 : 0 ≤ j) (j1 : j < L) : (a + j) % L = if a + j < L then a + j else a + j - L := by
  split
  · exact Int.emod_eq_of_lt (by omega) (by omega)
  · rw [show a + j = a + j - L + L by omega, Int.add_emod_right]
    rw [Int.emod_eq_of_lt (by omega) (by omega)]; omega
theorem nr_mod {a j L : Int} (a0 : 0 ≤ a) (a1 : a < L) (j0 : 0 ≤ j) (j1 : j < L) : (a + nr L j) % L = nr L ((a + j) % L) := by
  have z := nr_rng j0 j1
  rw [emod2 a0 a1 z.1 z.2, emod2 a0 a1 j0 j1]
  unfold nr
  split <;> split <;> split <;> (try split) <;> omega
/-- a row turned -/
theorem rot_row {A : pa_T} {nx : Int → Int → Int} {L a : Int} {r r' : Int → Int} (h : RW A nx L r) (a0 : 0 ≤ a) (a1 : a < L) (hr : ∀ j, 0 ≤ j → j < L → r' j = r ((a + j) % L)) : RW A nx L r' := by
  obtain ⟨h1, h2, h3⟩ := h
  refine ⟨h1, fun k k0 k1 => ?_, fun k l k0 k1 k2 => ?_⟩
  · have z := nr_rng k0 k1
    have z2 := nr_rng z.1 z.2
    have y : 0 ≤ (a + k) % L ∧ (a + k) % L < L := ⟨Int.emod_nonneg _ (by omega), Int.emod_lt_of_pos _ (by omega)⟩
    rw [hr k k0 k1, hr _ z.1 z.2, hr _ z2.1 z2.2, nr_mod a0 a1 z.1 z.2, nr_mod a0 a1 k0 k1]
    exact h2 _ y.1 y.2
  · rw [hr k k0 (by omega), hr l (by omega) k2, emod2 a0 a1 k0 (by omega), emod2 a0 a1 (by omega) k2]
    split <;> split
    · exact h3 _ _ (by omega) (by omega) (by omega)
    · exact (h3 _ _ (by omega) (by omega) (by omega)).symm
    · omega
    · exact h3 _ _ (by omega) (by omega) (by omega)
def SPL (n m faces wm : Int) (pt ph al bl dE fm face way line : Int → Int) (b f N : Int) : Prop := GOK n m pt ph ∧ (∃ nx ρ L R, FIX (dA m pt ph al bl dE b) nx ρ faces L R ∧ L f = N ∧ (∀ j, 0 ≤ j → j < N → R f j = line j) ∧ ∀ g, 0 ≤ g → g < faces → g ≠ f → L g = fm g ∧ ∀ j, 0 ≤ j → j < L g → R g j = rwf face g j) ∧ 0 ≤ f ∧ f < faces ∧ wy2 (dA m pt ph al bl dE b) n wm way (czf faces m dE) ∧ line 0 = way 0 ∧ ∃ k, 0 ≤ k ∧ k < N ∧ line k = way (wm - 1)
theorem spl_of {n m faces wm : Int} {pt ph al bl dE fm face way line : Int → Int} {b f a N k : Int} (h : S2 n m faces wm pt ph al bl dE fm face way line b f a N k) (hk : N ≤ k) : SPL n m faces wm pt ph al bl dE fm face way line b f N := by
  obtain ⟨⟨hg, ⟨nx, ρ, hF⟩, f0, f1, hw, hx, ⟨kl, kl0, kl1, kl2⟩⟩, a0, a1, hN, ha, hline⟩ := h
  have hl : ∀ j, 0 ≤ j → j < N → line j = rwf face f ((a + j) % N) := fun j j0 j1 => hline j j0 (by omega)
  obtain ⟨m1, m2, m3, m4, m5⟩ := hF
  -- each place of the turned row is a place of the row, and each of the row one of the turned one
  have inv : ∀ k, 0 ≤ k → k < N → ∃ j, 0 ≤ j ∧ j < N ∧ (a + j) % N = k := by
    intro k k0 k1
    by_cases q : a ≤ k
    · exact ⟨k - a, by omega, by omega, by rw [emod2 a0 a1 (by omega) (by omega)]; split <;> omega⟩
    · exact ⟨k - a + N, by omega, by omega, by rw [emod2 a0 a1 (by omega) (by omega)]; split <;> omega⟩
  have md : ∀ j, 0 ≤ (a + j) % N ∧ (a + j) % N < N := fun j => ⟨Int.emod_nonneg _ (by omega), Int.emod_lt_of_pos _ (by omega)⟩
  have hR : ∀ g j, (if g = f then line j else rwf face g j) = if g = f then line j else rwf face g j := fun _ _ => rfl
  refine ⟨hg, ⟨nx, ρ, fm, fun g j => if g = f then line j else rwf face g j, ⟨m1, m2, fun g g0 g1 => ?_, fun u v hA => ?_, fun g k g' l g0 g1 k0 k1 g0' g1' l0 l1 e1 e2 => ?_⟩, hN.symm, fun j j0 j1 => by simp, fun g g0 g1 gf => ⟨rfl, fun j j0 j1 => by simp [gf]⟩⟩, f0, f1, hw, ?_, ?_⟩
  · by_cases q : g = f
    · subst q
      simp only [if_true]
      rw [← hN]
      exact rot_row (by rw [hN]; exact m3 g g0 g1) a0 a1 (fun j j0 j1 => hl j j0 j1)
    · simp only [if_neg q]; exact m3 g g0 g1
  · obtain ⟨g, k, g0, g1, k0, k1, e1, e2⟩ := m4 u v hA
    by_cases q : g = f
    · subst q
      rw [← hN] at k1
      obtain ⟨j, j0, j1, j2⟩ := inv k k0 k1
      have z := nr_rng j0 j1
      refine ⟨g, j, g0, g1, j0, by omega, ?_, ?_⟩
      · simp only [if_true]; rw [hl j j0 j1, j2]; exact e1
      · simp only [if_true]; rw [← hN, hl _ z.1 z.2, nr_mod a0 a1 j0 j1, j2, hN]; exact e2
    · exact ⟨g, k, g0, g1, k0, k1, by simp only [if_neg q]; exact e1, by simp only [if_neg q]; exact e2⟩
  · -- a dart of the new rows is one of the old rows with the same number
    have tr : ∀ g k, 0 ≤ g → g < faces → 0 ≤ k → k < fm g → ∃ k', 0 ≤ k' ∧ k' < fm g ∧ (if g = f then line k else rwf face g k) = rwf face g k' ∧ (if g = f then line (nr (fm g) k) else rwf face g (nr (fm g) k)) = rwf face g (nr (fm g) k') := by
      intro g k g0 g1 k0 k1
      by_cases q : g = f
      · subst q
        rw [← hN] at k1 ⊢
        have z := nr_rng k0 k1
        have y := md k
        refine ⟨(a + k) % N, y.1, y.2, ?_, ?_⟩
        · simp only [if_true]; exact hl k k0 k1
        · simp only [if_true]; rw [hl _ z.1 z.2, nr_mod a0 a1 k0 k1]
      · exact ⟨k, k0, k1, by simp only [if_neg q], by simp only [if_neg q]⟩
    obtain ⟨k', x0, x1, x2, x3⟩ := tr g k g0 g1 k0 k1
    obtain ⟨l', y0, y1, y2, y3⟩ := tr g' l g0' g1' l0 l1
    exact m5 g k' g' l' g0 g1 x0 x1 g0' g1' y0 y1 (x2.symm.trans (e1.trans y2)) (x3.symm.trans (e2.trans y3))
  · rw [hl 0 (by omega) (by omega), show a + 0 = a by omega, Int.emod_eq_of_lt a0 a1]; exact ha
  · rw [← hN] at kl1
    obtain ⟨j, j0, j1, j2⟩ := inv kl kl0 kl1
    exact ⟨j, j0, j1, by rw [hl j j0 j1, j2]; exact kl2⟩
theorem spl_face {n m faces wm : Int} {pt ph al bl dE fm fm' face face' way line : Int → Int} {b f N : Int} (h : SPL n m faces wm pt ph al bl dE fm face way line b f N) (hn : n ≤ 60) (hf : ∀ g j, 0 ≤ g → g < faces → g ≠ f → 0 ≤ j → j < 60 → rwf face' g j = rwf face g j) (hm : ∀ g, 0 ≤ g → g < faces → g ≠ f → fm' g = fm g) : SPL n m faces wm pt ph al bl dE fm' face' way line b f N := by
  obtain ⟨hg, ⟨nx, ρ, L, R, h1, h2, h3, h4⟩, f0, f1, hw, hl⟩ := h
  refine ⟨hg, ⟨nx, ρ, L, R, h1, h2, h3, fun g g0 g1 gf => ⟨by rw [hm g g0 g1 gf]; exact (h4 g g0 g1 gf).1, fun j j0 j1 => ?_⟩⟩, f0, f1, hw, hl⟩
  have := row_len hg (h1.2.2.1 g g0 g1)
  rw [hf g j g0 g1 gf j0 (by omega)]; exact (h4 g g0 g1 gf).2 j j0 j1
theorem spl_len {n m faces wm : Int} {pt ph al bl dE fm face way line : Int → Int} {b f N : Int} (h : SPL n m faces wm pt ph al bl dE fm face way line b f N) : 3 ≤ N ∧ N ≤ n ∧ 2 ≤ wm ∧ wm ≤ n := by
  obtain ⟨hg, ⟨nx, ρ, L, R, h1, h2, _⟩, f0, f1, hw, _⟩ := h
  have := row_len hg (h1.2.2.1 f f0 f1)
  rw [h2] at this
  exact ⟨this.1, this.2, hw.1, hw.2.1⟩
def S3 (n m faces wm : Int) (pt ph al bl dE fm face way line : Int → Int) (b f N c : Int) : Prop := SPL n m faces wm pt ph al bl dE fm face way line b f N ∧ ∀ j, 0 ≤ j → j < c → line j ≠ way (wm - 1)
theorem s3_lt {n m faces wm : Int} {pt ph al bl dE fm face way line : Int → Int} {b f N c : Int} (h : S3 n m faces wm pt ph al bl dE fm face way line b f N c) : c < N := by
  obtain ⟨⟨_, _, _, _, _, _, ⟨k, k0, k1, k2⟩⟩, h2⟩ := h
  exact Classical.byContradiction (fun z => h2 k k0 (by omega) k2)
theorem s3_next {n m faces wm : Int} {pt ph al bl dE fm face way line : Int → Int} {b f N c c' : Int} (h : S3 n m faces wm pt ph al bl dE fm face way line b f N c) (hc : c' = c + 1) (hn : line c ≠ way (wm - 1)) : S3 n m faces wm pt ph al bl dE fm face way line b f N c' := by
  refine ⟨h.1, fun j j0 j1 => ?_⟩
  by_cases q : j = c
  · rw [q]; exact hn
  · exact h.2 j j0 (by omega)
def SPB (n m faces wm : Int) (pt ph al bl dE fm face way line : Int → Int) (b f N B : Int) : Prop := SPL n m faces wm pt ph al bl dE fm face way line b f N ∧ 0 < B ∧ B < N ∧ line B = way (wm - 1)
theorem spb_of {n m faces wm : Int} {pt ph al bl dE fm face way line : Int → Int} {b f N c : Int} (h : S3 n m faces wm pt ph al bl dE fm face way line b f N c) (c0 : 0 ≤ c) (hc : line c = way (wm - 1)) : SPB n m faces wm pt ph al bl dE fm face way line b f N c := by
  have := s3_lt h
  refine ⟨h.1, ?_, this, hc⟩
  obtain ⟨⟨_, _, _, _, hw, hl, _⟩, _⟩ := h
  have h2 := hw.1
  by_cases q : c = 0
  · rw [q, hl] at hc; exact absurd hc (hw.2.2.2.1 0 (wm - 1) (by omega) (by omega) (by omega))
  · omega
def S4 (n m faces wm : Int) (pt ph al bl dE fm face way line : Int → Int) (b f N B k : Int) : Prop := SPB n m faces wm pt ph al bl dE fm face way line b f N B ∧ ∀ j, 0 ≤ j → j < k → rwf face f j = line j
def S5 (n m faces wm : Int) (pt ph al bl dE fm face way line : Int → Int) (b f N B mm k : Int) : Prop := SPB n m faces wm pt ph al bl dE fm face way line b f N B ∧ (∀ j, 0 ≤ j → j ≤ B → rwf face f j = line j) ∧ mm + k = B + wm - 1 ∧ 0 ≤ k ∧ (∀ j, B < j → j < mm → rwf face f j = way (B + wm - 1 - j)) ∧ B < mm
def RR1 (wm : Int) (fm face way line : Int → Int) (f B : Int) : Prop := fm f = B + wm - 1 ∧ (∀ j, 0 ≤ j → j ≤ B → rwf face f j = line j) ∧ ∀ j, B < j → j < B + wm - 1 → rwf face f j = way (B + wm - 1 - j)
def S6 (n m faces wm : Int) (pt ph al bl dE fm face way line : Int → Int) (b f N B mm k : Int) : Prop := SPB n m faces wm pt ph al bl dE fm face way line b f N B ∧ RR1 wm fm face way line f B ∧ mm = k - B ∧ k ≤ N + 1 ∧ ∀ j, 0 ≤ j → j < mm → rwf face faces j = line ((B + j) % N)
def S7 (n m faces wm : Int) (pt ph al bl dE fm face way line : Int → Int) (b f N B mm k : Int) : Prop := SPB n m faces wm pt ph al bl dE fm face way line b f N B ∧ RR1 wm fm face way line f B ∧ mm = N - B + k ∧ 1 ≤ k ∧ k ≤ wm - 1 ∧ (∀ j, 0 ≤ j → j ≤ N - B → rwf face faces j = line ((B + j) % N)) ∧ ∀ j, N - B < j → j < mm → rwf face faces j = way (j - (N - B))
def SPQ (m faces wm : Int) (pt ph al bl dE fm face way : Int → Int) (b : Int) : Prop := (∃ nx ρ, FIX (piA (dA m pt ph al bl dE b) way (wm - 2)) nx ρ faces fm (rwf face)) ∧ 2 ≤ faces ∧ faces + cz dE m ≤ 83
theorem spb_face {n m faces wm : Int} {pt ph al bl dE fm fm' face face' way line : Int → Int} {b f N B : Int} (h : SPB n m faces wm pt ph al bl dE fm face way line b f N B) (hn : n ≤ 60) (hf : ∀ g j, 0 ≤ g → g < faces → g ≠ f → 0 ≤ j → j < 60 → rwf face' g j = rwf face g j) (hm : ∀ g, 0 ≤ g → g < faces → g ≠ f → fm' g = fm g) : SPB n m faces wm pt ph al bl dE fm' face' way line b f N B := ⟨spl_face h.1 hn hf hm, h.2⟩
/-- one store into the row of faces -/
def st1 (face face' : Int → Int) (i v : Int) : Prop := ∀ j, 0 ≤ j → (j = i → face' j = v) ∧ (j ≠ i → face' j = face j)
theorem st1_row {face face' : Int → Int} {f k v i : Int} (h : st1 face face' i v) (hi : i = 60 * f + k) (f0 : 0 ≤ f) (k0 : 0 ≤ k) (k1 : k < 60) : rwf face' f k = v ∧ (∀ j, 0 ≤ j → j ≠ k → rwf face' f j = rwf face f j) ∧ ∀ g j, 0 ≤ g → g ≠ f → 0 ≤ j → j < 60 → rwf face' g j = rwf face g j := by
  subst hi
  refine ⟨(h _ (by omega)).1 rfl, fun j j0 jk => (h _ (by omega)).2 (by omega), fun g j g0 gf j0 j1 => (h _ (by omega)).2 (by omega)⟩
theorem s4_next {n m faces wm : Int} {pt ph al bl dE fm face face' way line : Int → Int} {b f N B k k' i v : Int} (h : S4 n m faces wm pt ph al bl dE fm face way line b f N B k) (hs : st1 face face' i v) (hn : n ≤ 60) (hi : i = 60 * f + k) (k0 : 0 ≤ k) (k1 : k ≤ B) (hv : v = line k) (hk : k' = k + 1) : S4 n m faces wm pt ph al bl dE fm face' way line b f N B k' := by
  have f0 := h.1.1.2.2.1
  have hl := spl_len h.1.1
  have hB := h.1.2.2.1
  obtain ⟨z1, z2, z3⟩ := st1_row hs hi f0 k0 (by omega)
  refine ⟨spb_face h.1 hn (fun g j g0 _ gf j0 j1 => z3 g j g0 gf j0 j1) (fun _ _ _ _ => rfl), fun j j0 j1 => ?_⟩
  by_cases q : j = k
  · rw [q, z1, hv]
  · rw [z2 j j0 q]; exact h.2 j j0 (by omega)
theorem s5_of {n m faces wm : Int} {pt ph al bl dE fm face way line : Int → Int} {b f N B k mm k2 : Int} (h : S4 n m faces wm pt ph al bl dE fm face way line b f N B k) (hk : B < k) (hm : mm = B + 1) (hk2 : k2 = wm - 2) : S5 n m faces wm pt ph al bl dE fm face way line b f N B mm k2 := by
  have hl := spl_len h.1.1
  exact ⟨h.1, fun j j0 j1 => h.2 j j0 (by omega), by omega, by omega, fun j j0 j1 => by omega, by omega⟩
theorem s5_next {n m faces wm : Int} {pt ph al bl dE fm face face' way line : Int → Int} {b f N B mm mm' k k' i v : Int} (h : S5 n m faces wm pt ph al bl dE fm face way line b f N B mm k) (hs : st1 face face' i v) (hn : n ≤ 25) (hi : i = 60 * f + mm) (m0 : 0 ≤ mm) (k1 : 0 < k) (hv : v = way k) (hk : k' = k - 1) (hm : mm' = mm + 1) : S5 n m faces wm pt ph al bl dE fm face' way line b f N B mm' k' := by
  have f0 := h.1.1.2.2.1
  have hl := spl_len h.1.1
  have hB := h.1.2.2.1
  have h3 := h.2.2.1
  have hb := h.2.2.2.2.2
  obtain ⟨z1, z2, z3⟩ := st1_row hs hi f0 m0 (by omega)
  refine ⟨spb_face h.1 (by omega) (fun g j g0 _ gf j0 j1 => z3 g j g0 gf j0 j1) (fun _ _ _ _ => rfl), fun j j0 j1 => ?_, by omega, by omega, fun j j0 j1 => ?_, by omega⟩
  · rw [z2 j j0 (by omega)]; exact h.2.1 j j0 j1
  · by_cases q : j = mm
    · rw [q, z1, hv]; congr 1; omega
    · rw [z2 j (by have := h.1.2.1; omega) q]; exact h.2.2.2.2.1 j j0 (by omega)
theorem s6_of {n m faces wm : Int} {pt ph al bl dE fm fm' face way line : Int → Int} {b f N B mm k mm' k' i v : Int} (h : S5 n m faces wm pt ph al bl dE fm face way line b f N B mm k) (hk : k ≤ 0) (hn : n ≤ 60) (hs : st1 fm fm' i v) (hi : i = f) (hv : v = mm) (hm : mm' = 0) (hk' : k' = B) : S6 n m faces wm pt ph al bl dE fm' face way line b f N B mm' k' := by
  obtain ⟨h1, h2, h3, h4, h5, _⟩ := h
  have f0 := h1.1.2.2.1
  have hB := h1.2.2.1
  subst hi
  refine ⟨spb_face h1 hn (fun _ _ _ _ _ _ _ => rfl) (fun g g0 _ gf => (hs g g0).2 gf), ⟨by rw [(hs _ f0).1 rfl]; omega, h2, fun j j0 j1 => h5 j j0 (by omega)⟩, by omega, by omega, fun j j0 j1 => by omega⟩
theorem rr1_face {wm : Int} {fm face face' way line : Int → Int} {f B faces mm v i : Int} (h : RR1 wm fm face way line f B) (hs : st1 face face' i v) (hi : i = 60 * faces + mm) (f0 : 0 ≤ f) (f1 : f < faces) (m0 : 0 ≤ mm) (m1 : mm < 60) (hB : 0 < B) (hb : B < 60) (hw : B + wm - 1 ≤ 60) : RR1 wm fm face' way line f B := by
  obtain ⟨z1, z2, z3⟩ := st1_row hs hi (by omega) m0 m1
  exact ⟨h.1, fun j j0 j1 => by rw [z3 f j f0 (by omega) j0 (by omega)]; exact h.2.1 j j0 j1, fun j j0 j1 => by rw [z3 f j f0 (by omega) (by omega) (by omega)]; exact h.2.2 j j0 j1⟩
theorem s6_next {n m faces wm : Int} {pt ph al bl dE fm face face' way line : Int → Int} {b f N B mm mm' k k' i v q : Int} (h : S6 n m faces wm pt ph al bl dE fm face way line b f N B mm k) (hs : st1 face face' i v) (hn : n ≤ 25) (hi : i = 60 * faces + mm) (m0 : 0 ≤ mm) (k1 : k ≤ N) (hv : v = line q) (hq : q = k % N) (hk : k' = k + 1) (hm : mm' = mm + 1) : S6 n m faces wm pt ph al bl dE fm face' way line b f N B mm' k' := by
  obtain ⟨h1, h2, h3, h4, h5⟩ := h
  have f0 := h1.1.2.2.1
  have f1 := h1.1.2.2.2.1
  have hl := spl_len h1.1
  have hB := h1.2.1
  have hB1 := h1.2.2.1
  obtain ⟨z1, z2, z3⟩ := st1_row hs hi (by omega) m0 (by omega)
  refine ⟨spb_face h1 (by omega) (fun g j g0 g1 gf j0 j1 => z3 g j g0 (by omega) j0 j1) (fun _ _ _ _ => rfl), rr1_face h2 hs hi f0 f1 m0 (by omega) hB (by omega) (by omega), by omega, by omega, fun j j0 j1 => ?_⟩
  by_cases c : j = mm
  · rw [c, z1, hv, hq]; congr 2; omega
  · rw [z2 j j0 c]; exact h5 j j0 (by omega)
theorem s7_of {n m faces wm : Int} {pt ph al bl dE fm face way line : Int → Int} {b f N B mm k k' : Int} (h : S6 n m faces wm pt ph al bl dE fm face way line b f N B mm k) (hk : N < k) (hk' : k' = 1) : S7 n m faces wm pt ph al bl dE fm face way line b f N B mm k' := by
  obtain ⟨h1, h2, h3, h4, h5⟩ := h
  have hl := spl_len h1.1
  exact ⟨h1, h2, by omega, by omega, by omega, fun j j0 j1 => h5 j j0 (by omega), fun j j0 j1 => by omega⟩
theorem s7_next {n m faces wm : Int} {pt ph al bl dE fm face face' way line : Int → Int} {b f N B mm mm' k k' i v : Int} (h : S7 n m faces wm pt ph al bl dE fm face way line b f N B mm k) (hs : st1 face face' i v) (hn : n ≤ 25) (hi : i = 60 * faces + mm) (m0 : 0 ≤ mm) (k1 : k + 1 < wm) (hv : v = way k) (hk : k' = k + 1) (hm : mm' = mm + 1) : S7 n m faces wm pt ph al bl dE fm face' way line b f N B mm' k' := by
  obtain ⟨h1, h2, h3, h4, h5, h6, h7⟩ := h
  have f0 := h1.1.2.2.1
  have f1 := h1.1.2.2.2.1
  have hl := spl_len h1.1
  have hB := h1.2.1
  have hB1 := h1.2.2.1
  obtain ⟨z1, z2, z3⟩ := st1_row hs hi (by omega) m0 (by omega)
  refine ⟨spb_face h1 (by omega) (fun g j g0 g1 gf j0 j1 => z3 g j g0 (by omega) j0 j1) (fun _ _ _ _ => rfl), rr1_face h2 hs hi f0 f1 m0 (by omega) hB (by omega) (by omega), by omega, by omega, by omega, fun j j0 j1 => ?_, fun j j0 j1 => ?_⟩
  · rw [z2 j j0 (by omega)]; exact h6 j j0 j1
  · by_cases c : j = mm
    · rw [c, z1, hv]; congr 1; omega
    · rw [z2 j (by omega) c]; exact h7 j j0 (by omega)
theorem spq_of {n m faces wm : Int} {pt ph al bl dE fm fm' face way line : Int → Int} {b f N B mm k i v faces' : Int} (h : S7 n m faces wm pt ph al bl dE fm face way line b f N B mm k) (hk : wm ≤ k + 1) (hs : st1 fm fm' i v) (hi : i = faces) (hv : v = mm) (hF : faces' = faces + 1) : SPQ m faces' wm pt ph al bl dE fm' face way b := by
  obtain ⟨h1, h2, h3, h4, h5, h6, h7⟩ := h
  obtain ⟨⟨hg, ⟨nx, ρ, L, R, x1, x2, x3, x4⟩, f0, f1, hw, hl0, _⟩, B0, B1, hB⟩ := h1
  obtain ⟨w1, w2, w3, w4, w5, w6, w7, w8⟩ := hw
  subst hF
  have e1 : wm - 2 + 1 = wm - 1 := by omega
  have hf' : ∀ g, 0 ≤ g → g < faces → fm' g = fm g := fun g g0 g1 => (hs g g0).2 (by omega)
  refine ⟨?_, by omega, by omega⟩
  refine spl x1 (r := line) (w := way) (n := N) (B := B) (K := wm - 2) f0 f1 x2 x3 B0 B1 (by omega) hl0.symm (by rw [e1]; exact hB.symm) (fun i i0 i1 => w5 i i0 (by omega)) (fun i j i0 i1 i2 => w4 i j i0 i1 (by omega)) (fun z => w6 (by omega)) ?_ ?_ ?_ ?_ ?_ ?_ ?_ ?_
  · rw [hf' f f0 f1, h2.1]; omega
  · exact h2.2.1
  · intro j j0 j1
    rw [h2.2.2 j j0 (by omega)]; congr 1; omega
  · rw [(hs faces (by omega)).1 hi.symm, hv]; omega
  · intro j j0 j1
    rw [h6 j j0 (by omega), Int.emod_eq_of_lt (by omega) (by omega)]
  · rw [h6 (N - B) (by omega) (by omega), show B + (N - B) = N by omega, Int.emod_self]
  · intro j j0 j1
    exact h7 j j0 (by omega)
  · intro g g0 g1 gf
    rw [hf' g g0 g1]
    exact ⟨(x4 g g0 g1 gf).1.symm, fun j j0 j1 => ((x4 g g0 g1 gf).2 j j0 j1).symm⟩
theorem spl_rng {n m faces wm : Int} {pt ph al bl dE fm face way line : Int → Int} {b f N : Int} (h : SPL n m faces wm pt ph al bl dE fm face way line b f N) {j : Int} (j0 : 0 ≤ j) (j1 : j < N) : 0 ≤ line j ∧ line j < n := by
  obtain ⟨hg, ⟨nx, ρ, L, R, h1, h2, h3, _⟩, f0, f1, hw, _⟩ := h
  obtain ⟨e, k, _⟩ := ((h1.2.2.1 f f0 f1).2.1 j j0 (by omega)).1
  have := JJ_rng hg k
  rw [h3 j j0 j1] at this
  exact ⟨this.1, this.2.1⟩
