section
def ftri (A : pa_T) (nx : Int → Int → Int) : Prop := ∀ a b, A a b → nx b (nx a b) = a
/-- what comes into the place of x = U p: y 1 .. y M between y 0 = U (p - 1) and y (M + 1) = U (p + 1), as they stand around x -/
def yrow (A : pa_T) (nx : Int → Int → Int) (ω : Int → Int → Bool) (x M : Int) (y : Int → Int) : Prop := (∀ i, 0 ≤ i → i ≤ M → nx (y i) x = y (i + 1) ∧ A (y i) x ∧ ω (y i) x = false) ∨ (∀ i, 0 ≤ i → i ≤ M → nx (y (i + 1)) x = y i ∧ A (y (i + 1)) x ∧ ω (y (i + 1)) x = false)
theorem w_next {A : pa_T} {nx : Int → Int → Int} {u v k : Int} {U : Int → Int} {ω : Int → Int → Bool} (m : mp A nx) (w0 : finv A nx ω) (w1 : ∀ x y, A x y → fbd ω x y = pb (Lam u v k U x y)) {x w : Int} (h : A w x) : ω (nx w x) x = (ω w x ^^ pb (Lam u v k U (nx w x) x)) := by
  have h1 := w1 _ _ (m.1.1 _ _ (m.2.1 w x h))
  rw [← h1]
  have h2 := w0 w x h
  unfold fbd
  rw [h2]
  generalize ω (nx w x) x = r1; generalize ω w x = r2; revert r1 r2; decide
theorem lam_at {u v k p : Int} {U : Int → Int} {lf : Int → Prop} {A : pa_T} (h0 : cnv0 u v k U lf A) (hp : 1 ≤ p) (hpk : p + 1 < k) {z : Int} : Lam u v k U z (U p) ↔ z = U (p - 1) ∨ z = U (p + 1) := by
  obtain ⟨k3, hu, hv, hlf, hd, hadj, huv⟩ := h0
  constructor
  · rintro (⟨j, a, b, (⟨c, d⟩ | ⟨c, d⟩)⟩ | ⟨a, b⟩ | ⟨a, b⟩)
    · have := U_inj hd (by omega) (by omega) (by omega) (by omega) d
      left; rw [c]; congr 1; omega
    · have := U_inj hd (by omega) (by omega) (by omega) (by omega) c
      right; rw [d]; congr 1; omega
    · have := U_inj hd (by omega) (by omega) (by omega) (by omega) (b.trans hv.symm); omega
    · have := U_inj hd (by omega) (by omega) (by omega) (by omega) (b.trans hu.symm); omega
  · rintro (e | e)
    · exact Or.inl ⟨p - 1, by omega, by omega, Or.inl ⟨e, by congr 1; omega⟩⟩
    · exact Or.inl ⟨p, by omega, by omega, Or.inr ⟨rfl, e⟩⟩
/-- all that lie inside around x are in the row -/
theorem y_all {A : pa_T} {nx : Int → Int → Int} {u v k p M : Int} {U y : Int → Int} {lf : Int → Prop} {ω : Int → Int → Bool} (m : mp A nx) (h0 : cnv0 u v k U lf A) (hw : cnvw A nx u v k U lf ω) (hp : 1 ≤ p) (hpk : p + 1 < k) (hM : 0 ≤ M) (y0 : y 0 = U (p - 1)) (y1 : y (M + 1) = U (p + 1)) (hy : yrow A nx ω (U p) M y) :
    ∀ z, A z (U p) → ω z (U p) = false → ∃ i, 0 ≤ i ∧ i ≤ M ∧ ((z = y i ∧ nx z (U p) = y (i + 1)) ∨ (z = y (i + 1) ∧ nx z (U p) = y i)) := by
  have nxt : ∀ w, A w (U p) → ω (nx w (U p)) (U p) = (ω w (U p) ^^ pb (Lam u v k U (nx w (U p)) (U p))) := fun w h => w_next m hw.1 hw.2.1 h
  have hU : U (p - 1) ≠ U (p + 1) := h0.2.2.2.2.1 _ _ (by omega) (by omega) (by omega)
  rcases hy with hy | hy
  · have hr : ω (U (p + 1)) (U p) = true := by
      have h1 := hy M hM (by omega)
      have h2 := nxt _ h1.2.1
      rw [h1.1, y1, h1.2.2, pb_t ((lam_at h0 hp hpk).mpr (Or.inr rfl))] at h2; exact h2
    have cl : ∀ z, A z (U p) → (ω z (U p) = true ∨ ∃ i, 0 ≤ i ∧ i ≤ M ∧ z = y i) → (ω (nx z (U p)) (U p) = true ∨ ∃ i, 0 ≤ i ∧ i ≤ M ∧ nx z (U p) = y i) := by
      intro z hz h
      rcases h with h | ⟨i, a, b, c⟩
      · by_cases q : nx z (U p) = U (p - 1)
        · exact Or.inr ⟨0, by omega, by omega, by rw [q, y0]⟩
        · by_cases q2 : nx z (U p) = U (p + 1)
          · left; rw [q2]; exact hr
          · left
            rw [nxt z hz, h, pb_f (fun e => ((lam_at h0 hp hpk).mp e).elim q q2)]; rfl
      · have h1 := hy i a b
        rw [c, h1.1]
        by_cases q : i = M
        · left; rw [q, y1]; exact hr
        · exact Or.inr ⟨i + 1, by omega, by omega, rfl⟩
    intro z hz hf
    have h1 := hy 0 (by omega) hM
    rcases m.2.2.2 (U p) (fun z => ω z (U p) = true ∨ ∃ i, 0 ≤ i ∧ i ≤ M ∧ z = y i) cl (y 0) z h1.2.1 hz (Or.inr ⟨0, by omega, hM, rfl⟩) with h | ⟨i, a, b, c⟩
    · rw [hf] at h; cases h
    · exact ⟨i, a, b, Or.inl ⟨c, by rw [c]; exact (hy i a b).1⟩⟩
  · have hr : ω (U (p - 1)) (U p) = true := by
      have h1 := hy 0 (by omega) hM
      have h2 := nxt _ h1.2.1
      rw [h1.1, y0, h1.2.2, pb_t ((lam_at h0 hp hpk).mpr (Or.inl rfl))] at h2; exact h2
    have cl : ∀ z, A z (U p) → (ω z (U p) = true ∨ ∃ i, 0 ≤ i ∧ i ≤ M ∧ z = y (i + 1)) → (ω (nx z (U p)) (U p) = true ∨ ∃ i, 0 ≤ i ∧ i ≤ M ∧ nx z (U p) = y (i + 1)) := by
      intro z hz h
      rcases h with h | ⟨i, a, b, c⟩
      · by_cases q : nx z (U p) = U (p + 1)
        · exact Or.inr ⟨M, by omega, by omega, by rw [q, y1]⟩
        · by_cases q2 : nx z (U p) = U (p - 1)
          · left; rw [q2]; exact hr
          · left
            rw [nxt z hz, h, pb_f (fun e => ((lam_at h0 hp hpk).mp e).elim q2 q)]; rfl
      · have h1 := hy i a b
        rw [c, h1.1]
        by_cases q : i = 0
        · left; rw [q, y0]; exact hr
        · exact Or.inr ⟨i - 1, by omega, by omega, by congr 1; omega⟩
    intro z hz hf
    have h1 := hy M hM (by omega)
    rcases m.2.2.2 (U p) (fun z => ω z (U p) = true ∨ ∃ i, 0 ≤ i ∧ i ≤ M ∧ z = y (i + 1)) cl (y (M + 1)) z h1.2.1 hz (Or.inr ⟨M, by omega, by omega, rfl⟩) with h | ⟨i, a, b, c⟩
    · rw [hf] at h; cases h
    · exact ⟨i, a, b, Or.inr ⟨c, by rw [c]; exact (hy i a b).1⟩⟩
def nU (p M : Int) (U y : Int → Int) (j : Int) : Int := if j < p then U j else if j < p + M then y (j - p + 1) else U (j - M + 1)
theorem can_step {A : pa_T} {nx : Int → Int → Int} {u v k p M : Int} {U y : Int → Int} {lf : Int → Prop} {ω : Int → Int → Bool} (m : mp A nx) (ht : ftri A nx) (h0 : cnv0 u v k U lf A) (hw : cnvw A nx u v k U lf ω) (hp : 1 ≤ p) (hpk : p + 1 < k)
    (hch : ∀ q, 0 ≤ q → q < k → q ≠ p → q ≠ p - 1 → q ≠ p + 1 → ¬ A (U p) (U q)) (hM : 0 ≤ M) (hk : 3 ≤ k - 1 + M) (y0 : y 0 = U (p - 1)) (y1 : y (M + 1) = U (p + 1)) (hyd : ∀ i j, 0 ≤ i → i < j → j ≤ M + 1 → y i ≠ y j) (hy : yrow A nx ω (U p) M y) :
    cnv0 u v (k - 1 + M) (nU p M U y) (fun z => lf z ∧ z ≠ U p) A ∧ ∃ ω', cnvw A nx u v (k - 1 + M) (nU p M U y) (fun z => lf z ∧ z ≠ U p) ω' := by
  have hall := y_all m h0 hw hp hpk hM y0 y1 hy
  have h0_zq := h0
  obtain ⟨k3, hu, hv, hlf, hd, hadj, huv⟩ := h0
  have hw_zq := hw
  obtain ⟨w0, w1, w2, w3, w4, w5⟩ := hw
  have hsy := m.1.1
  have hi := m.1.2
  have neU : ∀ {i j : Int}, 0 ≤ i → i < k → 0 ≤ j → j < k → i ≠ j → U i ≠ U j := fun a b c d e h => e (U_inj hd a b c d h)
  have lamx : ∀ {z}, Lam u v k U z (U p) ↔ z = U (p - 1) ∨ z = U (p + 1) := lam_at h0_zq hp hpk
  -- the new line's places
  have e1 : ∀ j, j < p → nU p M U y j = U j := fun j h => by unfold nU; rw [if_pos h]
  have e2 : ∀ j, p - 1 ≤ j → j ≤ p + M → nU p M U y j = y (j - p + 1) := by
    intro j a b
    unfold nU
    by_cases q : j < p
    · rw [if_pos q, show j - p + 1 = 0 by omega, y0]; congr 1; omega
    · rw [if_neg q]
      by_cases q2 : j < p + M
      · rw [if_pos q2]
      · rw [if_neg q2, show j - p + 1 = M + 1 by omega, y1]; congr 1; omega
  have e3 : ∀ j, p + M ≤ j → nU p M U y j = U (j - M + 1) := fun j h => by unfold nU; rw [if_neg (by omega), if_neg (by omega)]
  -- the row's nodes
  have yA : ∀ i, 0 ≤ i → i ≤ M + 1 → A (y i) (U p) := by
    intro i a b
    rcases hy with hy | hy
    · by_cases q : i ≤ M
      · exact (hy i a q).2.1
      · have := m.2.1 _ _ (hy M hM (by omega)).2.1
        rw [(hy M hM (by omega)).1] at this
        rw [show i = M + 1 by omega]; exact hsy _ _ this
    · by_cases q : 1 ≤ i
      · have := (hy (i - 1) (by omega) (by omega)).2.1
        rw [show i - 1 + 1 = i by omega] at this; exact this
      · have := m.2.1 _ _ (hy 0 (by omega) hM).2.1
        rw [(hy 0 (by omega) hM).1] at this
        rw [show i = 0 by omega]; exact hsy _ _ this
  have yw : ∀ i, 1 ≤ i → i ≤ M → ω (y i) (U p) = false := by
    intro i a b
    rcases hy with hy | hy
    · exact (hy i (by omega) b).2.2
    · have := (hy (i - 1) (by omega) (by omega)).2.2
      rw [show i - 1 + 1 = i by omega] at this; exact this
  have yl : ∀ i, 0 ≤ i → i ≤ M + 1 → lf (y i) := by
    intro i a b
    by_cases q : i = 0
    · rw [q, y0]; exact hlf _ (by omega) (by omega)
    · by_cases q2 : i = M + 1
      · rw [q2, y1]; exact hlf _ (by omega) (by omega)
      · apply Classical.byContradiction
        intro hn
        have h1 := (w2 _ _ (hsy _ _ (yA i a b)) hn).2
        rw [yw i (by omega) (by omega)] at h1; cases h1
  have yo : ∀ i j, 1 ≤ i → i ≤ M → 0 ≤ j → j < k → y i ≠ U j := by
    intro i j a b c d e
    have hA := yA i (by omega) (by omega)
    by_cases q1 : j = p
    · exact hi _ _ hA (by rw [e, q1])
    · by_cases q2 : j = p - 1
      · exact hyd 0 i (by omega) (by omega) (by omega) (by rw [y0, e, q2])
      · by_cases q3 : j = p + 1
        · exact hyd i (M + 1) (by omega) (by omega) (by omega) (by rw [y1, e, q3])
        · exact hch j c d q1 q2 q3 (e ▸ hsy _ _ hA)
  have yx : ∀ i, 0 ≤ i → i ≤ M + 1 → y i ≠ U p := fun i a b => hi _ _ (yA i a b)
  -- neighbours in the row are neighbours
  have yadj : ∀ i, 0 ≤ i → i ≤ M → (nx (y i) (U p) = y (i + 1) ∧ ω (y i) (U p) = false) ∨ (nx (y (i + 1)) (U p) = y i ∧ ω (y (i + 1)) (U p) = false) := by
    intro i a b
    rcases hy with hy | hy
    · exact Or.inl ⟨(hy i a b).1, (hy i a b).2.2⟩
    · exact Or.inr ⟨(hy i a b).1, (hy i a b).2.2⟩
  have tri : ∀ {a b x}, A b x → nx b x = a → A a b ∧ nx a b = x ∧ nx x a = b ∧ ω a b = ω b x := by
    intro a b x h1 h2
    have t1 := ht b x h1
    rw [h2] at t1
    have hxa : A x a := h2 ▸ m.2.1 b x h1
    have hab : A a b := t1 ▸ m.2.1 x a hxa
    have t2 := ht x a hxa
    rw [t1] at t2
    have t3 := w0 a b hab
    rw [t2] at t3
    exact ⟨hab, t2, t1, t3.symm⟩
  have yadjA : ∀ i, 0 ≤ i → i ≤ M → A (y i) (y (i + 1)) := by
    intro i a b
    rcases yadj i a b with ⟨h1, _⟩ | ⟨h1, _⟩
    · exact hsy _ _ (tri (yA i a (by omega)) h1).1
    · exact (tri (yA (i + 1) (by omega) (by omega)) h1).1
  have uU : u ≠ U p := by rw [← hu]; exact neU (by omega) (by omega) (by omega) (by omega) (by omega)
  have vU : v ≠ U p := by rw [← hv]; exact neU (by omega) (by omega) (by omega) (by omega) (by omega)
  -- where each place of the new line comes from
  have src : ∀ j, 0 ≤ j → j < k - 1 + M → (∃ i, 0 ≤ i ∧ i < k ∧ i ≠ p ∧ nU p M U y j = U i) ∨ ∃ i, 1 ≤ i ∧ i ≤ M ∧ nU p M U y j = y i := by
    intro j a b
    by_cases q : j < p
    · exact Or.inl ⟨j, a, by omega, by omega, e1 j q⟩
    · by_cases q2 : j < p + M
      · exact Or.inr ⟨j - p + 1, by omega, by omega, e2 j (by omega) (by omega)⟩
      · exact Or.inl ⟨j - M + 1, by omega, by omega, by omega, e3 j (by omega)⟩
  have to1 : ∀ i, 0 ≤ i → i < k → i ≠ p → ∃ j, 0 ≤ j ∧ j < k - 1 + M ∧ U i = nU p M U y j := by
    intro i a b c
    by_cases q : i < p
    · exact ⟨i, a, by omega, (e1 i q).symm⟩
    · exact ⟨i + M - 1, by omega, by omega, by rw [e3 _ (by omega)]; congr 1; omega⟩
  have to2 : ∀ i, 0 ≤ i → i ≤ M + 1 → ∃ j, 0 ≤ j ∧ j < k - 1 + M ∧ y i = nU p M U y j := by
    intro i a b
    exact ⟨i + p - 1, by omega, by omega, by rw [e2 _ (by omega) (by omega)]; congr 1; omega⟩
  have nd : ∀ i j, 0 ≤ i → i < j → j < k - 1 + M → nU p M U y i ≠ nU p M U y j := by
    intro i j a b c e
    by_cases q1 : i < p
    · rw [e1 i q1] at e
      by_cases q2 : j < p
      · rw [e1 j q2] at e; exact hd i j a b (by omega) e
      · by_cases q3 : j < p + M
        · rw [e2 j (by omega) (by omega)] at e; exact yo (j - p + 1) i (by omega) (by omega) a (by omega) e.symm
        · rw [e3 j (by omega)] at e; exact neU a (by omega) (by omega) (by omega) (by omega) e
    · by_cases q2 : i < p + M
      · by_cases q3 : j ≤ p + M
        · rw [e2 i (by omega) (by omega), e2 j (by omega) q3] at e; exact hyd _ _ (by omega) (by omega) (by omega) e
        · rw [e2 i (by omega) (by omega), e3 j (by omega)] at e; exact yo (i - p + 1) (j - M + 1) (by omega) (by omega) (by omega) (by omega) e
      · rw [e3 i (by omega), e3 j (by omega)] at e; exact neU (by omega) (by omega) (by omega) (by omega) (by omega) e
  have nlf : ∀ j, 0 ≤ j → j < k - 1 + M → lf (nU p M U y j) ∧ nU p M U y j ≠ U p := by
    intro j a b
    rcases src j a b with ⟨i, i1, i2, i3, i4⟩ | ⟨i, i1, i2, i3⟩
    · rw [i4]; exact ⟨hlf i i1 i2, neU i1 i2 (by omega) (by omega) i3⟩
    · rw [i3]; exact ⟨yl i (by omega) (by omega), yx i (by omega) (by omega)⟩
  -- the edges of the new line
  have LL : ∀ a b, a ≠ U p → b ≠ U p → (Lam u v (k - 1 + M) (nU p M U y) a b ↔ Lam u v k U a b ∨ ∃ i, 0 ≤ i ∧ i ≤ M ∧ ((a = y i ∧ b = y (i + 1)) ∨ (b = y i ∧ a = y (i + 1)))) := by
    intro a b na nb
    constructor
    · rintro (⟨j, j1, j2, j3⟩ | h)
      · by_cases q1 : j + 1 < p
        · rw [e1 j (by omega), e1 (j + 1) q1] at j3
          exact Or.inl (Or.inl ⟨j, j1, by omega, j3⟩)
        · by_cases q2 : j < p + M
          · rw [e2 j (by omega) (by omega), e2 (j + 1) (by omega) (by omega), show j + 1 - p + 1 = j - p + 1 + 1 by omega] at j3
            exact Or.inr ⟨j - p + 1, by omega, by omega, j3⟩
          · rw [e3 j (by omega), e3 (j + 1) (by omega), show j + 1 - M + 1 = j - M + 1 + 1 by omega] at j3
            exact Or.inl (Or.inl ⟨j - M + 1, by omega, by omega, j3⟩)
      · exact Or.inl (Or.inr h)
    · rintro ((⟨j, j1, j2, j3⟩ | h) | ⟨i, i1, i2, i3⟩)
      · left
        have np : j ≠ p ∧ j + 1 ≠ p := by
          constructor
          · intro e
            rcases j3 with ⟨z1, z2⟩ | ⟨z1, z2⟩
            · exact na (by rw [z1, e])
            · exact nb (by rw [z1, e])
          · intro e
            rcases j3 with ⟨z1, z2⟩ | ⟨z1, z2⟩
            · exact nb (by rw [z2, e])
            · exact na (by rw [z2, e])
        by_cases q : j + 1 < p
        · exact ⟨j, j1, by omega, by rw [e1 j (by omega), e1 (j + 1) q]; exact j3⟩
        · refine ⟨j + M - 1, by omega, by omega, ?_⟩
          rw [e3 _ (by omega), e3 _ (by omega), show j + M - 1 - M + 1 = j by omega, show j + M - 1 + 1 - M + 1 = j + 1 by omega]; exact j3
      · exact Or.inr h
      · refine Or.inl ⟨i + p - 1, by omega, by omega, ?_⟩
        rw [e2 _ (by omega) (by omega), e2 _ (by omega) (by omega), show i + p - 1 - p + 1 = i by omega, show i + p - 1 + 1 - p + 1 = i + 1 by omega]; exact i3
  have Lx : ∀ z, ¬ Lam u v (k - 1 + M) (nU p M U y) z (U p) := by
    rintro z (⟨j, j1, j2, (⟨z1, z2⟩ | ⟨z1, z2⟩)⟩ | ⟨z1, z2⟩ | ⟨z1, z2⟩)
    · exact (nlf (j + 1) (by omega) j2).2 z2.symm
    · exact (nlf j j1 (by omega)).2 z1.symm
    · exact vU z2.symm
    · exact uU z2.symm
  refine ⟨⟨hk, by rw [e1 0 (by omega)]; exact hu, by rw [e3 _ (by omega)]; rw [← hv]; congr 1; omega, nlf, nd, fun j a b => ?_, huv⟩, ?_⟩
  · by_cases q1 : j + 1 < p
    · rw [e1 j (by omega), e1 (j + 1) q1]; exact hadj j a (by omega)
    · by_cases q2 : j < p + M
      · rw [e2 j (by omega) (by omega), e2 (j + 1) (by omega) (by omega), show j + 1 - p + 1 = j - p + 1 + 1 by omega]
        exact yadjA _ (by omega) (by omega)
      · rw [e3 j (by omega), e3 (j + 1) (by omega), show j + 1 - M + 1 = j - M + 1 + 1 by omega]
        exact hadj _ (by omega) (by omega)
  · -- two neighbours and x in a face that lies inside
    have np : ∀ a b, A a b → a ≠ U p → b ≠ U p → nx a b = U p → ω a b = false → ω b a = false ∧ nx b a ≠ U p ∧ ∃ i, 0 ≤ i ∧ i ≤ M ∧ ((a = y i ∧ b = y (i + 1)) ∨ (b = y i ∧ a = y (i + 1))) := by
      intro a b hab na nb hc hf
      have hbx : A b (U p) := hc ▸ m.2.1 a b hab
      have t1 := ht a b hab
      rw [hc] at t1
      have hwb : ω b (U p) = false := by rw [← hf]; have := w0 a b hab; rw [hc] at this; exact this
      obtain ⟨i, i1, i2, i3⟩ := hall b hbx hwb
      rw [t1] at i3
      have i4 : (a = y i ∧ b = y (i + 1)) ∨ (b = y i ∧ a = y (i + 1)) := i3.elim (fun z => Or.inr z) (fun z => Or.inl ⟨z.2, z.1⟩)
      refine ⟨?_, fun hx => ?_, i, i1, i2, i4⟩
      · cases hq : ω b a with
        | false => rfl
        | true =>
          exfalso
          have hL : Lam u v k U a b := by
            have h1 := w1 a b hab
            unfold fbd at h1
            rw [hf, hq] at h1
            exact pb_i h1.symm
          -- both on the old line
          have on : ∀ i_zq, 1 ≤ i_zq → i_zq ≤ M → ¬ (a = y i_zq ∨ b = y i_zq) := by
            intro i_zq q1 q2 q3
            have ol : ∀ z, (z = a ∨ z = b) → ∃ j, 0 ≤ j ∧ j < k ∧ z = U j := by
              intro z hz
              rcases hL with ⟨j, j1, j2, (⟨z1, z2⟩ | ⟨z1, z2⟩)⟩ | ⟨z1, z2⟩ | ⟨z1, z2⟩ <;> rcases hz with hz | hz
              · exact ⟨j, j1, by omega, hz.trans z1⟩
              · exact ⟨j + 1, by omega, by omega, hz.trans z2⟩
              · exact ⟨j + 1, by omega, by omega, hz.trans z2⟩
              · exact ⟨j, j1, by omega, hz.trans z1⟩
              · exact ⟨0, by omega, by omega, by rw [hz, z1, hu]⟩
              · exact ⟨k - 1, by omega, by omega, by rw [hz, z2, hv]⟩
              · exact ⟨k - 1, by omega, by omega, by rw [hz, z1, hv]⟩
              · exact ⟨0, by omega, by omega, by rw [hz, z2, hu]⟩
            rcases q3 with q3 | q3
            · obtain ⟨j, j1, j2, j3⟩ := ol a (Or.inl rfl); exact yo i_zq j q1 q2 j1 j2 (q3.symm.trans j3)
            · obtain ⟨j, j1, j2, j3⟩ := ol b (Or.inr rfl); exact yo i_zq j q1 q2 j1 j2 (q3.symm.trans j3)
          have iz : i = 0 := Classical.byContradiction (fun q => on i (by omega) i2 (i4.elim (fun z => Or.inl z.1) (fun z => Or.inr z.1)))
          have iM : M = 0 := Classical.byContradiction (fun q => on (i + 1) (by omega) (by omega) (i4.elim (fun z => Or.inr z.2) (fun z => Or.inl z.2)))
          have hL2 : Lam u v k U (U (p - 1)) (U (p + 1)) := by
            rw [← y0, ← y1, show M + 1 = i + 1 by omega, show y 0 = y i by rw [iz]]
            rcases i4 with ⟨z1, z2⟩ | ⟨z1, z2⟩
            · rw [← z1, ← z2]; exact hL
            · rw [← z1, ← z2]; exact Lam_sym hL
          rcases hL2 with ⟨j, j1, j2, (⟨z1, z2⟩ | ⟨z1, z2⟩)⟩ | ⟨z1, z2⟩ | ⟨z1, z2⟩
          · have g1 := U_inj hd (by omega) (by omega) (by omega) (by omega) z1
            have g2 := U_inj hd (by omega) (by omega) (by omega) (by omega) z2
            omega
          · have g1 := U_inj hd (by omega) (by omega) (by omega) (by omega) z1
            have g2 := U_inj hd (by omega) (by omega) (by omega) (by omega) z2
            omega
          · have g1 := U_inj hd (by omega) (by omega) (by omega) (by omega) (z1.trans hu.symm)
            have g2 := U_inj hd (by omega) (by omega) (by omega) (by omega) (z2.trans hv.symm)
            omega
          · have g1 := U_inj hd (by omega) (by omega) (by omega) (by omega) (z1.trans hv.symm)
            omega
      · -- x would have two neighbours, and no edge of the line
        have t2 := ht b a (hsy _ _ hab)
        rw [hx] at t2
        have hax : A a (U p) := hx ▸ m.2.1 b a (hsy _ _ hab)
        have two : ∀ z, A z (U p) → z = a ∨ z = b := fun z hz => m.2.2.2 (U p) (fun z => z = a ∨ z = b) (fun z _ hL => by
          rcases hL with e | e
          · rw [e, t2]; exact Or.inr rfl
          · rw [e, t1]; exact Or.inl rfl) a z hax hz (Or.inl rfl)
        have n1 := w_next m w0 w1 hbx
        have n2 := w_next m w0 w1 hax
        rw [t1] at n1
        rw [t2] at n2
        have hl := hadj (p - 1) (by omega) (by omega)
        rw [show p - 1 + 1 = p by omega] at hl
        have hr := hsy _ _ (hadj p (by omega) hpk)
        have hlr := neU (by omega : 0 ≤ p - 1) (by omega) (by omega : 0 ≤ p + 1) hpk (by omega)
        have hLa : Lam u v k U a (U p) ∧ Lam u v k U b (U p) := by
          rw [lamx, lamx]
          rcases two _ hl with z1 | z1 <;> rcases two _ hr with z2 | z2
          · exact absurd (z1.trans z2.symm) hlr
          · exact ⟨Or.inl z1.symm, Or.inr z2.symm⟩
          · exact ⟨Or.inr z2.symm, Or.inl z1.symm⟩
          · exact absurd (z1.trans z2.symm) hlr
        rw [pb_t hLa.1, hwb] at n1
        -- the other side of a, b lies outside, so x's other corner does
        have h1 := w1 a b hab
        have h2 := w0 b a (hsy _ _ hab)
        rw [hx, n1] at h2
        unfold fbd at h1
        rw [hf, ← h2] at h1
        have hL := pb_i h1.symm
        have hM0 : ¬ (∃ i_zq, 1 ≤ i_zq ∧ i_zq ≤ M) := by
          rintro ⟨i_zq, q1, q2⟩
          rcases two _ (yA i_zq (by omega) (by omega)) with z | z
          · rcases lamx.mp hLa.1 with z2 | z2
            · exact yo i_zq (p - 1) q1 q2 (by omega) (by omega) (z.trans z2)
            · exact yo i_zq (p + 1) q1 q2 (by omega) (by omega) (z.trans z2)
          · rcases lamx.mp hLa.2 with z2 | z2
            · exact yo i_zq (p - 1) q1 q2 (by omega) (by omega) (z.trans z2)
            · exact yo i_zq (p + 1) q1 q2 (by omega) (by omega) (z.trans z2)
        have iM : M = 0 := Classical.byContradiction (fun q => hM0 ⟨1, by omega, by omega⟩)
        have hL2 : Lam u v k U (U (p - 1)) (U (p + 1)) := by
          rcases two _ hl with z1 | z1 <;> rcases two _ hr with z2 | z2
          · exact absurd (z1.trans z2.symm) hlr
          · rw [z1, z2]; exact hL
          · rw [z1, z2]; exact Lam_sym hL
          · exact absurd (z1.trans z2.symm) hlr
        rcases hL2 with ⟨j, j1, j2, (⟨z1, z2⟩ | ⟨z1, z2⟩)⟩ | ⟨z1, z2⟩ | ⟨z1, z2⟩
        · have g1 := U_inj hd (by omega) (by omega) (by omega) (by omega) z1
          have g2 := U_inj hd (by omega) (by omega) (by omega) (by omega) z2
          omega
        · have g1 := U_inj hd (by omega) (by omega) (by omega) (by omega) z1
          have g2 := U_inj hd (by omega) (by omega) (by omega) (by omega) z2
          omega
        · have g1 := U_inj hd (by omega) (by omega) (by omega) (by omega) (z1.trans hu.symm)
          have g2 := U_inj hd (by omega) (by omega) (by omega) (by omega) (z2.trans hv.symm)
          omega
        · have g1 := U_inj hd (by omega) (by omega) (by omega) (by omega) (z1.trans hv.symm)
          omega
    have npI : ∀ a b, A a b → (∃ i, 0 ≤ i ∧ i ≤ M ∧ ((a = y i ∧ b = y (i + 1)) ∨ (b = y i ∧ a = y (i + 1)))) → (nx a b = U p ∧ ω a b = false) ∨ (nx b a = U p ∧ ω b a = false) := by
      rintro a b hab ⟨i, i1, i2, i3⟩
      have hyi := yA i i1 (by omega)
      have hyi1 := yA (i + 1) (by omega) (by omega)
      rcases yadj i i1 i2 with ⟨h1, h2⟩ | ⟨h1, h2⟩
      · obtain ⟨_, t2, _, t4⟩ := tri hyi h1
        rcases i3 with ⟨z1, z2⟩ | ⟨z1, z2⟩
        · right; rw [z1, z2]; exact ⟨t2, t4.trans h2⟩
        · left; rw [z1, z2]; exact ⟨t2, t4.trans h2⟩
      · obtain ⟨_, t2, _, t4⟩ := tri hyi1 h1
        rcases i3 with ⟨z1, z2⟩ | ⟨z1, z2⟩
        · left; rw [z1, z2]; exact ⟨t2, t4.trans h2⟩
        · right; rw [z1, z2]; exact ⟨t2, t4.trans h2⟩
    let ω' : Int → Int → Bool := fun a b => ω a b || pb (a = U p ∨ b = U p ∨ nx a b = U p)
    have wo : ∀ a b, ω' a b = true → ω a b = true ∨ a = U p ∨ b = U p ∨ nx a b = U p := by
      intro a b h
      have h_zq : (ω a b || pb (a = U p ∨ b = U p ∨ nx a b = U p)) = true := h
      rcases (Bool.or_eq_true_iff.mp h_zq) with q | q
      · exact Or.inl q
      · exact Or.inr (pb_i q)
    have wi : ∀ a b, (ω a b = true ∨ a = U p ∨ b = U p ∨ nx a b = U p) → ω' a b = true := by
      intro a b h
      show (ω a b || pb (a = U p ∨ b = U p ∨ nx a b = U p)) = true
      rcases h with h | h
      · rw [h]; rfl
      · rw [pb_t h]; exact Bool.or_true _
    have wf : ∀ a b, a ≠ U p → b ≠ U p → nx a b ≠ U p → ω' a b = ω a b := by
      intro a b q1 q2 q3
      show (ω a b || pb (a = U p ∨ b = U p ∨ nx a b = U p)) = ω a b
      rw [pb_f (fun z => z.elim q1 (fun z => z.elim q2 q3))]; exact Bool.or_false _
    refine ⟨ω', ?_, ?_, ?_, ?_, ?_, ?_⟩
    · intro a b hab
      show (ω b (nx a b) || pb (b = U p ∨ nx a b = U p ∨ nx b (nx a b) = U p)) = (ω a b || pb (a = U p ∨ b = U p ∨ nx a b = U p))
      rw [w0 a b hab, ht a b hab, pb_iff (show (b = U p ∨ nx a b = U p ∨ a = U p) ↔ (a = U p ∨ b = U p ∨ nx a b = U p) from ⟨fun z => z.elim (fun z => Or.inr (Or.inl z)) (fun z => z.elim (fun z => Or.inr (Or.inr z)) Or.inl), fun z => z.elim (fun z => Or.inr (Or.inr z)) (fun z => z.elim Or.inl (fun z => Or.inr (Or.inl z)))⟩)]
    · intro a b hab
      by_cases qa : a = U p
      · unfold fbd
        rw [wi a b (Or.inr (Or.inl qa)), wi b a (Or.inr (Or.inr (Or.inl qa))), pb_f (fun z => Lx b (qa ▸ Lam_sym z))]; rfl
      · by_cases qb : b = U p
        · unfold fbd
          rw [wi a b (Or.inr (Or.inr (Or.inl qb))), wi b a (Or.inr (Or.inl qb)), pb_f (fun z => Lx a (qb ▸ z))]; rfl
        · by_cases q1 : nx a b = U p ∧ ω a b = false
          · obtain ⟨g1, g2, g3⟩ := np a b hab qa qb q1.1 q1.2
            rw [pb_t ((LL a b qa qb).mpr (Or.inr g3))]
            unfold fbd
            rw [wi a b (Or.inr (Or.inr (Or.inr q1.1))), wf b a qb qa g2, g1]; rfl
          · by_cases q2 : nx b a = U p ∧ ω b a = false
            · obtain ⟨g1, g2, g3⟩ := np b a (hsy _ _ hab) qb qa q2.1 q2.2
              rw [pb_t ((LL a b qa qb).mpr (Or.inr (by obtain ⟨i, i1, i2, i3⟩ := g3; exact ⟨i, i1, i2, i3.symm⟩)))]
              unfold fbd
              rw [wi b a (Or.inr (Or.inr (Or.inr q2.1))), wf a b qa qb g2, g1]; rfl
            · have s1 : ω' a b = ω a b := by
                by_cases z : nx a b = U p
                · have : ω a b = true := by
                    cases hq : ω a b with
                    | true => rfl
                    | false => exact absurd ⟨z, hq⟩ q1
                  rw [this]; exact wi a b (Or.inl this)
                · exact wf a b qa qb z
              have s2 : ω' b a = ω b a := by
                by_cases z : nx b a = U p
                · have : ω b a = true := by
                    cases hq : ω b a with
                    | true => rfl
                    | false => exact absurd ⟨z, hq⟩ q2
                  rw [this]; exact wi b a (Or.inl this)
                · exact wf b a qb qa z
              have h1 := w1 a b hab
              unfold fbd at h1 ⊢
              rw [s1, s2, h1]
              refine pb_iff ⟨fun z => (LL a b qa qb).mpr (Or.inl z), fun z => ?_⟩
              rcases (LL a b qa qb).mp z with z | z
              · exact z
              · rcases npI a b hab z with z | z
                · exact absurd z q1
                · exact absurd z q2
    · intro a b hab hb
      have hb_zq : ¬ lf b ∨ b = U p := by
        by_cases q : lf b
        · exact Or.inr (Classical.byContradiction (fun z => hb ⟨q, z⟩))
        · exact Or.inl q
      rcases hb_zq with q | q
      · exact ⟨wi a b (Or.inl (w2 a b hab q).1), wi b a (Or.inl (w2 a b hab q).2)⟩
      · exact ⟨wi a b (Or.inr (Or.inr (Or.inl q))), wi b a (Or.inr (Or.inl q))⟩
    · intro a b hab ha hb
      by_cases q : lf a
      · have qa : a = U p := Classical.byContradiction (fun z => ha ⟨q, z⟩)
        have hbx : A b (U p) := qa ▸ hsy _ _ hab
        cases hq : ω b (U p) with
        | false =>
          obtain ⟨i, i1, i2, i3⟩ := hall b hbx hq
          rcases i3 with ⟨z, _⟩ | ⟨z, _⟩
          · rw [z]; exact to2 i i1 (by omega)
          · rw [z]; exact to2 (i + 1) (by omega) (by omega)
        | true =>
          rcases lamx.mp (w5 b (U p) hbx hb.1 (hlf p (by omega) (by omega)) hq) with z | z
          · rw [z]; exact to1 _ (by omega) (by omega) (by omega)
          · rw [z]; exact to1 _ (by omega) (by omega) (by omega)
      · obtain ⟨j, j1, j2, j3⟩ := w3 a b hab q hb.1
        rw [j3]
        exact to1 j j1 j2 (fun e => hb.2 (by rw [j3, e]))
    · intro χ hf hat a b a_zq b_zq hab hab_zq h h_zq
      have hatx := hat (U p) (fun z => z.2 rfl)
      have conx := around m hf (v := U p) hatx
      have cx : ∀ z, A z (U p) → χ z (U p) = χ (U (p - 1)) (U p) ∧ χ (U p) z = χ (U (p - 1)) (U p) := by
        have hl := hadj (p - 1) (by omega) (by omega)
        rw [show p - 1 + 1 = p by omega] at hl
        intro z hz
        have g1 := conx z _ hz hl
        have g2 := hatx z hz
        unfold fbd at g2
        revert g1 g2
        generalize χ z (U p) = r1; generalize χ (U p) z = r2; generalize χ (U (p - 1)) (U p) = r3
        revert r1 r2 r3; decide
      have old := w4 χ hf (fun t ht_zq => hat t (fun z => ht_zq z.1))
      -- a dart at x that lay outside
      have hd0 : ∃ c d, A c d ∧ ω c d = true ∧ χ c d = χ (U (p - 1)) (U p) := by
        have hl := hadj (p - 1) (by omega) (by omega)
        rw [show p - 1 + 1 = p by omega] at hl
        have g1 := w1 _ _ hl
        rw [pb_t (lamx.mpr (Or.inl rfl))] at g1
        unfold fbd at g1
        cases hq : ω (U (p - 1)) (U p) with
        | true => exact ⟨_, _, hl, hq, rfl⟩
        | false =>
          rw [hq] at g1
          exact ⟨_, _, hsy _ _ hl, by revert g1; generalize ω (U p) (U (p - 1)) = r1; revert r1; decide, (cx _ hl).2⟩
      obtain ⟨c, d, d1, d2, d3⟩ := hd0
      have val : ∀ a b, A a b → ω' a b = true → χ a b = χ (U (p - 1)) (U p) := by
        intro a b hab h
        rcases wo a b h with q | q | q | q
        · rw [← d3]; exact old a b c d hab d1 q d2
        · rw [q]; exact (cx b (q ▸ hsy _ _ hab)).2
        · rw [q]; exact (cx a (q ▸ hab)).1
        · have g1 := hf a b hab
          rw [q] at g1
          rw [← g1]; exact (cx b (q ▸ m.2.1 a b hab)).1
      rw [val a b hab h, val a_zq b_zq hab_zq h_zq]
    · intro a b hab ha hb h
      refine (LL a b ha.2 hb.2).mpr ?_
      cases hq : ω a b with
      | true => exact Or.inl (w5 a b hab ha.1 hb.1 hq)
      | false =>
        rcases wo a b h with q | q | q | q
        · rw [hq] at q; cases q
        · exact absurd q ha.2
        · exact absurd q hb.2
        · exact Or.inr (np a b hab ha.2 hb.2 q hq).2.2
end
section
/-! what holds of the model's rows of edges -/
def JJ (m : Int) (pt ph al : Int → Int) : pj_T := fun e u v => 0 ≤ e ∧ e < m ∧ al e = 1 ∧ ((pt e = u ∧ ph e = v) ∨ (pt e = v ∧ ph e = u))
def GOK (n m : Int) (pt ph : Int → Int) : Prop := (∀ e, 0 ≤ e → e < m → 0 ≤ pt e ∧ pt e < n ∧ 0 ≤ ph e ∧ ph e < n ∧ pt e ≠ ph e) ∧ ∀ e f, 0 ≤ e → e < f → f < m → ¬ ((pt e = pt f ∧ ph e = ph f) ∨ (pt e = ph f ∧ ph e = pt f))
theorem JJ_sym {m : Int} {pt ph al : Int → Int} : jsym (JJ m pt ph al) := fun _ _ _ h => ⟨h.1, h.2.1, h.2.2.1, h.2.2.2.symm⟩
theorem JJ_uni {m : Int} {pt ph al : Int → Int} : juni (JJ m pt ph al) := by
  intro e u v u_zq v_zq h h_zq
  rcases h.2.2.2 with ⟨a, b⟩ | ⟨a, b⟩ <;> rcases h_zq.2.2.2 with ⟨c, d⟩ | ⟨c, d⟩
  · exact Or.inl ⟨c ▸ a, d ▸ b⟩
  · exact Or.inr ⟨d ▸ b, c ▸ a⟩
  · exact Or.inr ⟨c ▸ a, d ▸ b⟩
  · exact Or.inl ⟨d ▸ b, c ▸ a⟩
theorem JJ_irr {n m : Int} {pt ph al : Int → Int} (h : GOK n m pt ph) : jirr (JJ m pt ph al) := by
  intro e u v j
  have := h.1 e j.1 j.2.1
  rcases j.2.2.2 with ⟨a, b⟩ | ⟨a, b⟩ <;> omega
theorem JJ_rng {n m : Int} {pt ph al : Int → Int} (h : GOK n m pt ph) {e u v : Int} (j : JJ m pt ph al e u v) : 0 ≤ u ∧ u < n ∧ 0 ≤ v ∧ v < n := by
  have := h.1 e j.1 j.2.1
  rcases j.2.2.2 with ⟨a, b⟩ | ⟨a, b⟩ <;> omega
theorem JJ_one {n m : Int} {pt ph al : Int → Int} (h : GOK n m pt ph) {e f u v : Int} (j : JJ m pt ph al e u v) (k : JJ m pt ph al f u v) : e = f := by
  rcases Int.lt_trichotomy e f with q | q | q
  · refine absurd ?_ (h.2 e f j.1 q k.2.1)
    rcases j.2.2.2 with ⟨a, b⟩ | ⟨a, b⟩ <;> rcases k.2.2.2 with ⟨c, d⟩ | ⟨c, d⟩ <;> omega
  · exact q
  · refine absurd ?_ (h.2 f e k.1 q j.2.1)
    rcases j.2.2.2 with ⟨a, b⟩ | ⟨a, b⟩ <;> rcases k.2.2.2 with ⟨c, d⟩ | ⟨c, d⟩ <;> omega
/-! flood -/
def FL0 (seen : Int → Int) (a i : Int) : Prop := ∀ j, 0 ≤ j → j < i → (seen j ≠ 0 ↔ j = a)
def FL1 (n m : Int) (pt ph al seen : Int → Int) (a w : Int) : Prop := (∀ y, 0 ≤ y → y < n → seen y ≠ 0 → cnA (JJ m pt ph al) w a y) ∧ seen a ≠ 0
def FL2 (pt ph al seen : Int → Int) (w e mo : Int) : Prop := mo = 0 → ∀ f, 0 ≤ f → f < e → al f = 1 → pt f ≠ w → ph f ≠ w → seen (pt f) = seen (ph f)
def FLD (n m : Int) (pt ph al seen : Int → Int) (a w : Int) : Prop := ∀ y, 0 ≤ y → y < n → (seen y ≠ 0 ↔ cnA (JJ m pt ph al) w a y)
theorem fl_end {n m : Int} {pt ph al seen : Int → Int} {a w : Int} (hg : GOK n m pt ph) (h1 : FL1 n m pt ph al seen a w) (h2 : FL2 pt ph al seen w m 0) : FLD n m pt ph al seen a w := by
  intro y hy0 hy1
  refine ⟨h1.1 y hy0 hy1, fun hc => ?_⟩
  refine hc (fun z => seen z ≠ 0) (fun u v ⟨⟨e, je⟩, hu, hv⟩ hz => ?_) h1.2
  have h3 := h2 rfl e je.1 je.2.1 je.2.2.1
  rcases je.2.2.2 with ⟨c, d⟩ | ⟨c, d⟩
  · rw [c, d] at h3; rw [← h3 hu hv]; exact hz
  · rw [c, d] at h3; rw [h3 hv hu]; exact hz
theorem fl_step {n m : Int} {pt ph al seen seen_zq : Int → Int} {a w e : Int} (hg : GOK n m pt ph) (h1 : FL1 n m pt ph al seen a w) (he0 : 0 ≤ e) (he1 : e < m) (hal : al e = 1) (hp : pt e ≠ w) (hh : ph e ≠ w) (hne : seen (pt e) ≠ seen (ph e)) (ha : 0 ≤ a)
    (hs : ∀ y, 0 ≤ y → y ≠ pt e → y ≠ ph e → seen_zq y = seen y) (hs1 : seen_zq (pt e) ≠ 0) (hs2 : seen_zq (ph e) ≠ 0) : FL1 n m pt ph al seen_zq a w := by
  have hb := hg.1 e he0 he1
  have hor : cnA (JJ m pt ph al) w a (pt e) ∨ cnA (JJ m pt ph al) w a (ph e) := by
    by_cases q : seen (pt e) = 0
    · exact Or.inr (h1.1 _ (by omega) (by omega) (by omega))
    · exact Or.inl (h1.1 _ (by omega) (by omega) q)
  have st : sv (JJ m pt ph al) w (pt e) (ph e) := ⟨⟨e, he0, he1, hal, Or.inl ⟨rfl, rfl⟩⟩, hp, hh⟩
  have st2 : sv (JJ m pt ph al) w (ph e) (pt e) := ⟨⟨e, he0, he1, hal, Or.inr ⟨rfl, rfl⟩⟩, hh, hp⟩
  have hb1 : cnA (JJ m pt ph al) w a (pt e) := hor.elim id (fun h => rc_trans h (rc_step st2))
  have hb2 : cnA (JJ m pt ph al) w a (ph e) := hor.elim (fun h => rc_trans h (rc_step st)) id
  refine ⟨fun y h0 hy hz => ?_, ?_⟩
  · by_cases q : y = pt e
    · rw [q]; exact hb1
    · by_cases q2 : y = ph e
      · rw [q2]; exact hb2
      · rw [hs y h0 q q2] at hz; exact h1.1 y h0 hy hz
  · by_cases q : a = pt e
    · rw [q]; exact hs1
    · by_cases q2 : a = ph e
      · rw [q2]; exact hs2
      · rw [hs a ha q q2]; exact h1.2
def FL3 (m : Int) (pt ph al seen : Int → Int) (w mo : Int) : Prop := FL2 pt ph al seen w m mo
/-- how many of the first are zero -/
def czN (f : Int → Int) : Nat → Int
  | 0 => 0
  | n + 1 => czN f n + (if f ((n : Nat) : Int) = 0 then 1 else 0)
theorem cz_bd (f : Int → Int) : ∀ n : Nat, 0 ≤ czN f n ∧ czN f n ≤ n
  | 0 => ⟨by show (0 : Int) ≤ 0; omega, by show (0 : Int) ≤ 0; omega⟩
  | n + 1 => by
    have := cz_bd f n
    show 0 ≤ czN f n + _ ∧ czN f n + _ ≤ _
    split <;> omega
theorem cz_eq {f g : Int → Int} : ∀ n : Nat, (∀ j : Int, 0 ≤ j → j < n → (f j = 0 ↔ g j = 0)) → czN f n = czN g n
  | 0, _ => rfl
  | n + 1, h => by
    show czN f n + (if f ((n : Nat) : Int) = 0 then 1 else 0) = czN g n + (if g ((n : Nat) : Int) = 0 then 1 else 0)
    rw [cz_eq n (fun j a b => h j a (by omega))]
    have := h n (by omega) (by omega)
    by_cases q : f ((n : Nat) : Int) = 0
    · rw [if_pos q, if_pos (this.mp q)]
    · rw [if_neg q, if_neg (fun z => q (this.mpr z))]
theorem cz_le {f g : Int → Int} : ∀ n : Nat, (∀ j : Int, 0 ≤ j → j < n → f j = 0 → g j = 0) → czN f n ≤ czN g n
  | 0, _ => Int.le_refl _
  | n + 1, h => by
    show czN f n + (if f ((n : Nat) : Int) = 0 then 1 else 0) ≤ czN g n + (if g ((n : Nat) : Int) = 0 then 1 else 0)
    have h1 := cz_le n (fun j a b => h j a (by omega))
    have := h n (by omega) (by omega)
    by_cases q : f ((n : Nat) : Int) = 0
    · rw [if_pos q, if_pos (this q)]; omega
    · rw [if_neg q]; split <;> omega
theorem cz_lt {f g : Int → Int} {i : Int} : ∀ n : Nat, 0 ≤ i → i < n → (∀ j : Int, 0 ≤ j → j < n → f j = 0 → g j = 0) → g i = 0 → f i ≠ 0 → czN f n + 1 ≤ czN g n
  | 0, h0, h1, _, _, _ => by omega
  | n + 1, h0, h1, h, hg, hf => by
    show czN f n + (if f ((n : Nat) : Int) = 0 then 1 else 0) + 1 ≤ czN g n + (if g ((n : Nat) : Int) = 0 then 1 else 0)
    have hh := h n (by omega) (by omega)
    by_cases q : i = n
    · subst q
      have h2 := cz_le n (fun j a b => h j a (by omega))
      rw [if_neg hf, if_pos hg]; omega
    · have h2 := cz_lt n h0 (by omega) (fun j a b => h j a (by omega)) hg hf
      by_cases q : f ((n : Nat) : Int) = 0
      · rw [if_pos q, if_pos (hh q)]; omega
      · rw [if_neg q]; split <;> omega
noncomputable def cz (f : Int → Int) (n : Int) : Int := Classical.choose (⟨czN f n.toNat, rfl⟩ : ∃ c : Int, c = czN f n.toNat)
theorem cz_is (f : Int → Int) (n : Int) : cz f n = czN f n.toNat := Classical.choose_spec (⟨czN f n.toNat, rfl⟩ : ∃ c : Int, c = czN f n.toNat)
theorem czb (f : Int → Int) {n : Int} (h : 0 ≤ n) : 0 ≤ cz f n ∧ cz f n ≤ n := by rw [cz_is]; have := cz_bd f n.toNat; omega
theorem czlt {f g : Int → Int} {n i : Int} (h0 : 0 ≤ i) (h1 : i < n) (h : ∀ j : Int, 0 ≤ j → j < n → f j = 0 → g j = 0) (hg : g i = 0) (hf : f i ≠ 0) : cz f n + 1 ≤ cz g n := by
  rw [cz_is, cz_is]; exact cz_lt n.toNat h0 (by omega) (fun j a b => h j a (by omega)) hg hf
theorem czle {f g : Int → Int} {n : Int} (h : ∀ j : Int, 0 ≤ j → j < n → f j = 0 → g j = 0) : cz f n ≤ cz g n := by
  rw [cz_is, cz_is]; exact cz_le n.toNat (fun j a b => h j a (by omega))
def FLM (seen : Int → Int) (mo g : Int) : Prop := cz seen 26 + mo ≤ g
def FLN (seen : Int → Int) (mo g : Int) : Prop := cz seen 26 + mo + 1 ≤ g
theorem fln_pos {s : Int → Int} {mo g : Int} (h : FLN s mo g) (h0 : 0 ≤ mo) : 1 ≤ g := by
  have := czb s (n := 26) (by omega)
  unfold FLN at h; omega
end
section
/-! small looks at an edge -/
def ATP (pt ph al : Int → Int) (e i r : Int) : Prop := r ≠ 0 ↔ al e = 1 ∧ (pt e = i ∨ ph e = i)
def acr (pt ph : Int → Int) (e i : Int) : Int := if pt e = i then ph e else pt e
def ACR (pt ph : Int → Int) (e i r : Int) : Prop := r = acr pt ph e i
theorem acr_J {m : Int} {pt ph al : Int → Int} {e i : Int} (h0 : 0 ≤ e) (h1 : e < m) (ha : al e = 1 ∧ (pt e = i ∨ ph e = i)) : JJ m pt ph al e i (acr pt ph e i) := by
  refine ⟨h0, h1, ha.1, ?_⟩
  unfold acr
  by_cases q : pt e = i
  · rw [if_pos q]; exact Or.inl ⟨q, rfl⟩
  · rw [if_neg q]; exact Or.inr ⟨rfl, ha.2.elim (fun z => absurd z q) id⟩
theorem J_acr {n m : Int} {pt ph al : Int → Int} (hg : GOK n m pt ph) {e i x : Int} (h : JJ m pt ph al e i x) : x = acr pt ph e i := by
  unfold acr
  have := hg.1 e h.1 h.2.1
  rcases h.2.2.2 with ⟨a, b⟩ | ⟨a, b⟩
  · rw [if_pos a, b]
  · rw [if_neg (by omega), a]
def EOF (m : Int) (pt ph al : Int → Int) (a b r : Int) : Prop := (r = -1 ∧ ∀ e, ¬ JJ m pt ph al e a b) ∨ JJ m pt ph al r a b
def EOL (pt ph al : Int → Int) (a b i : Int) : Prop := ∀ e, 0 ≤ e → e < i → ¬ (al e = 1 ∧ ((pt e = a ∧ ph e = b) ∨ (pt e = b ∧ ph e = a)))
/-! blocks -/
def bgen (J : pj_T) (m : Int) (bl : Int → Int) : Prop := ∀ c : Int → Prop, (∀ e f, dir J e f → c e → c f) → ∀ e f, 0 ≤ e → e < m → 0 ≤ f → f < m → bl e = bl f → c e → c f
def brng (m : Int) (bl : Int → Int) : Prop := ∀ e, 0 ≤ e → e < m → 0 ≤ bl e ∧ bl e < m
def bdon (J : pj_T) (bl : Int → Int) (v e f : Int) : Prop := ∀ v_zq e_zq f_zq x y, J e_zq v_zq x → J f_zq v_zq y → e_zq < f_zq → cnA J v_zq x y → (v_zq < v ∨ (v_zq = v ∧ (e_zq < e ∨ (e_zq = e ∧ f_zq < f)))) → bl e_zq = bl f_zq
def BB (m : Int) (pt ph al bl : Int → Int) (v e f : Int) : Prop := brng m bl ∧ bgen (JJ m pt ph al) m bl ∧ bdon (JJ m pt ph al) bl v e f
def BB0 (bl : Int → Int) (i : Int) : Prop := ∀ j, 0 ≤ j → j < i → bl j = j
def BBv (m : Int) (pt ph al bl : Int → Int) (v : Int) : Prop := BB m pt ph al bl v 0 0
def BBe (m : Int) (pt ph al bl : Int → Int) (v e : Int) : Prop := BB m pt ph al bl v e 0
def FLE (n m : Int) (pt ph al seen : Int → Int) (e v : Int) : Prop := FLD n m pt ph al seen (acr pt ph e v) v ∧ al e = 1 ∧ (pt e = v ∨ ph e = v)
def JNP (m : Int) (pt ph al bl : Int → Int) (v e f a b : Int) : Prop := 0 ≤ e ∧ e < f ∧ ∃ x y, JJ m pt ph al e v x ∧ JJ m pt ph al f v y ∧ cnA (JJ m pt ph al) v x y ∧ bl e = a ∧ bl f = b
def JNL (m : Int) (pt ph al bl : Int → Int) (v e f a b i : Int) : Prop := ∃ b0, BB m pt ph al b0 v e f ∧ JNP m pt ph al b0 v e f a b ∧ (∀ j, 0 ≤ j → j < i → bl j = if b0 j = a ∨ b0 j = b then (if a < b then a else b) else b0 j) ∧ ∀ j, i ≤ j → bl j = b0 j
theorem cnA_sym {J : pj_T} (hs : jsym J) {v x y : Int} (h : cnA J v x y) : cnA J v y x := rc_symm (sv_sym hs v) h
theorem dir_sym {J : pj_T} (hs : jsym J) {e f : Int} (h : dir J e f) : dir J f e := by
  obtain ⟨v, x, y, a, b, c⟩ := h
  exact ⟨v, y, x, b, a, cnA_sym hs c⟩
theorem bb_0 {m : Int} {pt ph al bl : Int → Int} (h : BB0 bl m) : BBv m pt ph al bl 0 ∨ True := Or.inr trivial
theorem bb_start {n m : Int} {pt ph al bl : Int → Int} (hg : GOK n m pt ph) (h : BB0 bl m) : BBv m pt ph al bl 0 := by
  refine ⟨fun e a b => by rw [h e a b]; exact ⟨a, b⟩, fun c hc e f e0 e1 f0 f1 hb ce => ?_, fun v_zq e_zq f_zq x y j1 j2 h1 h2 h3 => ?_⟩
  · rw [h e e0 e1, h f f0 f1] at hb; rw [← hb]; exact ce
  · have := JJ_rng hg j1; have a1 := j1.1; have a2 := j2.1; omega
theorem bb_next_v {n m : Int} {pt ph al bl : Int → Int} {v e : Int} (h : BBe m pt ph al bl v e) (he : m ≤ e) : BBv m pt ph al bl (v + 1) := by
  refine ⟨h.1, h.2.1, fun v_zq e_zq f_zq x y j1 j2 h1 h2 h3 => h.2.2 v_zq e_zq f_zq x y j1 j2 h1 h2 ?_⟩
  have := j1.2.1
  have a1 := j1.1
  have a2 := j2.1
  omega
theorem bb_next_e {m : Int} {pt ph al bl : Int → Int} {v e f : Int} (h : BB m pt ph al bl v e f) (hf : m ≤ f) : BBe m pt ph al bl v (e + 1) := by
  refine ⟨h.1, h.2.1, fun v_zq e_zq f_zq x y j1 j2 h1 h2 h3 => h.2.2 v_zq e_zq f_zq x y j1 j2 h1 h2 ?_⟩
  have := j2.2.1
  have a1 := j1.1
  have a2 := j2.1
  omega
theorem bb_skip_e {m : Int} {pt ph al bl : Int → Int} {v e : Int} (h : BBe m pt ph al bl v e) (hn : ¬ (al e = 1 ∧ (pt e = v ∨ ph e = v))) : BBe m pt ph al bl v (e + 1) := by
  refine ⟨h.1, h.2.1, fun v_zq e_zq f_zq x y j1 j2 h1 h2 h3 => h.2.2 v_zq e_zq f_zq x y j1 j2 h1 h2 ?_⟩
  by_cases q : v_zq = v ∧ e_zq = e
  · exfalso
    rw [q.1, q.2] at j1
    exact hn ⟨j1.2.2.1, j1.2.2.2.elim (fun z => Or.inl z.1) (fun z => Or.inr z.2)⟩
  · have a1 := j1.1; have a2 := j2.1; omega
theorem bb_skip_f {n m : Int} {pt ph al bl seen : Int → Int} {v e f : Int} (hg : GOK n m pt ph) (h : BB m pt ph al bl v e f) (hq : FLE n m pt ph al seen e v) (he0 : 0 ≤ e) (he1 : e < m) (hn : ¬ (al f = 1 ∧ (pt f = v ∨ ph f = v) ∧ seen (acr pt ph f v) ≠ 0)) : BB m pt ph al bl v e (f + 1) := by
  refine ⟨h.1, h.2.1, fun v_zq e_zq f_zq x y j1 j2 h1 h2 h3 => ?_⟩
  by_cases q : v_zq = v ∧ e_zq = e ∧ f_zq = f
  · exfalso
    obtain ⟨q1, q2, q3⟩ := q
    rw [q1, q2] at j1
    rw [q1, q3] at j2
    rw [q1, J_acr hg j1, J_acr hg j2] at h2
    have hr := JJ_rng hg j2
    rw [J_acr hg j2] at hr
    exact hn ⟨j2.2.2.1, j2.2.2.2.elim (fun z => Or.inl z.1) (fun z => Or.inr z.2), (hq.1 _ hr.2.2.1 hr.2.2.2).mpr h2⟩
  · exact h.2.2 v_zq e_zq f_zq x y j1 j2 h1 h2 (by omega)
theorem jn_start {m : Int} {pt ph al bl : Int → Int} {v e f a b : Int} (h : BB m pt ph al bl v e f) (hj : JNP m pt ph al bl v e f a b) : JNL m pt ph al bl v e f a b 0 := ⟨bl, h, hj, fun j a b => by omega, fun _ _ => rfl⟩
theorem jn_step {m : Int} {pt ph al bl bl_zq : Int → Int} {v e f a b i : Int} (h : JNL m pt ph al bl v e f a b i) (hi : 0 ≤ i) (hs : ∀ j, 0 ≤ j → j ≠ i → bl_zq j = bl j) (h1 : (bl i = a ∨ bl i = b) → bl_zq i = if a < b then a else b) (h2 : ¬ (bl i = a ∨ bl i = b) → bl_zq i = bl i) : JNL m pt ph al bl_zq v e f a b (i + 1) := by
  obtain ⟨b0, q1, q2, q3, q4⟩ := h
  refine ⟨b0, q1, q2, fun j j0 j1 => ?_, fun j hj => by rw [hs j (by omega) (by omega)]; exact q4 j (by omega)⟩
  by_cases q : j = i
  · subst q
    have e0 := q4 j (Int.le_refl _)
    by_cases z : bl j = a ∨ bl j = b
    · rw [h1 z, if_pos (by rw [← e0]; exact z : b0 j = a ∨ b0 j = b)]
    · rw [h2 z, if_neg (by rw [← e0]; exact z : ¬ (b0 j = a ∨ b0 j = b)), e0]
  · rw [hs j j0 q]; exact q3 j j0 (by omega)
theorem jn_same {m : Int} {pt ph al bl : Int → Int} {v e f a : Int} (h : BB m pt ph al bl v e f) (hj : JNP m pt ph al bl v e f a a) : BB m pt ph al bl v e (f + 1) := by
  refine ⟨h.1, h.2.1, fun v_zq e_zq f_zq x y j1 j2 h1 h2 h3 => ?_⟩
  by_cases q : v_zq = v ∧ e_zq = e ∧ f_zq = f
  · obtain ⟨_, _, x_zq, y_zq, _, _, _, q4, q5⟩ := hj
    rw [q.2.1, q.2.2, q4, q5]
  · exact h.2.2 v_zq e_zq f_zq x y j1 j2 h1 h2 (by omega)
theorem jn_end {m : Int} {pt ph al bl : Int → Int} {v e f a b i : Int} (h : JNL m pt ph al bl v e f a b i) (hi : m ≤ i) : BB m pt ph al bl v e (f + 1) := by
  obtain ⟨b0, ⟨r0, g0, d0⟩, ⟨e0, ef, x, y, j1, j2, jc, ea, fb⟩, q3, q4⟩ := h
  have val : ∀ j, 0 ≤ j → j < m → bl j = if b0 j = a ∨ b0 j = b then (if a < b then a else b) else b0 j := fun j p q => q3 j p (by omega)
  have mn : (if a < b then a else b) = a ∨ (if a < b then a else b) = b := by split; exact Or.inl rfl; exact Or.inr rfl
  have ra := r0 e j1.1 j1.2.1
  have rb := r0 f j2.1 j2.2.1
  have keep : ∀ p q, 0 ≤ p → p < m → 0 ≤ q → q < m → b0 p = b0 q → bl p = bl q := fun p q p0 p1 q0 q1 hb => by rw [val p p0 p1, val q q0 q1, hb]
  refine ⟨fun p p0 p1 => ?_, fun c hc p q p0 p1 q0 q1 hb cp => ?_, fun v_zq e_zq f_zq x_zq y_zq k1 k2 h1 h2 h3 => ?_⟩
  · rw [val p p0 p1]
    split
    · rcases mn with z | z <;> rw [z] <;> omega
    · exact r0 p p0 p1
  · have cef : c e → c f := hc e f ⟨v, x, y, j1, j2, jc⟩
    have cfe : c f → c e := hc f e (dir_sym JJ_sym ⟨v, x, y, j1, j2, jc⟩)
    have g := g0 c hc
    rw [val p p0 p1, val q q0 q1] at hb
    -- who has label a or b is as e and f
    have ab : ∀ p, 0 ≤ p → p < m → (b0 p = a ∨ b0 p = b) → ((c p → c e) ∧ (c e → c p)) := by
      intro p p0 p1 h
      rcases h with h | h
      · exact ⟨g p e p0 p1 j1.1 j1.2.1 (h.trans ea.symm), g e p j1.1 j1.2.1 p0 p1 (ea.trans h.symm)⟩
      · exact ⟨fun z => cfe (g p f p0 p1 j2.1 j2.2.1 (h.trans fb.symm) z), fun z => g f p j2.1 j2.2.1 p0 p1 (fb.trans h.symm) (cef z)⟩
    by_cases z1 : b0 p = a ∨ b0 p = b
    · by_cases z2 : b0 q = a ∨ b0 q = b
      · exact (ab q q0 q1 z2).2 ((ab p p0 p1 z1).1 cp)
      · rw [if_pos z1, if_neg z2] at hb
        exact absurd (mn.elim (fun z => Or.inl (hb.symm.trans z)) (fun z => Or.inr (hb.symm.trans z))) z2
    · by_cases z2 : b0 q = a ∨ b0 q = b
      · rw [if_neg z1, if_pos z2] at hb
        exact absurd (mn.elim (fun z => Or.inl (hb.trans z)) (fun z => Or.inr (hb.trans z))) z1
      · rw [if_neg z1, if_neg z2] at hb
        exact g p q p0 p1 q0 q1 hb cp
  · by_cases q : v_zq = v ∧ e_zq = e ∧ f_zq = f
    · obtain ⟨_, q2, q5⟩ := q
      rw [q2, q5, val e j1.1 j1.2.1, val f j2.1 j2.2.1, if_pos (Or.inl ea), if_pos (Or.inr fb)]
    · exact keep e_zq f_zq k1.1 k1.2.1 k2.1 k2.2.1 (d0 v_zq e_zq f_zq x_zq y_zq k1 k2 h1 h2 (by omega))
/-! the blocks numbered -/
def blk (J : pj_T) (m : Int) (b0 : Int → Int) : Prop := brng m b0 ∧ bgen J m b0 ∧ ∀ e f, dir J e f → b0 e = b0 f
def RN0 (m : Int) (pt ph al bl line : Int → Int) (i : Int) : Prop := blk (JJ m pt ph al) m bl ∧ ∀ j, 0 ≤ j → j < i → line j = -1
def RNE (m : Int) (pt ph al bl line : Int → Int) (e many : Int) : Prop := ∃ b0, blk (JJ m pt ph al) m b0 ∧ 0 ≤ many ∧ (many ≤ e ∧ e ≤ m) ∧ (∀ j, e ≤ j → bl j = b0 j) ∧ (∀ j, 0 ≤ j → j < e → (al j = 1 → bl j = line (b0 j) ∧ 0 ≤ bl j) ∧ (al j ≠ 1 → bl j = -1)) ∧ (∀ a, 0 ≤ a → a < m → (line a = -1 ∨ (0 ≤ line a ∧ line a < many))) ∧ (∀ a b, 0 ≤ a → a < m → 0 ≤ b → b < m → 0 ≤ line a → line a = line b → a = b) ∧ (∀ k, 0 ≤ k → k < many → ∃ j, 0 ≤ j ∧ j < e ∧ al j = 1 ∧ line (b0 j) = k)
def BK (m : Int) (pt ph al bl : Int → Int) (many : Int) : Prop := isBl (JJ m pt ph al) bl ∧ 0 ≤ many ∧ (∀ e, 0 ≤ e → e < m → (al e = 1 → 0 ≤ bl e ∧ bl e < many) ∧ (al e ≠ 1 → bl e = -1)) ∧ ∀ k, 0 ≤ k → k < many → ∃ e, 0 ≤ e ∧ e < m ∧ al e = 1 ∧ bl e = k
theorem blk_of {n m : Int} {pt ph al bl : Int → Int} {v : Int} (hg : GOK n m pt ph) (h : BBv m pt ph al bl v) (hv : n ≤ v) : blk (JJ m pt ph al) m bl := by
  refine ⟨h.1, h.2.1, fun e f hd => ?_⟩
  have key : ∀ e f, dir (JJ m pt ph al) e f → e < f → bl e = bl f := by
    rintro e f ⟨v_zq, x, y, a, b, c⟩ hlt
    exact h.2.2 v_zq e f x y a b hlt c (by have := JJ_rng hg a; omega)
  rcases Int.lt_trichotomy e f with q | q | q
  · exact key e f hd q
  · rw [q]
  · exact (key f e (dir_sym JJ_sym hd) q).symm
theorem rn_start {m : Int} {pt ph al bl line : Int → Int} {i : Int} (h : RN0 m pt ph al bl line i) (hi : m ≤ i) (hm : 0 ≤ m) : RNE m pt ph al bl line 0 0 :=
  ⟨bl, h.1, Int.le_refl _, ⟨Int.le_refl _, hm⟩, fun _ _ => rfl, fun j a b => by omega, fun a a0 a1 => Or.inl (h.2 a a0 (by omega)), fun a b a0 a1 b0 b1 h1 _ => by have := h.2 a a0 (by omega); omega, fun k a b => by omega⟩
theorem rn_dead {m : Int} {pt ph al bl bl_zq line : Int → Int} {e many : Int} (h : RNE m pt ph al bl line e many) (he : 0 ≤ e) (hm : e < m) (ha : al e ≠ 1) (hs : ∀ j, 0 ≤ j → j ≠ e → bl_zq j = bl j) (h1 : bl_zq e = -1) : RNE m pt ph al bl_zq line (e + 1) many := by
  obtain ⟨b0, q1, q2, q2_zq, q3, q4, q5, q6, q7⟩ := h
  refine ⟨b0, q1, q2, by omega, fun j hj => by rw [hs j (by omega) (by omega)]; exact q3 j (by omega), fun j a b => ?_, q5, q6, fun k a b => ?_⟩
  · by_cases q : j = e
    · subst q; exact ⟨fun z => absurd z ha, fun _ => h1⟩
    · rw [hs j a q]; exact q4 j a (by omega)
  · obtain ⟨j, z1, z2, z3⟩ := q7 k a b; exact ⟨j, z1, by omega, z3⟩
theorem rn_old {m : Int} {pt ph al bl bl_zq line : Int → Int} {e many : Int} (h : RNE m pt ph al bl line e many) (he : 0 ≤ e) (hm : e < m) (ha : al e = 1) (hl : 0 ≤ line (bl e)) (hs : ∀ j, 0 ≤ j → j ≠ e → bl_zq j = bl j) (h1 : bl_zq e = line (bl e)) : RNE m pt ph al bl_zq line (e + 1) many := by
  obtain ⟨b0, q1, q2, q2_zq, q3, q4, q5, q6, q7⟩ := h
  refine ⟨b0, q1, q2, by omega, fun j hj => by rw [hs j (by omega) (by omega)]; exact q3 j (by omega), fun j a b => ?_, q5, q6, fun k a b => ?_⟩
  · by_cases q : j = e
    · subst q; exact ⟨fun _ => by rw [h1, q3 j (Int.le_refl _)]; rw [q3 j (Int.le_refl _)] at hl; exact ⟨rfl, hl⟩, fun z => absurd ha z⟩
    · rw [hs j a q]; exact q4 j a (by omega)
  · obtain ⟨j, z1, z2, z3⟩ := q7 k a b; exact ⟨j, z1, by omega, z3⟩
theorem rn_new {m : Int} {pt ph al bl bl_zq line line_zq : Int → Int} {e many : Int} (h : RNE m pt ph al bl line e many) (he : 0 ≤ e) (hm : e < m) (ha : al e = 1) (hl : line (bl e) < 0) (hs : ∀ j, 0 ≤ j → j ≠ e → bl_zq j = bl j) (hls : ∀ j, 0 ≤ j → j ≠ bl e → line_zq j = line j) (hl1 : line_zq (bl e) = many) (h1 : bl_zq e = many) : RNE m pt ph al bl_zq line_zq (e + 1) (many + 1) := by
  obtain ⟨b0, q1, q2, q2_zq, q3, q4, q5, q6, q7⟩ := h
  have eb := q3 e (Int.le_refl _)
  rw [eb] at hl hls hl1
  have rb := q1.1 e he hm
  have ne : ∀ j, 0 ≤ j → j < e → al j = 1 → b0 j ≠ b0 e := fun j a b c z => by have := (q4 j a b).1 c; rw [z] at this; omega
  have lj : ∀ j, 0 ≤ j → j < e → al j = 1 → line_zq (b0 j) = line (b0 j) := fun j a b c => hls _ (q1.1 j a (by omega)).1 (ne j a b c)
  refine ⟨b0, q1, by omega, by omega, fun j hj => by rw [hs j (by omega) (by omega)]; exact q3 j (by omega), fun j a b => ?_, fun a a0 a1 => ?_, fun a b a0 a1 c0 c1 h2 h3 => ?_, fun k a b => ?_⟩
  · by_cases q : j = e
    · subst q; exact ⟨fun _ => by rw [h1, hl1]; exact ⟨rfl, q2⟩, fun z => absurd ha z⟩
    · rw [hs j a q]
      have z := q4 j a (by omega)
      exact ⟨fun c => by rw [lj j a (by omega) c]; exact z.1 c, z.2⟩
  · by_cases q : a = b0 e
    · rw [q, hl1]; omega
    · rw [hls a a0 q]; have := q5 a a0 a1; omega
  · by_cases z1 : a = b0 e
    · by_cases z2 : b = b0 e
      · rw [z1, z2]
      · rw [z1, hl1, hls b c0 z2] at h3
        have := q5 b c0 c1; omega
    · by_cases z2 : b = b0 e
      · rw [z2, hl1, hls a a0 z1] at h3
        have := q5 a a0 a1; omega
      · rw [hls a a0 z1] at h2 h3; rw [hls b c0 z2] at h3; exact q6 a b a0 a1 c0 c1 h2 h3
  · by_cases z : k = many
    · exact ⟨e, he, by omega, ha, by rw [hl1, z]⟩
    · obtain ⟨j, z1, z2, z3, z4⟩ := q7 k a (by omega)
      exact ⟨j, z1, by omega, z3, by rw [lj j z1 z2 z3]; exact z4⟩
theorem rn_end {m : Int} {pt ph al bl line : Int → Int} {e many : Int} (h : RNE m pt ph al bl line e many) (he : m ≤ e) : BK m pt ph al bl many := by
  obtain ⟨b0, q1, q2, q2_zq, q3, q4, q5, q6, q7⟩ := h
  have v1 : ∀ j u v, JJ m pt ph al j u v → bl j = line (b0 j) ∧ 0 ≤ bl j := fun j u v z => (q4 j z.1 (by have := z.2.1; omega)).1 z.2.2.1
  refine ⟨⟨fun a b hd => ?_, fun c hc a b ⟨u, v, ja⟩ ⟨u_zq, v_zq, jb⟩ hb ca => ?_⟩, q2, fun a a0 a1 => ?_, fun k k0 k1 => ?_⟩
  · have hd_zq := hd
    obtain ⟨v, x, y, j1, j2, _⟩ := hd
    rw [(v1 a _ _ j1).1, (v1 b _ _ j2).1, q1.2.2 a b hd_zq]
  · have za := v1 a _ _ ja
    have zb := v1 b _ _ jb
    refine q1.2.1 c hc a b ja.1 ja.2.1 jb.1 jb.2.1 (q6 _ _ (q1.1 a ja.1 ja.2.1).1 (q1.1 a ja.1 ja.2.1).2 (q1.1 b jb.1 jb.2.1).1 (q1.1 b jb.1 jb.2.1).2 (by omega) (by omega)) ca
  · have z := q4 a a0 (by omega)
    refine ⟨fun w => ?_, z.2⟩
    have z2 := z.1 w
    have z3 := q5 (b0 a) (q1.1 a a0 a1).1 (q1.1 a a0 a1).2
    omega
  · obtain ⟨j, z1, z2, z3, z4⟩ := q7 k k0 k1
    by_cases z : j < m
    · exact ⟨j, z1, z, z3, by rw [((q4 j z1 z2).1 z3).1]; exact z4⟩
    · omega
def BBn (m : Int) (pt ph al bl : Int → Int) (v e f : Int) : Prop := BB m pt ph al bl v e (f + 1)
theorem rne_b {m : Int} {pt ph al bl line : Int → Int} {e many : Int} (h : RNE m pt ph al bl line e many) (h0 : 0 ≤ e) (h1 : e < m) : 0 ≤ bl e ∧ bl e < m := by
  obtain ⟨b0, q1, q2, q2_zq, q3, q4, q5, q6, q7⟩ := h
  rw [q3 e (Int.le_refl _)]; exact q1.1 e h0 h1
theorem rne_l {m : Int} {pt ph al bl line : Int → Int} {e many a : Int} (h : RNE m pt ph al bl line e many) (h0 : 0 ≤ a) (h1 : a < m) : line a = -1 ∨ (0 ≤ line a ∧ line a < many ∧ many ≤ e ∧ e ≤ m) := by
  obtain ⟨b0, q1, q2, q2_zq, q3, q4, q5, q6, q7⟩ := h
  rcases q5 a h0 h1 with z | z
  · exact Or.inl z
  · exact Or.inr ⟨z.1, z.2, q2_zq.1, q2_zq.2⟩
theorem rne_m {m : Int} {pt ph al bl line : Int → Int} {e many : Int} (h : RNE m pt ph al bl line e many) : 0 ≤ many ∧ many ≤ e ∧ e ≤ m := by
  obtain ⟨b0, q1, q2, q2_zq, q3, q4, q5, q6, q7⟩ := h
  exact ⟨q2, q2_zq.1, q2_zq.2⟩
theorem bb_first {m : Int} {pt ph al bl : Int → Int} {v e : Int} (h : BBe m pt ph al bl v e) : BB m pt ph al bl v e (e + 1) :=
  ⟨h.1, h.2.1, fun v_zq e_zq f_zq x y j1 j2 h1 h2 h3 => h.2.2 v_zq e_zq f_zq x y j1 j2 h1 h2 (by have := j2.1; omega)⟩
theorem acr_rng {n m : Int} {pt ph : Int → Int} (hg : GOK n m pt ph) {e i : Int} (h0 : 0 ≤ e) (h1 : e < m) : 0 ≤ acr pt ph e i ∧ acr pt ph e i < n := by
  have := hg.1 e h0 h1
  unfold acr; split <;> omega
end
section
/-! the shortest way -/
def smN (f : Int → Int) : Nat → Int
  | 0 => 0
  | n + 1 => smN f n + f ((n : Nat) : Int)
theorem sm_le {f g : Int → Int} : ∀ n : Nat, (∀ j : Int, 0 ≤ j → j < n → f j ≤ g j) → smN f n ≤ smN g n
  | 0, _ => Int.le_refl _
  | n + 1, h => by
    show smN f n + f ((n : Nat) : Int) ≤ smN g n + g ((n : Nat) : Int)
    have h1 := sm_le n (fun j a b => h j a (by omega))
    have := h n (by omega) (by omega)
    omega
theorem sm_lt {f g : Int → Int} {i : Int} : ∀ n : Nat, 0 ≤ i → i < n → (∀ j : Int, 0 ≤ j → j < n → f j ≤ g j) → f i + 1 ≤ g i → smN f n + 1 ≤ smN g n
  | 0, h0, h1, _, _ => by omega
  | n + 1, h0, h1, h, hi => by
    show smN f n + f ((n : Nat) : Int) + 1 ≤ smN g n + g ((n : Nat) : Int)
    by_cases q : i = n
    · subst q
      have h2 := sm_le n (fun j a b => h j a (by omega))
      omega
    · have h2 := sm_lt n h0 (by omega) (fun j a b => h j a (by omega)) hi
      have := h n (by omega) (by omega)
      omega
theorem sm_rng {f : Int → Int} {lo hi : Int} : ∀ n : Nat, (∀ j : Int, 0 ≤ j → j < n → lo ≤ f j ∧ f j ≤ hi) → lo * n ≤ smN f n ∧ smN f n ≤ hi * n
  | 0, _ => by
    show lo * ((0 : Nat) : Int) ≤ 0 ∧ 0 ≤ hi * ((0 : Nat) : Int)
    simp
  | n + 1, h => by
    have h1 := sm_rng n (fun j a b => h j a (by omega))
    have h2 := h n (by omega) (by omega)
    show lo * ((n + 1 : Nat) : Int) ≤ smN f n + f ((n : Nat) : Int) ∧ smN f n + f ((n : Nat) : Int) ≤ hi * ((n + 1 : Nat) : Int)
    rw [show ((n + 1 : Nat) : Int) = (n : Int) + 1 by omega, Int.mul_add, Int.mul_add, Int.mul_one, Int.mul_one]
    omega
noncomputable def sm (f : Int → Int) (n : Int) : Int := Classical.choose (⟨smN f n.toNat, rfl⟩ : ∃ c : Int, c = smN f n.toNat)
theorem sm_is (f : Int → Int) (n : Int) : sm f n = smN f n.toNat := Classical.choose_spec (⟨smN f n.toNat, rfl⟩ : ∃ c : Int, c = smN f n.toNat)
theorem smlt {f g : Int → Int} {n i : Int} (h0 : 0 ≤ i) (h1 : i < n) (h : ∀ j : Int, 0 ≤ j → j < n → f j ≤ g j) (hi : f i + 1 ≤ g i) : sm f n + 1 ≤ sm g n := by
  rw [sm_is, sm_is]; exact sm_lt n.toNat h0 (by omega) (fun j a b => h j a (by omega)) hi
theorem smrg {f : Int → Int} {n lo hi : Int} (hn : 0 ≤ n) (h : ∀ j : Int, 0 ≤ j → j < n → lo ≤ f j ∧ f j ≤ hi) : lo * n ≤ sm f n ∧ sm f n ≤ hi * n := by
  have := sm_rng (f := f) (lo := lo) (hi := hi) n.toNat (fun j a b => h j a (by omega))
  rw [sm_is]
  rw [show ((n.toNat : Nat) : Int) = n by omega] at this; exact this
def mgE (only : Int) (dE po : Int → Int) (e : Int) : Prop := dE e = 0 ∧ (only < 0 ∨ po e = only)
def MGP (only : Int) (dE po : Int → Int) (e r : Int) : Prop := r ≠ 0 ↔ mgE only dE po e
def cnd (dn : Int → Int) (a b nw i j : Int) : Prop := (nw = 0 ∨ j = b ∨ dn j = 0) ∧ (nw = 0 ∨ i = a ∨ dn i = 0)
def eJ (pt ph : Int → Int) (e i j : Int) : Prop := (pt e = i ∧ ph e = j) ∨ (pt e = j ∧ ph e = i)
def ARC (m only : Int) (pt ph dE po : Int → Int) (i j : Int) : Prop := ∃ e, 0 ≤ e ∧ e < m ∧ mgE only dE po e ∧ eJ pt ph e i j
def UA (m : Int) (al dE : Int → Int) : Prop := ∀ e, 0 ≤ e → e < m → dE e = 0 → al e = 1
def TG0 (tg : Int → Int) (b i : Int) : Prop := ∀ j, 0 ≤ j → j < i → tg j = if j = b then 0 else 1000000
def TGI (n m only : Int) (pt ph dE po dn tg : Int → Int) (a b nw : Int) : Prop := (∀ i, 0 ≤ i → i < n → 0 ≤ tg i ∧ tg i ≤ 1000000) ∧ tg b = 0 ∧ (∀ i, 0 ≤ i → i < n → i ≠ b → 1 ≤ tg i) ∧ ∀ i, 0 ≤ i → i < n → i ≠ b → tg i < 1000000 → ∃ j, 0 ≤ j ∧ j < n ∧ ARC m only pt ph dE po i j ∧ cnd dn a b nw i j ∧ tg j + 1 ≤ tg i
def satd (dn tg : Int → Int) (a b nw i j : Int) : Prop := cnd dn a b nw i j → tg i ≤ tg j + 1
def TG3 (only : Int) (pt ph dE po dn tg : Int → Int) (a b nw E mo i0 j0 : Int) : Prop := mo = 0 → (∀ e, 0 ≤ e → e < E → mgE only dE po e → satd dn tg a b nw (pt e) (ph e) ∧ satd dn tg a b nw (ph e) (pt e)) ∧ satd dn tg a b nw i0 j0
def TG4 (m only : Int) (pt ph dE po dn tg : Int → Int) (a b nw mo : Int) : Prop := TG3 only pt ph dE po dn tg a b nw m mo b b
def SMM (n : Int) (tg : Int → Int) (mo g : Int) : Prop := sm tg n + mo ≤ g
def SMN (n : Int) (tg : Int → Int) (mo g : Int) : Prop := sm tg n + mo + 1 ≤ g
def CLO (n only : Int) (pt ph dE po dn tg : Int → Int) (i j a b nw E mo i0 j0 s r : Int) : Prop := (r = 0 → TG3 only pt ph dE po dn tg a b nw E mo i0 j0 ∧ satd dn tg a b nw i j ∧ sm tg n + mo + 1 ≤ s) ∧ (r ≠ 0 → sm tg n + 2 ≤ s)
theorem tg_start {n m only : Int} {pt ph dE po dn tg : Int → Int} {a b nw i : Int} (h : TG0 tg b i) (hi : n ≤ i) (hb0 : 0 ≤ b) (hb1 : b < n) : TGI n m only pt ph dE po dn tg a b nw := by
  have v : ∀ j, 0 ≤ j → j < n → tg j = if j = b then 0 else 1000000 := fun j x y => h j x (by omega)
  refine ⟨fun j x y => by rw [v j x y]; split <;> omega, by rw [v b hb0 hb1, if_pos rfl], fun j x y z => by rw [v j x y, if_neg z]; omega, fun j x y z w => by rw [v j x y, if_neg z] at w; omega⟩
theorem tg_lower {n m only : Int} {pt ph dE po dn tg tg_zq : Int → Int} {a b nw i j : Int} (h : TGI n m only pt ph dE po dn tg a b nw) (hi0 : 0 ≤ i) (hi1 : i < n) (hj0 : 0 ≤ j) (hj1 : j < n) (ha : ARC m only pt ph dE po i j) (hc : cnd dn a b nw i j) (hlt : tg j + 1 < tg i) (hs : ∀ y, 0 ≤ y → y ≠ i → tg_zq y = tg y) (hv : tg_zq i = tg j + 1) (hb : 0 ≤ b) : TGI n m only pt ph dE po dn tg_zq a b nw := by
  obtain ⟨h1, h2, h3, h4⟩ := h
  have hij : j ≠ i := fun e => by rw [e] at hlt; omega
  have hb_zq : i ≠ b := fun e => by have := h1 j hj0 hj1; rw [e, h2] at hlt; omega
  have le : ∀ y, 0 ≤ y → tg_zq y ≤ tg y := fun y hy => by
    by_cases q : y = i
    · rw [q, hv]; omega
    · rw [hs y hy q]; exact Int.le_refl _
  refine ⟨fun y y0 y1 => ?_, by rw [hs b hb (fun e => hb_zq e.symm)]; exact h2, fun y y0 y1 hy => ?_, fun y y0 y1 hy hf => ?_⟩
  · by_cases q : y = i
    · rw [q, hv]; have := h1 j hj0 hj1; have := h1 i hi0 hi1; omega
    · rw [hs y y0 q]; exact h1 y y0 y1
  · by_cases q : y = i
    · rw [q, hv]; have := h1 j hj0 hj1; omega
    · rw [hs y y0 q]; exact h3 y y0 y1 hy
  · by_cases q : y = i
    · subst q
      exact ⟨j, hj0, hj1, ha, hc, by rw [hv, hs j hj0 hij]; omega⟩
    · rw [hs y y0 q] at hf
      obtain ⟨k, k0, k1, k2, k3, k4⟩ := h4 y y0 y1 hy hf
      exact ⟨k, k0, k1, k2, k3, by rw [hs y y0 q]; have := le k k0; omega⟩
/-- at rest: each step of a way goes down by one -/
theorem tg_next {n m only : Int} {pt ph dE po dn tg : Int → Int} {a b nw i : Int} (h : TGI n m only pt ph dE po dn tg a b nw) (hf : TG4 m only pt ph dE po dn tg a b nw 0) (h0 : 0 ≤ i) (h1 : i < n) (hb : i ≠ b) (hl : tg i < 1000000) : ∃ j, 0 ≤ j ∧ j < n ∧ ARC m only pt ph dE po i j ∧ cnd dn a b nw i j ∧ tg j = tg i - 1 := by
  obtain ⟨j, j0, j1, j2, j3, j4⟩ := h.2.2.2 i h0 h1 hb hl
  refine ⟨j, j0, j1, j2, j3, ?_⟩
  obtain ⟨e, e0, e1, e2, e3⟩ := j2
  have s := (hf rfl).1 e e0 e1 e2
  unfold satd at s
  rcases e3 with ⟨p, q⟩ | ⟨p, q⟩
  · rw [p, q] at s; have := s.1 j3; omega
  · rw [p, q] at s; have := s.2 j3; omega
theorem tg_lev {n m only : Int} {pt ph dE po dn tg : Int → Int} {a b nw i : Int} (h : TGI n m only pt ph dE po dn tg a b nw) (hf : TG4 m only pt ph dE po dn tg a b nw 0) : ∀ d : Nat, ∀ i, 0 ≤ i → i < n → tg i < 1000000 → d ≤ tg i → ∃ j, 0 ≤ j ∧ j < n ∧ tg j = tg i - d
  | 0, i, h0, h1, _, _ => ⟨i, h0, h1, by omega⟩
  | d + 1, i, h0, h1, h2, h3 => by
    obtain ⟨j, j0, j1, j2⟩ := tg_lev (i := i) h hf d i h0 h1 h2 (by omega)
    have hb : j ≠ b := fun e => by rw [e, h.2.1] at j2; omega
    obtain ⟨k, k0, k1, _, _, k2⟩ := tg_next h hf j0 j1 hb (by omega)
    exact ⟨k, k0, k1, by omega⟩
theorem tg_bd {n m only : Int} {pt ph dE po dn tg : Int → Int} {a b nw i : Int} (h : TGI n m only pt ph dE po dn tg a b nw) (hf : TG4 m only pt ph dE po dn tg a b nw 0) (h0 : 0 ≤ i) (h1 : i < n) (hl : tg i < 1000000) : tg i + 1 ≤ n := by
  have hx : ∀ t : Nat, ∃ j : Int, t ≤ (tg i).toNat → 0 ≤ j ∧ j < n ∧ tg j = t := by
    intro t
    by_cases q : t ≤ (tg i).toNat
    · have := (h.1 i h0 h1).1
      obtain ⟨j, j0, j1, j2⟩ := tg_lev (i := i) h hf ((tg i).toNat - t) i h0 h1 hl (by omega)
      exact ⟨j, fun _ => ⟨j0, j1, by omega⟩⟩
    · exact ⟨0, fun z => absurd z q⟩
  have hX : ∃ F : Nat → Int, ∀ t, t ≤ (tg i).toNat → 0 ≤ F t ∧ F t < n ∧ tg (F t) = t := ⟨fun t => Classical.choose (hx t), fun t => Classical.choose_spec (hx t)⟩
  obtain ⟨F, hF⟩ := hX
  have := php ((tg i).toNat + 1) n.toNat (fun t => (F t).toNat) (fun t ht => by have := hF t (by omega); show (F t).toNat < n.toNat; omega) (fun s t hs ht e => by
    have e_zq : (F s).toNat = (F t).toNat := e
    have a1 := hF s (by omega)
    have a2 := hF t (by omega)
    have : F s = F t := by omega
    rw [this] at a1; omega)
  have := (h.1 i h0 h1).1
  omega
/-- what is answered: no way, or one -/
def NOW (n m only : Int) (pt ph dE po dn : Int → Int) (a b nw : Int) : Prop := ∃ L : Int → Prop, L b ∧ ¬ L a ∧ ∀ i j, 0 ≤ i → i < n → 0 ≤ j → j < n → ARC m only pt ph dE po i j → cnd dn a b nw i j → L j → L i
def WAY (n m only : Int) (pt ph al dE po dn way : Int → Int) (a b nw wm : Int) : Prop := 1 ≤ wm ∧ wm ≤ n ∧ way 0 = a ∧ way (wm - 1) = b ∧ (∀ k, 0 ≤ k → k < wm → 0 ≤ way k ∧ way k < n) ∧ (∀ k l, 0 ≤ k → k < l → l < wm → way k ≠ way l) ∧ (∀ k, 0 ≤ k → k + 1 < wm → ∃ e, JJ m pt ph al e (way k) (way (k + 1)) ∧ mgE only dE po e) ∧ ∀ k, 0 < k → k + 1 < wm → nw = 0 ∨ dn (way k) = 0
def SHP (n m only wm : Int) (pt ph al dE po dn way : Int → Int) (a b nw : Int) : Prop := (wm = 0 ∧ NOW n m only pt ph dE po dn a b nw) ∨ WAY n m only pt ph al dE po dn way a b nw wm
theorem sh_no {n m only : Int} {pt ph al dE po dn way tg : Int → Int} {a b nw : Int} (h : TGI n m only pt ph dE po dn tg a b nw) (hf : TG4 m only pt ph dE po dn tg a b nw 0) (ha : 1000000 ≤ tg a) (hn : n ≤ 1000) : SHP n m only 0 pt ph al dE po dn way a b nw := by
  refine Or.inl ⟨rfl, fun i => tg i < 1000000, by show tg b < 1000000; rw [h.2.1]; omega, by show ¬ tg a < 1000000; omega, fun i j i0 i1 j0 j1 ⟨e, e0, e1, e2, e3⟩ hc hj => ?_⟩
  have s := (hf rfl).1 e e0 e1 e2
  unfold satd at s
  have hj_zq : tg j < 1000000 := hj
  by_cases q : i = b
  · rw [q]; show tg b < 1000000; rw [h.2.1]; omega
  · have hle : tg i ≤ tg j + 1 := by
      rcases e3 with ⟨x, y⟩ | ⟨x, y⟩
      · rw [x, y] at s; exact s.1 hc
      · rw [x, y] at s; exact s.2 hc
    by_cases qj : j = b
    · show tg i < 1000000; rw [qj, h.2.1] at hle; omega
    · have := tg_bd h hf j0 j1 hj_zq
      show tg i < 1000000; omega
/-- on the way: w nodes so far, the last one i -/
def WLK (n m only wm : Int) (pt ph al dE po dn tg way : Int → Int) (a b nw i : Int) : Prop := 1 ≤ wm ∧ way 0 = a ∧ way (wm - 1) = i ∧ (∀ k, 0 ≤ k → k < wm → 0 ≤ way k ∧ way k < n ∧ tg (way k) = tg a - k) ∧ (∀ k, 0 ≤ k → k + 1 < wm → ∃ e, JJ m pt ph al e (way k) (way (k + 1)) ∧ mgE only dE po e) ∧ (∀ k, 0 < k → k < wm → nw = 0 ∨ way k = b ∨ dn (way k) = 0) ∧ tg a < 1000000
def NXG (n m only : Int) (pt ph al dE po dn tg : Int → Int) (b nw i j : Int) : Prop := 0 ≤ j ∧ j < n ∧ (∃ e, JJ m pt ph al e i j ∧ mgE only dE po e) ∧ tg j = tg i - 1 ∧ (j = b ∨ nw = 0 ∨ dn j = 0)
def NXT (n m only : Int) (pt ph al dE po dn tg : Int → Int) (b nw i nx j : Int) : Prop := (nx = -1 ∨ NXG n m only pt ph al dE po dn tg b nw i nx) ∧ ∀ k, j < k → NXG n m only pt ph al dE po dn tg b nw i k → nx ≠ -1
theorem wlk_bd {n m only wm : Int} {pt ph al dE po dn tg way : Int → Int} {a b nw i : Int} (h : TGI n m only pt ph dE po dn tg a b nw) (hf : TG4 m only pt ph dE po dn tg a b nw 0) (w : WLK n m only wm pt ph al dE po dn tg way a b nw i) : wm ≤ n ∧ 0 ≤ i ∧ i < n ∧ 1 ≤ wm ∧ tg i = tg a - (wm - 1) := by
  obtain ⟨w1, w2, w3, w4, w5, w6, w7⟩ := w
  have ha := w4 0 (by omega) (by omega)
  rw [w2] at ha
  have hl := w4 (wm - 1) (by omega) (by omega)
  rw [w3] at hl
  have := tg_bd h hf ha.1 ha.2.1 w7
  have h3 := h.1 i hl.1 hl.2.1
  exact ⟨by omega, hl.1, hl.2.1, w1, hl.2.2⟩
theorem wlk_start {n m only : Int} {pt ph al dE po dn tg way : Int → Int} {a b nw : Int} (ha0 : 0 ≤ a) (ha1 : a < n) (hl : tg a < 1000000) (hw : way 0 = a) : WLK n m only 1 pt ph al dE po dn tg way a b nw a :=
  ⟨by omega, hw, by rw [show (1 : Int) - 1 = 0 by omega]; exact hw, fun k k0 k1 => by rw [show k = 0 by omega, hw]; exact ⟨ha0, ha1, by omega⟩, fun k k0 k1 => by omega, fun k k0 k1 => by omega, hl⟩
theorem wlk_step {n m only wm : Int} {pt ph al dE po dn tg way way_zq : Int → Int} {a b nw i nx : Int} (w : WLK n m only wm pt ph al dE po dn tg way a b nw i) (hs : ∀ k, 0 ≤ k → k ≠ wm → way_zq k = way k) (hv : way_zq wm = nx) (hx : NXG n m only pt ph al dE po dn tg b nw i nx) : WLK n m only (wm + 1) pt ph al dE po dn tg way_zq a b nw nx := by
  obtain ⟨w1, w2, w3, w4, w5, w6, w7⟩ := w
  obtain ⟨x1, x2, x3, x4, x5⟩ := hx
  have hl := w4 (wm - 1) (by omega) (by omega)
  rw [w3] at hl
  refine ⟨by omega, by rw [hs 0 (by omega) (by omega)]; exact w2, by rw [show wm + 1 - 1 = wm by omega]; exact hv, fun k k0 k1 => ?_, fun k k0 k1 => ?_, fun k k0 k1 => ?_, w7⟩
  · by_cases q : k = wm
    · rw [q, hv]; exact ⟨x1, x2, by omega⟩
    · rw [hs k k0 q]; exact w4 k k0 (by omega)
  · by_cases q : k + 1 = wm
    · rw [q, hv, hs k k0 (by omega), show k = wm - 1 by omega, w3]; exact x3
    · rw [hs k k0 (by omega), hs (k + 1) (by omega) q]; exact w5 k k0 (by omega)
  · by_cases q : k = wm
    · rw [q, hv]; rcases x5 with z | z | z
      · exact Or.inr (Or.inl z)
      · exact Or.inl z
      · exact Or.inr (Or.inr z)
    · rw [hs k (by omega) q]; exact w6 k k0 (by omega)
theorem wlk_end {n m only wm : Int} {pt ph al dE po dn tg way : Int → Int} {a b nw : Int} (h : TGI n m only pt ph dE po dn tg a b nw) (hf : TG4 m only pt ph dE po dn tg a b nw 0) (w : WLK n m only wm pt ph al dE po dn tg way a b nw b) : SHP n m only wm pt ph al dE po dn way a b nw := by
  have hb := wlk_bd h hf w
  obtain ⟨w1, w2, w3, w4, w5, w6, w7⟩ := w
  have hl := (w4 (wm - 1) (by omega) (by omega)).2.2
  rw [w3, h.2.1] at hl
  refine Or.inr ⟨w1, hb.1, w2, w3, fun k k0 k1 => ⟨(w4 k k0 k1).1, (w4 k k0 k1).2.1⟩, fun k l k0 k1 k2 e => ?_, w5, fun k k0 k1 => ?_⟩
  · have e1 := (w4 k k0 (by omega)).2.2
    have e2 := (w4 l (by omega) k2).2.2
    rw [e] at e1; omega
  · rcases w6 k k0 (by omega) with z | z | z
    · exact Or.inl z
    · exfalso
      have e1 := (w4 k (by omega) (by omega)).2.2
      rw [z, h.2.1] at e1; omega
    · exact Or.inr z
theorem nxt_some {n m only wm : Int} {pt ph al dE po dn tg way : Int → Int} {a b nw i nx j : Int} (hua : UA m al dE) (h : TGI n m only pt ph dE po dn tg a b nw) (hf : TG4 m only pt ph dE po dn tg a b nw 0) (w : WLK n m only wm pt ph al dE po dn tg way a b nw i) (hb : i ≠ b) (hx : NXT n m only pt ph al dE po dn tg b nw i nx j) (hj : j < 0) : NXG n m only pt ph al dE po dn tg b nw i nx := by
  have hw := wlk_bd h hf w
  have hl : tg i < 1000000 := by have := w.2.2.2.2.2.2; omega
  obtain ⟨k, k0, k1, k2, k3, k4⟩ := tg_next h hf hw.2.1 hw.2.2.1 hb hl
  obtain ⟨e, e0, e1, e2, e3⟩ := k2
  have hg : NXG n m only pt ph al dE po dn tg b nw i k := ⟨k0, k1, ⟨e, ⟨e0, e1, hua e e0 e1 e2.1, e3⟩, e2⟩, k4, by rcases k3.1 with z | z | z; exact Or.inr (Or.inl z); exact Or.inl z; exact Or.inr (Or.inr z)⟩
  exact hx.1.elim (fun z => absurd z (hx.2 k (by omega) hg)) id
theorem tgi_rng {n m only : Int} {pt ph dE po dn tg : Int → Int} {a b nw i : Int} (h : TGI n m only pt ph dE po dn tg a b nw) (h0 : 0 ≤ i) (h1 : i < n) : 0 ≤ tg i ∧ tg i ≤ 1000000 := h.1 i h0 h1
def TG5 (m only : Int) (pt ph dE po dn tg : Int → Int) (a b nw : Int) : Prop := TG4 m only pt ph dE po dn tg a b nw 0
theorem smn_pos {n m only : Int} {pt ph dE po dn tg : Int → Int} {a b nw mo g : Int} (h : SMN n tg mo g) (h0 : 0 ≤ mo) (hT : TGI n m only pt ph dE po dn tg a b nw) (hn : 0 ≤ n) : 1 ≤ g := by
  have := smrg (f := tg) (n := n) (lo := 0) (hi := 1000000) hn (fun j a b => hT.1 j a b)
  unfold SMN at h; omega
theorem nxt_skip {n m only : Int} {pt ph al dE po dn tg : Int → Int} {b nw i nx j : Int} (h : NXT n m only pt ph al dE po dn tg b nw i nx j) (hn : ¬ NXG n m only pt ph al dE po dn tg b nw i j) : NXT n m only pt ph al dE po dn tg b nw i nx (j + -1) := by
  refine ⟨h.1, fun k hk g => ?_⟩
  by_cases q : k = j
  · rw [q] at g; exact absurd g hn
  · exact h.2 k (by omega) g
theorem nxt_take {n m only : Int} {pt ph al dE po dn tg : Int → Int} {b nw i j : Int} (hn : NXG n m only pt ph al dE po dn tg b nw i j) : NXT n m only pt ph al dE po dn tg b nw i j (j + -1) :=
  ⟨Or.inr hn, fun _ _ _ => by have := hn.1; omega⟩
end
section
/-! pieces: what is not drawn, by new nodes -/
def shn (pt ph dn : Int → Int) (e f : Int) : Prop := (dn (pt e) = 0 ∧ (pt f = pt e ∨ ph f = pt e)) ∨ (dn (ph e) = 0 ∧ (pt f = ph e ∨ ph f = ph e))
def SHN (pt ph dn : Int → Int) (e f r : Int) : Prop := r ≠ 0 ↔ shn pt ph dn e f
theorem shn_sym {pt ph dn : Int → Int} {e f : Int} (h : shn pt ph dn e f) : shn pt ph dn f e := by
  rcases h with ⟨a, b | b⟩ | ⟨a, b | b⟩
  · exact Or.inl ⟨by rw [b]; exact a, Or.inl b.symm⟩
  · exact Or.inr ⟨by rw [b]; exact a, Or.inl b.symm⟩
  · exact Or.inl ⟨by rw [b]; exact a, Or.inr b.symm⟩
  · exact Or.inr ⟨by rw [b]; exact a, Or.inr b.symm⟩
def pgen (m : Int) (pt ph dE dn po : Int → Int) : Prop := ∀ c : Int → Prop, (∀ e f, 0 ≤ e → e < m → 0 ≤ f → f < m → dE e = 0 → dE f = 0 → shn pt ph dn e f → c e → c f) → ∀ e f, 0 ≤ e → e < m → 0 ≤ f → f < m → dE e = 0 → dE f = 0 → po e = po f → c e → c f
def prng (m : Int) (dE po : Int → Int) : Prop := ∀ e, 0 ≤ e → e < m → (dE e ≠ 0 → po e = -1) ∧ (dE e = 0 → 0 ≤ po e ∧ po e ≤ e)
def PC0 (dE po : Int → Int) (i : Int) : Prop := ∀ e, 0 ≤ e → e < i → (dE e ≠ 0 → po e = -1) ∧ (dE e = 0 → po e = e)
def PCI (m : Int) (pt ph dE dn po : Int → Int) : Prop := prng m dE po ∧ pgen m pt ph dE dn po
def PC2 (pt ph dE dn po : Int → Int) (e f mo : Int) : Prop := mo = 0 → ∀ e_zq f_zq, 0 ≤ f_zq → f_zq < e_zq → (e_zq < e ∨ (e_zq = e ∧ f_zq < f)) → dE e_zq = 0 → dE f_zq = 0 → shn pt ph dn e_zq f_zq → po e_zq = po f_zq
def PC3 (m : Int) (pt ph dE dn po : Int → Int) (mo : Int) : Prop := PC2 pt ph dE dn po m 0 mo
def PC4 (pt ph dE dn po : Int → Int) (e mo : Int) : Prop := PC2 pt ph dE dn po e 0 mo
def PCM (m : Int) (po : Int → Int) (mo g : Int) : Prop := sm po m + mo ≤ g
def PCN (m : Int) (po : Int → Int) (mo g : Int) : Prop := sm po m + mo + 1 ≤ g
def PCS (m : Int) (pt ph dE dn po : Int → Int) : Prop := PCI m pt ph dE dn po ∧ ∀ e f, 0 ≤ e → e < m → 0 ≤ f → f < m → dE e = 0 → dE f = 0 → shn pt ph dn e f → po e = po f
theorem pc_start {m : Int} {pt ph dE dn po : Int → Int} {i : Int} (h : PC0 dE po i) (hi : m ≤ i) : PCI m pt ph dE dn po := by
  refine ⟨fun e a b => ⟨(h e a (by omega)).1, fun z => by have := (h e a (by omega)).2 z; omega⟩, fun c hc e f e0 e1 f0 f1 de df hb ce => ?_⟩
  rw [(h e e0 (by omega)).2 de, (h f f0 (by omega)).2 df] at hb
  rw [← hb]; exact ce
theorem pc_end {m : Int} {pt ph dE dn po : Int → Int} (h : PCI m pt ph dE dn po) (h3 : PC3 m pt ph dE dn po 0) : PCS m pt ph dE dn po := by
  refine ⟨h, fun e f e0 e1 f0 f1 de df hs => ?_⟩
  rcases Int.lt_trichotomy e f with q | q | q
  · exact (h3 rfl f e e0 q (by omega) df de (shn_sym hs)).symm
  · rw [q]
  · exact h3 rfl e f f0 q (by omega) de df hs
theorem pc_step {m : Int} {pt ph dE dn po po_zq : Int → Int} {e f p : Int} (h : PCI m pt ph dE dn po) (e0 : 0 ≤ e) (e1 : e < m) (f0 : 0 ≤ f) (hfe : f < e) (de : dE e = 0) (df : dE f = 0) (hne : po e ≠ po f) (hs : shn pt ph dn e f) (hp : (p = po e ∧ po e ≤ po f) ∨ (p = po f ∧ po f ≤ po e)) (ho : ∀ j, 0 ≤ j → j ≠ e → j ≠ f → po_zq j = po j) (he : po_zq e = p) (hf : po_zq f = p) : PCI m pt ph dE dn po_zq := by
  obtain ⟨r, g⟩ := h
  have re := (r e e0 e1).2 de
  have rf := (r f f0 (by omega)).2 df
  refine ⟨fun j j0 j1 => ?_, fun c hc a b a0 a1 b0 b1 da db hb ca => ?_⟩
  · by_cases q : j = e
    · subst q; exact ⟨fun z => absurd de z, fun _ => by rw [he]; omega⟩
    · by_cases q2 : j = f
      · subst q2; exact ⟨fun z => absurd df z, fun _ => by rw [hf]; omega⟩
      · rw [ho j j0 q q2]; exact r j j0 j1
  · have cef : c e → c f := hc e f e0 e1 f0 (by omega) de df hs
    have cfe : c f → c e := hc f e f0 (by omega) e0 e1 df de (shn_sym hs)
    have g_zq := g c hc
    -- who has the label p is as e and f
    have lp : ∀ j, 0 ≤ j → j < m → dE j = 0 → po j = p → (c j → c e) ∧ (c e → c j) := by
      intro j j0 j1 dj hj
      rcases hp with ⟨z, _⟩ | ⟨z, _⟩
      · exact ⟨g_zq j e j0 j1 e0 e1 dj de (hj.trans z), g_zq e j e0 e1 j0 j1 de dj (z.symm.trans hj.symm)⟩
      · exact ⟨fun w => cfe (g_zq j f j0 j1 f0 (by omega) dj df (hj.trans z) w), fun w => g_zq f j f0 (by omega) j0 j1 df dj (z.symm.trans hj.symm) (cef w)⟩
    have lq : ∀ j, 0 ≤ j → j < m → dE j = 0 → po_zq j = p → (c j → c e) ∧ (c e → c j) := by
      intro j j0 j1 dj hj
      by_cases q : j = e
      · subst q; exact ⟨id, id⟩
      · by_cases q2 : j = f
        · subst q2; exact ⟨cfe, cef⟩
        · rw [ho j j0 q q2] at hj; exact lp j j0 j1 dj hj
    by_cases z : po_zq a = p
    · exact (lq b b0 b1 db (hb.symm.trans z)).2 ((lq a a0 a1 da z).1 ca)
    · have za : po_zq a = po a := ho a a0 (fun q => z (by rw [q]; exact he)) (fun q => z (by rw [q]; exact hf))
      have zb_zq : po_zq b ≠ p := fun w => z (hb.trans w)
      have zb : po_zq b = po b := ho b b0 (fun q => zb_zq (by rw [q]; exact he)) (fun q => zb_zq (by rw [q]; exact hf))
      exact g_zq a b a0 a1 b0 b1 da db (by rw [← za, ← zb]; exact hb) ca
theorem pc_sum {m : Int} {dE po po_zq : Int → Int} {e f p : Int} (e0 : 0 ≤ e) (e1 : e < m) (f0 : 0 ≤ f) (hfe : f < e) (hne : po e ≠ po f) (hp : (p = po e ∧ po e ≤ po f) ∨ (p = po f ∧ po f ≤ po e)) (ho : ∀ j, 0 ≤ j → j ≠ e → j ≠ f → po_zq j = po j) (he : po_zq e = p) (hf : po_zq f = p) : sm po_zq m + 1 ≤ sm po m := by
  have le : ∀ j, 0 ≤ j → j < m → po_zq j ≤ po j := by
    intro j j0 j1
    by_cases q : j = e
    · rw [q, he]; omega
    · by_cases q2 : j = f
      · rw [q2, hf]; omega
      · rw [ho j j0 q q2]; exact Int.le_refl _
  rcases hp with ⟨z, w⟩ | ⟨z, w⟩
  · exact smlt f0 (by omega) le (by rw [hf]; omega)
  · exact smlt e0 e1 le (by rw [he]; omega)
theorem pcn_pos {m : Int} {pt ph dE dn po : Int → Int} {mo g : Int} (h : PCN m po mo g) (h0 : 0 ≤ mo) (hI : PCI m pt ph dE dn po) (hm : 0 ≤ m) (hm1 : m ≤ 80) : -90 ≤ g := by
  have := smrg (f := po) (n := m) (lo := -1) (hi := 80) hm (fun j a b => by
    have := hI.1 j a b
    by_cases q : dE j = 0
    · have := this.2 q; omega
    · have := this.1 q; omega)
  unfold PCN at h; omega
theorem pc_sm0 {m : Int} {dE po : Int → Int} {i : Int} (h : PC0 dE po i) (hi : m ≤ i) (hm : 0 ≤ m) (hm1 : m ≤ 80) : sm po m ≤ 6400 := by
  have := smrg (f := po) (n := m) (lo := -1) (hi := 80) hm (fun j a b => by
    have := h j a (by omega)
    by_cases q : dE j = 0
    · have := this.2 q; omega
    · have := this.1 q; omega)
  omega
theorem pc2_next {pt ph dE dn po : Int → Int} {e f mo : Int} (h : PC2 pt ph dE dn po e f mo) (hn : mo = 0 → dE e = 0 → dE f = 0 → shn pt ph dn e f → po e = po f) : PC2 pt ph dE dn po e (f + 1) mo := by
  intro h0 e_zq f_zq f0 hfe hlt de df hs
  by_cases q : e_zq = e ∧ f_zq = f
  · obtain ⟨rfl, rfl⟩ := q; exact hn h0 de df hs
  · exact h h0 e_zq f_zq f0 hfe (by omega) de df hs
theorem pc2_up {pt ph dE dn po : Int → Int} {e f mo : Int} (h : PC2 pt ph dE dn po e f mo) (hf : e ≤ f) : PC2 pt ph dE dn po (e + 1) 0 mo := by
  intro h0 e_zq f_zq f0 hfe hlt de df hs
  exact h h0 e_zq f_zq f0 hfe (by omega) de df hs
end
section
/-! sets of nodes as bits -/
def bvp (x : Int) : BitVec 32 := BitVec.ofInt 32 x
def bit (x i : Int) : Prop := (bvp x).getLsbD i.toNat = true
theorem bit_or {n a b : Int} (h : bvp n = bvp a ||| bvp b) (i : Int) : bit n i ↔ bit a i ∨ bit b i := by
  unfold bit; rw [h, BitVec.getLsbD_or]; simp
theorem bit_and {n a b : Int} (h : bvp n = bvp a &&& bvp b) (i : Int) : bit n i ↔ bit a i ∧ bit b i := by
  unfold bit; rw [h, BitVec.getLsbD_and]; simp
theorem bit_shl {n a b : Int} (h : bvp n = bvp a <<< b.toNat) (ha : a = 1) {i : Int} (hb : 0 ≤ b) (hi : 0 ≤ i) (hi2 : i < 32) : bit n i ↔ i = b := by
  unfold bit
  rw [h, BitVec.getLsbD_shiftLeft, ha]
  have e1 : ∀ k : Nat, (bvp 1).getLsbD k = decide (k = 0) := by
    intro k
    have : bvp 1 = 1#32 := by decide
    rw [this, BitVec.getLsbD_one]; simp
  rw [e1]
  simp only [Bool.and_eq_true, decide_eq_true_eq, Bool.not_eq_true', decide_eq_false_iff_not]
  omega
theorem bit_shr {n a b : Int} (h : bvp n = bvp a >>> b.toNat) (hb : 0 ≤ b) : bit n 0 ↔ bit a b := by
  unfold bit
  rw [h, BitVec.getLsbD_ushiftRight]
  simp
theorem bit_01 {x : Int} (h0 : 0 ≤ x) (h1 : x ≤ 1) : bit x 0 ↔ x = 1 := by
  unfold bit
  have : x = 0 ∨ x = 1 := by omega
  rcases this with rfl | rfl
  · exact ⟨fun z => absurd z (by decide), fun z => absurd z (by decide)⟩
  · exact ⟨fun _ => rfl, fun _ => by decide⟩
theorem bit_zero (i : Int) : ¬ bit 0 i := by
  unfold bit
  have : bvp 0 = 0#32 := by decide
  rw [this]; simp
theorem bit_m1 {i : Int} (h : 0 ≤ i) (h2 : i < 32) : bit (-1) i := by
  unfold bit
  have : bvp (-1) = BitVec.allOnes 32 := by decide
  rw [this, BitVec.getLsbD_allOnes]; simp; omega
theorem bit_xor {n a b : Int} (h : bvp n = bvp a ^^^ bvp b) (hb : b = -1) {i : Int} (hi : 0 ≤ i) (hi2 : i < 32) : bit n i ↔ ¬ bit a i := by
  have hm := bit_m1 hi hi2
  unfold bit at *
  rw [h, BitVec.getLsbD_xor, hb, hm]
  cases (bvp a).getLsbD i.toNat <;> simp
theorem bit_none {x : Int} (h : ∀ i, 0 ≤ i → i < 32 → ¬ bit x i) (h0 : -2147483648 ≤ x) (h1 : x ≤ 2147483647) : x = 0 := by
  have e : bvp x = 0#32 := by
    apply BitVec.eq_of_getLsbD_eq
    intro i hi
    have := h i (by omega) (by omega)
    unfold bit at this
    rw [show ((i : Nat) : Int).toNat = i by omega] at this
    simp at this; rw [this]; simp
  have : (bvp x).toInt = 0 := by rw [e]; decide
  unfold bvp at this
  rw [BitVec.toInt_ofInt, Int.bmod_eq_of_le (by omega) (by omega)] at this
  exact this
def EN0 (ends : Int → Int) (i : Int) : Prop := ∀ p, 0 ≤ p → p < i → ends p = 0
def ENS (m : Int) (pt ph dE dn po ends : Int → Int) (e : Int) : Prop := ∀ p i, 0 ≤ p → p < m → 0 ≤ i → i < 32 → (bit (ends p) i ↔ ∃ f, 0 ≤ f ∧ f < e ∧ dE f = 0 ∧ po f = p ∧ (pt f = i ∨ ph f = i) ∧ dn i ≠ 0)
def END (m : Int) (pt ph dE dn po ends : Int → Int) : Prop := ENS m pt ph dE dn po ends m
def FCN (fm face fn : Int → Int) (f : Int) : Prop := ∀ g i, 0 ≤ g → g < f → 0 ≤ i → i < 32 → (bit (fn g) i ↔ ∃ k, 0 ≤ k ∧ k < fm g ∧ face (60 * g + k) = i)
def FCK (face fn : Int → Int) (f k : Int) : Prop := ∀ i, 0 ≤ i → i < 32 → (bit (fn f) i ↔ ∃ j, 0 ≤ j ∧ j < k ∧ face (60 * f + j) = i)
def FCF (faces : Int) (fm face fn : Int → Int) : Prop := FCN fm face fn faces
def ISE (ends : Int → Int) (p i r : Int) : Prop := r ≠ 0 ↔ bit (ends p) i
def FIT (ends fn : Int → Int) (p f r : Int) : Prop := r ≠ 0 ↔ ∀ i, 0 ≤ i → i < 32 → bit (ends p) i → bit (fn f) i
theorem pcs_rng {m : Int} {pt ph dE dn po : Int → Int} {e : Int} (h : PCS m pt ph dE dn po) (h0 : 0 ≤ e) (h1 : e < m) (hd : dE e = 0) : 0 ≤ po e ∧ po e ≤ e := (h.1.1 e h0 h1).2 hd
/-- one more edge -/
theorem ens_skip {m : Int} {pt ph dE dn po ends : Int → Int} {e : Int} (h : ENS m pt ph dE dn po ends e) (hd : dE e ≠ 0) : ENS m pt ph dE dn po ends (e + 1) := by
  intro p i p0 p1 i0 i1
  rw [h p i p0 p1 i0 i1]
  refine ⟨fun ⟨f, a, b, c⟩ => ⟨f, a, by omega, c⟩, fun ⟨f, a, b, c, d⟩ => ⟨f, a, ?_, c, d⟩⟩
  by_cases q : f = e
  · rw [q] at c; exact absurd c hd
  · omega
theorem ens_step {m : Int} {pt ph dE dn po ends ends_zq : Int → Int} {e : Int} (h : ENS m pt ph dE dn po ends e) (e0 : 0 ≤ e) (hd : dE e = 0) (ho : ∀ p, 0 ≤ p → p ≠ po e → ends_zq p = ends p) (hp : ∀ i, 0 ≤ i → i < 32 → (bit (ends_zq (po e)) i ↔ bit (ends (po e)) i ∨ (i = pt e ∧ dn (pt e) ≠ 0) ∨ (i = ph e ∧ dn (ph e) ≠ 0))) : ENS m pt ph dE dn po ends_zq (e + 1) := by
  intro p i p0 p1 i0 i1
  by_cases q : p = po e
  · rw [q, hp i i0 i1, h (po e) i (q ▸ p0) (q ▸ p1) i0 i1]
    constructor
    · rintro (⟨f, a, b, c⟩ | ⟨a, b⟩ | ⟨a, b⟩)
      · exact ⟨f, a, by omega, c⟩
      · exact ⟨e, e0, by omega, hd, rfl, Or.inl a.symm, a ▸ b⟩
      · exact ⟨e, e0, by omega, hd, rfl, Or.inr a.symm, a ▸ b⟩
    · rintro ⟨f, a, b, c, d, g, k⟩
      by_cases z : f = e
      · subst z
        rcases g with g | g
        · exact Or.inr (Or.inl ⟨g.symm, g ▸ k⟩)
        · exact Or.inr (Or.inr ⟨g.symm, g ▸ k⟩)
      · exact Or.inl ⟨f, a, by omega, c, d, g, k⟩
  · rw [ho p p0 q, h p i p0 p1 i0 i1]
    constructor
    · rintro ⟨f, a, b, c⟩; exact ⟨f, a, by omega, c⟩
    · rintro ⟨f, a, b, c, d, g⟩
      by_cases z : f = e
      · subst z; exact absurd d.symm q
      · exact ⟨f, a, by omega, c, d, g⟩
theorem fck_step {face fn fn_zq : Int → Int} {f k : Int} (h : FCK face fn f k) (k0 : 0 ≤ k) (hp : ∀ i, 0 ≤ i → i < 32 → (bit (fn_zq f) i ↔ bit (fn f) i ∨ i = face (60 * f + k))) : FCK face fn_zq f (k + 1) := by
  intro i i0 i1
  rw [hp i i0 i1, h i i0 i1]
  constructor
  · rintro (⟨j, a, b, c⟩ | a)
    · exact ⟨j, a, by omega, c⟩
    · exact ⟨k, k0, by omega, a.symm⟩
  · rintro ⟨j, a, b, c⟩
    by_cases q : j = k
    · subst q; exact Or.inr c.symm
    · exact Or.inl ⟨j, a, by omega, c⟩
def fit (ends fn : Int → Int) (p f : Int) : Prop := ∀ i, 0 ≤ i → i < 32 → bit (ends p) i → bit (fn f) i
def FFL (ends fn : Int → Int) (p f : Int) : Prop := ∀ g, 0 ≤ g → g < f → ¬ fit ends fn p g
def FFT (faces : Int) (ends fn : Int → Int) (p r : Int) : Prop := (r = -1 ∧ ∀ g, 0 ≤ g → g < faces → ¬ fit ends fn p g) ∨ (0 ≤ r ∧ r < faces ∧ fit ends fn p r)
def CH1 (m faces : Int) (po ends fn : Int → Int) (b : Int) : Prop := b = -1 ∨ (0 ≤ b ∧ b < m ∧ po b = b ∧ ∃ f, 0 ≤ f ∧ f < faces ∧ fit ends fn b f)
def CH2 (po ends fn : Int → Int) (p f n : Int) : Prop := po p = p ∧ 0 ≤ n ∧ (n = 0 ∨ ∃ g, 0 ≤ g ∧ g < f ∧ fit ends fn p g)
def FCB (fm : Int → Int) (f k : Int) : Prop := k ≤ fm f ∨ k = 0
end
section
/-! wayOf: a shortest way through a piece -/
def E2 (n : Int) (ends : Int → Int) (p : Int) : Prop := ∃ v y, v ≠ y ∧ 0 ≤ v ∧ v < n ∧ 0 ≤ y ∧ y < n ∧ bit (ends p) v ∧ bit (ends p) y
def NNW (n m : Int) (pt ph dE po dn ends : Int → Int) (p : Int) : Prop := ∀ v y, v ≠ y → 0 ≤ v → v < n → 0 ≤ y → y < n → bit (ends p) v → bit (ends p) y → ¬ NOW n m p pt ph dE po dn v y 1
def WPR (n m : Int) (pt ph dE po dn ends : Int → Int) (p : Int) : Prop := E2 n ends p ∧ NNW n m pt ph dE po dn ends p
/-- the state of drawing block b: what is not drawn is of it; what of it is drawn has drawn ends -/
def DSB (m : Int) (pt ph al bl dE dn : Int → Int) (b : Int) : Prop := (∀ e, 0 ≤ e → e < m → dE e = 0 → al e = 1 ∧ bl e = b) ∧ (∀ e, 0 ≤ e → e < m → al e = 1 → bl e = b → dE e ≠ 0 → dn (pt e) ≠ 0 ∧ dn (ph e) ≠ 0) ∧ ∃ f, 0 ≤ f ∧ f < m ∧ al f = 1 ∧ bl f = b ∧ dE f ≠ 0
theorem wpr_of {n m : Int} {pt ph al bl dE po dn ends : Int → Int} {b p : Int} (hg : GOK n m pt ph) (hn : n ≤ 32) (hB : isBl (JJ m pt ph al) bl) (hD : DSB m pt ph al bl dE dn b) (hP : PCS m pt ph dE dn po) (hE : END m pt ph dE dn po ends) (p0 : 0 ≤ p) (p1 : p < m) (hp : po p = p) : WPR n m pt ph dE po dn ends p := by
  obtain ⟨d1, d2, f, f0, f1, f2, f3, f4⟩ := hD
  have hdp : dE p = 0 := Classical.byContradiction (fun z => by have := (hP.1.1 p p0 p1).1 z; omega)
  have up : al p = 1 ∧ bl p = b := d1 p p0 p1 hdp
  have shn_of : ∀ e f u v w, JJ m pt ph al e u v → JJ m pt ph al f u w → dn u = 0 → shn pt ph dn e f := by
    intro e f u v w j k hu
    rcases j.2.2.2 with ⟨a, _⟩ | ⟨_, a⟩ <;> rcases k.2.2.2 with ⟨c, _⟩ | ⟨_, c⟩
    · exact Or.inl ⟨by rw [a]; exact hu, Or.inl (by rw [a, c])⟩
    · exact Or.inl ⟨by rw [a]; exact hu, Or.inr (by rw [a, c])⟩
    · exact Or.inr ⟨by rw [a]; exact hu, Or.inl (by rw [a, c])⟩
    · exact Or.inr ⟨by rw [a]; exact hu, Or.inr (by rw [a, c])⟩
  have bitOf : ∀ g v q, JJ m pt ph al g v q → dE g = 0 → po g = p → dn v ≠ 0 → bit (ends p) v := by
    intro g v q j hg_zq hpg hv
    have r := JJ_rng hg j
    refine (hE p v p0 p1 r.1 (by omega)).mpr ⟨g, j.1, j.2.1, hg_zq, hpg, ?_, hv⟩
    rcases j.2.2.2 with ⟨a, _⟩ | ⟨_, a⟩
    · exact Or.inl a
    · exact Or.inr a
  refine ⟨?_, ?_⟩
  · obtain ⟨v, y, g, k, q, r, h1, h2, h3, h4, h5, h6, h7, h8, h9, h10, h11⟩ := two_ends (J := JJ m pt ph al) (bl := bl) (pc := po) (D := fun i => dn i ≠ 0) (dE := fun e => dE e ≠ 0 ∧ bl e = b) JJ_sym (JJ_irr hg) hB
      (fun e u v j hd => by
        have := d2 e j.1 j.2.1 j.2.2.1 hd.2 hd.1
        rcases j.2.2.2 with ⟨a, c⟩ | ⟨a, c⟩
        · rw [a, c] at this; exact this
        · rw [a, c] at this; exact ⟨this.2, this.1⟩)
      (fun e f u v w j k he hf hb hu => by
        by_cases q : bl e = b
        · have he_zq : dE e = 0 := Classical.byContradiction (fun z => he ⟨z, q⟩)
          have hf_zq : dE f = 0 := Classical.byContradiction (fun z => hf ⟨z, hb ▸ q⟩)
          exact hP.2 e f j.1 j.2.1 k.1 k.2.1 he_zq hf_zq (shn_of e f u v w j k (Classical.byContradiction hu))
        · have he_zq : dE e ≠ 0 := fun z => q (d1 e j.1 j.2.1 z).2
          have hf_zq : dE f ≠ 0 := fun z => q (hb.trans (d1 f k.1 k.2.1 z).2)
          rw [(hP.1.1 e j.1 j.2.1).1 he_zq, (hP.1.1 f k.1 k.2.1).1 hf_zq])
      (e1 := p) (f1 := f) ⟨pt p, ph p, p0, p1, up.1, Or.inl ⟨rfl, rfl⟩⟩ ⟨pt f, ph f, f0, f1, f2, Or.inl ⟨rfl, rfl⟩⟩ (by rw [up.2, f3]) (fun z => z.1 hdp) ⟨f4, f3⟩
    have r1 := JJ_rng hg h4
    have r2 := JJ_rng hg h5
    have g8 : dE g = 0 := Classical.byContradiction (fun z => h8 ⟨z, h6.trans up.2⟩)
    have g9 : dE k = 0 := Classical.byContradiction (fun z => h9 ⟨z, h7.trans up.2⟩)
    exact ⟨v, y, h1, r1.1, r1.2.1, r2.1, r2.2.1, bitOf g v q h4 g8 (h10.trans hp) h2, bitOf k y r h5 g9 (h11.trans hp) h3⟩
  · intro v y hvy v0 v1 y0 y1 bv by_zq ⟨L, l1, l2, l3⟩
    obtain ⟨g, g0, g1, g2, g3, g4, g5⟩ := (hE p v p0 p1 v0 (by omega)).mp bv
    obtain ⟨k, k0, k1, k2, k3, k4, k5⟩ := (hE p y p0 p1 y0 (by omega)).mp by_zq
    have ex : ∀ g v, 0 ≤ g → g < m → dE g = 0 → (pt g = v ∨ ph g = v) → ∃ z, JJ m pt ph al g v z := by
      intro g v g0 g1 g2 g4
      rcases g4 with z | z
      · exact ⟨ph g, g0, g1, (d1 g g0 g1 g2).1, Or.inl ⟨z, rfl⟩⟩
      · exact ⟨pt g, g0, g1, (d1 g g0 g1 g2).1, Or.inr ⟨rfl, z⟩⟩
    obtain ⟨za, ja⟩ := ex g v g0 g1 g2 g4
    obtain ⟨zb, jb⟩ := ex k y k0 k1 k2 k4
    refine l2 (piece_way (J := JJ m pt ph al) (pc := po) (D := fun i => dn i ≠ 0) (U := fun e => 0 ≤ e ∧ e < m ∧ dE e = 0) JJ_sym JJ_uni (p := p) (fun e f u v w j k he hf hu => ?_) (fun c hc e f he hf hpo ce => ?_) hvy g5 k5 ja jb ⟨g0, g1, g2⟩ ⟨k0, k1, k2⟩ g3 k3 (L := L) (fun i j h jh hu hpo hi hj lj => ?_) l1)
    · exact hP.2 e f j.1 j.2.1 k.1 k.2.1 he.2.2 hf.2.2 (shn_of e f u v w j k (Classical.byContradiction hu))
    · refine hP.1.2 c (fun e f e0 e1 f0 f1 he hf hs ce => ?_) e f he.1 he.2.1 hf.1 hf.2.1 he.2.2 hf.2.2 hpo ce
      rcases hs with ⟨a, w⟩ | ⟨a, w⟩
      · obtain ⟨z, jz⟩ := ex e (pt e) e0 e1 he (Or.inl rfl)
        obtain ⟨z_zq, jz_zq⟩ := ex f (pt e) f0 f1 hf w
        exact hc e f _ _ _ jz jz_zq ⟨e0, e1, he⟩ ⟨f0, f1, hf⟩ (fun q => q a) ce
      · obtain ⟨z, jz⟩ := ex e (ph e) e0 e1 he (Or.inr rfl)
        obtain ⟨z_zq, jz_zq⟩ := ex f (ph e) f0 f1 hf w
        exact hc e f _ _ _ jz jz_zq ⟨e0, e1, he⟩ ⟨f0, f1, hf⟩ (fun q => q a) ce
    · have r := JJ_rng hg jh
      refine l3 i j r.1 r.2.1 r.2.2.1 r.2.2.2 ⟨h, jh.1, jh.2.1, ⟨hu.2.2, Or.inr hpo⟩, jh.2.2.2⟩ ⟨?_, ?_⟩ lj
      · rcases hj with z | z
        · exact Or.inr (Or.inl z)
        · exact Or.inr (Or.inr (Classical.byContradiction z))
      · rcases hi with z | z
        · exact Or.inr (Or.inl z)
        · exact Or.inr (Or.inr (Classical.byContradiction z))
/-! the loops of wayOf -/
def WA (ends : Int → Int) (p a : Int) : Prop := ∀ i, 0 ≤ i → i < a → ¬ bit (ends p) i
def WE (ends : Int → Int) (p a : Int) : Prop := bit (ends p) a
def wyb (n m : Int) (pt ph al dE po dn ends way : Int → Int) (p a best : Int) : Prop := ∃ y, y ≠ a ∧ bit (ends p) y ∧ WAY n m p pt ph al dE po dn way a y 1 best
def WB (n m : Int) (pt ph al dE po dn ends bw : Int → Int) (p a best b : Int) : Prop := (best = 0 ∧ ∀ y, 0 ≤ y → y < b → y ≠ a → ¬ bit (ends p) y) ∨ wyb n m pt ph al dE po dn ends bw p a best
def WC (n m wm : Int) (pt ph al dE po dn ends way bw : Int → Int) (p a b best j : Int) : Prop := best = wm ∧ b ≠ a ∧ bit (ends p) b ∧ WAY n m p pt ph al dE po dn way a b 1 wm ∧ ∀ k, 0 ≤ k → k < j → bw k = way k
def WD (n m : Int) (pt ph al dE po dn ends way bw : Int → Int) (p a best j : Int) : Prop := wyb n m pt ph al dE po dn ends bw p a best ∧ ∀ k, 0 ≤ k → k < j → way k = bw k
def WOP (n m wm : Int) (pt ph al dE po dn ends way : Int → Int) (p : Int) : Prop := ∃ a, bit (ends p) a ∧ wyb n m pt ph al dE po dn ends way p a wm
theorem way_cp {n m p : Int} {pt ph al dE po dn way bw : Int → Int} {a b nw wm : Int} (h : WAY n m p pt ph al dE po dn way a b nw wm) (hc : ∀ k, 0 ≤ k → k < wm → bw k = way k) : WAY n m p pt ph al dE po dn bw a b nw wm := by
  obtain ⟨h1, h2, h3, h4, h5, h6, h7, h8⟩ := h
  refine ⟨h1, h2, by rw [hc 0 (by omega) (by omega)]; exact h3, by rw [hc (wm - 1) (by omega) (by omega)]; exact h4, fun k k0 k1 => by rw [hc k k0 k1]; exact h5 k k0 k1, fun k l k0 k1 k2 => by rw [hc k k0 (by omega), hc l (by omega) k2]; exact h6 k l k0 k1 k2, fun k k0 k1 => by rw [hc k k0 (by omega), hc (k + 1) (by omega) k1]; exact h7 k k0 k1, fun k k0 k1 => by rw [hc k (by omega) (by omega)]; exact h8 k k0 k1⟩
theorem wpr_a {n m : Int} {pt ph dE po dn ends : Int → Int} {p a : Int} (h : WPR n m pt ph dE po dn ends p) (ha : WA ends p a) : a < n := by
  obtain ⟨⟨v, y, h1, h2, h3, h4, h5, h6, h7⟩, _⟩ := h
  exact Classical.byContradiction (fun z => ha v h2 (by omega) h6)
theorem wb_end {n m : Int} {pt ph al dE po dn ends bw : Int → Int} {p a best b : Int} (h : WPR n m pt ph dE po dn ends p) (hw : WB n m pt ph al dE po dn ends bw p a best b) (hb : n ≤ b) : wyb n m pt ph al dE po dn ends bw p a best := by
  rcases hw with ⟨_, hw⟩ | hw
  · exfalso
    obtain ⟨⟨v, y, h1, h2, h3, h4, h5, h6, h7⟩, _⟩ := h
    by_cases q : v = a
    · exact hw y h4 (by omega) (fun z => h1 (q.trans z.symm)) h7
    · exact hw v h2 (by omega) q h6
  · exact hw
theorem wb_skip {n m : Int} {pt ph al dE po dn ends bw : Int → Int} {p a best b : Int} (hw : WB n m pt ph al dE po dn ends bw p a best b) (hb : b = a ∨ ¬ bit (ends p) b) : WB n m pt ph al dE po dn ends bw p a best (b + 1) := by
  rcases hw with ⟨h0, hw⟩ | hw
  · refine Or.inl ⟨h0, fun y y0 y1 y2 => ?_⟩
    by_cases q : y = b
    · rcases hb with z | z
      · exact absurd (q.trans z) y2
      · rw [q]; exact z
    · exact hw y y0 (by omega) y2
  · exact Or.inr hw
theorem wb_any {n m : Int} {pt ph al dE po dn ends bw : Int → Int} {p a best b c : Int} (hw : WB n m pt ph al dE po dn ends bw p a best b) (hb : best ≠ 0) : WB n m pt ph al dE po dn ends bw p a best c := by
  rcases hw with ⟨h0, hw⟩ | hw
  · exact absurd h0 hb
  · exact Or.inr hw
theorem wy_rng {n m : Int} {pt ph al dE po dn ends bw : Int → Int} {p a best b : Int} (hn : 0 ≤ n) (hw : WB n m pt ph al dE po dn ends bw p a best b) : 0 ≤ best ∧ best ≤ n := by
  rcases hw with ⟨h0, hw⟩ | ⟨y, _, _, hw⟩
  · omega
  · have := hw.1; have := hw.2.1; omega
theorem shp_way {n m wm p : Int} {pt ph al dE po dn ends way : Int → Int} {a b : Int} (h : WPR n m pt ph dE po dn ends p) (hs : SHP n m p wm pt ph al dE po dn way a b 1) (hab : b ≠ a) (a0 : 0 ≤ a) (a1 : a < n) (b0 : 0 ≤ b) (b1 : b < n) (ha : bit (ends p) a) (hb : bit (ends p) b) : WAY n m p pt ph al dE po dn way a b 1 wm := by
  rcases hs with ⟨_, z⟩ | z
  · exact absurd z (h.2 a b (fun e => hab e.symm) a0 a1 b0 b1 ha hb)
  · exact z
def WC0 (n m wm : Int) (pt ph al dE po dn ends way : Int → Int) (p a b best : Int) : Prop := best = wm ∧ b ≠ a ∧ bit (ends p) b ∧ WAY n m p pt ph al dE po dn way a b 1 wm
theorem wb_skip2 {n m : Int} {pt ph al dE po dn ends bw : Int → Int} {p a best b c r : Int} (hw : WB n m pt ph al dE po dn ends bw p a best b) (hc : c = b + 1) (hi : ISE ends p b r) (hr : r = 0) : WB n m pt ph al dE po dn ends bw p a best c := by
  rw [hc]; exact wb_skip hw (Or.inr (fun z => (hi.mpr z) hr))
theorem wb_skip1 {n m : Int} {pt ph al dE po dn ends bw : Int → Int} {p a best b c : Int} (hw : WB n m pt ph al dE po dn ends bw p a best b) (hc : c = b + 1) (hr : b = a) : WB n m pt ph al dE po dn ends bw p a best c := by
  rw [hc]; exact wb_skip hw (Or.inl hr)
theorem wb_wc {n m wm : Int} {pt ph al dE po dn ends way bw : Int → Int} {p a b best j c : Int} (h : WC n m wm pt ph al dE po dn ends way bw p a b best j) (hj : best ≤ j) : WB n m pt ph al dE po dn ends bw p a best c :=
  Or.inr ⟨b, h.2.1, h.2.2.1, by rw [h.1]; exact way_cp h.2.2.2.1 (fun k k0 k1 => h.2.2.2.2 k k0 (by have := h.1; omega))⟩
theorem wc_shp {n m wm only p : Int} {pt ph al dE po dn ends way : Int → Int} {a b best nw r : Int} (h : WPR n m pt ph dE po dn ends p) (he : WE ends p a) (hi : ISE ends p b r) (hs : SHP n m only wm pt ph al dE po dn way a b nw) (hr : r ≠ 0) (ho : only = p) (hw : nw = 1) (hab : b ≠ a) (a0 : 0 ≤ a) (a1 : a < n) (b0 : 0 ≤ b) (b1 : b < n) (hb : best = wm) : WC0 n m wm pt ph al dE po dn ends way p a b best := by
  subst ho; subst hw
  exact ⟨hb, hab, hi.mp hr, shp_way h hs hab a0 a1 b0 b1 he (hi.mp hr)⟩
theorem wc_0 {n m wm : Int} {pt ph al dE po dn ends way bw : Int → Int} {p a b best j : Int} (h : WC0 n m wm pt ph al dE po dn ends way p a b best) {best_zq : Int} (hb : best_zq = wm) (hj : j = 0) : WC n m wm pt ph al dE po dn ends way bw p a b best_zq j :=
  ⟨hb, h.2.1, h.2.2.1, h.2.2.2, fun k k0 k1 => by omega⟩
theorem wc_n0 {n m wm : Int} {pt ph al dE po dn ends way bw : Int → Int} {p a b best c : Int} (hw : WB n m pt ph al dE po dn ends bw p a best b) (h : WC0 n m wm pt ph al dE po dn ends way p a b best) : WB n m pt ph al dE po dn ends bw p a best c :=
  wb_any hw (by have := h.2.2.2.1; have := h.1; omega)
theorem wc_next {n m wm : Int} {pt ph al dE po dn ends way bw bw_zq : Int → Int} {p a b best j j_zq : Int} (h : WC n m wm pt ph al dE po dn ends way bw p a b best j) (hj : j_zq = j + 1) (hv : bw_zq j = way j) (ho : ∀ k, 0 ≤ k → k ≠ j → bw_zq k = bw k) : WC n m wm pt ph al dE po dn ends way bw_zq p a b best j_zq :=
  ⟨h.1, h.2.1, h.2.2.1, h.2.2.2.1, fun k k0 k1 => by
    by_cases q : k = j
    · rw [q]; exact hv
    · rw [ho k k0 q]; exact h.2.2.2.2 k k0 (by omega)⟩
theorem wd_next {n m : Int} {pt ph al dE po dn ends way way_zq bw : Int → Int} {p a best j j_zq : Int} (h : WD n m pt ph al dE po dn ends way bw p a best j) (hj : j_zq = j + 1) (hv : way_zq j = bw j) (ho : ∀ k, 0 ≤ k → k ≠ j → way_zq k = way k) : WD n m pt ph al dE po dn ends way_zq bw p a best j_zq :=
  ⟨h.1, fun k k0 k1 => by
    by_cases q : k = j
    · rw [q]; exact hv
    · rw [ho k k0 q]; exact h.2 k k0 (by omega)⟩
theorem wd_end {n m wm : Int} {pt ph al dE po dn ends way bw : Int → Int} {p a best j : Int} (h : WD n m pt ph al dE po dn ends way bw p a best j) (he : WE ends p a) (hj : best ≤ j) (hw : wm = best) : WOP n m wm pt ph al dE po dn ends way p := by
  obtain ⟨⟨y, y1, y2, y3⟩, h2⟩ := h
  rw [hw]
  exact ⟨a, he, y, y1, y2, way_cp y3 (fun k k0 k1 => h2 k k0 (by omega))⟩
end
section
/-! a way put into a face -/
def ptA (A : pa_T) (w : Nat → Int) (k : Nat) (u v : Int) : Prop := A u v ∨ ∃ i, i ≤ k ∧ ((u = w i ∧ v = w (i + 1)) ∨ (u = w (i + 1) ∧ v = w i))
def ptv (A : pa_T) (nx nx_zq : Int → Int → Int) (w : Nat → Int) (k : Nat) (p p_zq : Int) : Prop :=
  (∀ u v, A u v → ¬ (u = p ∧ v = w 0) → ¬ (u = p_zq ∧ v = w (k + 1)) → nx_zq u v = nx u v) ∧
  nx_zq p (w 0) = w 1 ∧ nx_zq p_zq (w (k + 1)) = w k ∧ nx_zq (w 1) (w 0) = nx p (w 0) ∧ nx_zq (w k) (w (k + 1)) = nx p_zq (w (k + 1)) ∧
  ∀ i, i < k → nx_zq (w i) (w (i + 1)) = w (i + 2) ∧ nx_zq (w (i + 2)) (w (i + 1)) = w i
/-- a walk along a face from a corner -/
def fwk (A : pa_T) (nx : Int → Int → Int) (p : Int) (x : Nat → Int) (n : Nat) : Prop :=
  1 ≤ n ∧ x 1 = nx p (x 0) ∧ (∀ i, i < n → A (x i) (x (i + 1))) ∧ (∀ i, i + 2 ≤ n → nx (x i) (x (i + 1)) = x (i + 2)) ∧ ∀ i j, i < j → j ≤ n → x i ≠ x j
theorem path_ins : ∀ (k : Nat) {A : pa_T} {nx : Int → Int → Int} {ρ : Int → Int → Int → Bool} {p : Int} {w x : Nat → Int} {n : Nat}, mp A nx → pls A nx ρ → A p (w 0) → fwk A nx p x n → x 0 = w 0 → x n = w (k + 1) →
    (∀ i, 1 ≤ i → i ≤ k → ∀ u, ¬ A u (w i)) → (∀ i j, i < j → j ≤ k + 1 → w i ≠ w j) → (k = 0 → ¬ A (w 0) (w 1)) →
    ∃ nx_zq ρ', mp (ptA A w k) nx_zq ∧ pls (ptA A w k) nx_zq ρ' ∧ ptv A nx nx_zq w k p (x (n - 1))
  | 0, A, nx, ρ, p, w, x, n, m, hl, hp, ⟨n1, x1, xA, xN, xd⟩, x0, xn, hw, wd, h0 => by
    have hne : w 0 ≠ w 1 := wd 0 1 (by omega) (by omega)
    have hab : ¬ A (w 0) (w 1) := h0 rfl
    have xn_zq : x n = w 1 := xn
    have hp_zq : A (x (n - 1)) (w 1) := by
      have := xA (n - 1) (by omega)
      rw [show n - 1 + 1 = n by omega, xn_zq] at this; exact this
    have e : ptA A w 0 = chA A (w 0) (w 1) := by
      funext u v
      apply propext
      constructor
      · rintro (h | ⟨i, hi, h⟩)
        · exact Or.inl h
        · have : i = 0 := by omega
          subst this; exact Or.inr h
      · rintro (h | h)
        · exact Or.inl h
        · exact Or.inr ⟨0, by omega, h⟩
    refine ⟨cnx nx p (w 0) (x (n - 1)) (w 1), crh ρ (w 0) (w 1), ?_, ?_, ?_⟩
    · rw [e]; exact chord_mp m hp hp_zq hab hne
    · rw [e]
      refine chord_pls m hl hp hp_zq hab hne (x := x) (n := n) n1 x0 (by rw [x1, x0]) rfl xn_zq xA xN (fun i j hij hj h => xd i j hij (by omega) h.1)
    · have hbp : w 1 ≠ p := fun z => hab (m.1.1 _ _ (z ▸ hp))
      have hap : w 0 ≠ x (n - 1) := fun z => hab (z ▸ hp_zq)
      refine ⟨fun u v hA h1 h2 => cnx_o h1 (fun z => ?_) h2 (fun z => ?_), cnx_1, cnx_3 hne.symm, cnx_2 hbp, cnx_4 hne.symm hap, fun i hi => by omega⟩
      · exact hab (m.1.1 _ _ (z.1 ▸ z.2 ▸ hA))
      · exact hab (z.1 ▸ z.2 ▸ hA)
  | k + 1, A, nx, ρ, p, w, x, n, m, hl, hp, ⟨n1, x1, xA, xN, xd⟩, x0, xn, hw, wd, h0 => by
    have ht : ∀ u, ¬ A u (w 1) := hw 1 (by omega) (by omega)
    have hta : ∀ u, ¬ A (w 1) u := fun u h => ht u (m.1.1 _ _ h)
    have h01 : w 1 ≠ w 0 := (wd 0 1 (by omega) (by omega)).symm
    have htp : w 1 ≠ p := fun z => hta _ (z ▸ hp)
    have o1 : ∀ u v, A u v → ¬ (u = p ∧ v = w 0) → pnx nx p (w 0) (w 1) u v = nx u v := fun u v hA h => pnx_o h (fun z => hta _ (z ▸ hA)) (fun z => ht _ (z ▸ hA))
    have xb : ∀ i, i ≤ n → x i ≠ w 1 := by
      intro i hi z
      by_cases q : i = n
      · rw [q, xn] at z; exact wd 1 (k + 1 + 1) (by omega) (by omega) z.symm
      · exact hta _ (z ▸ xA i (by omega))
    have F1 : fwk (pnA A (w 0) (w 1)) (pnx nx p (w 0) (w 1)) (w 0) (fun i => if i = 0 then w 1 else x (i - 1)) (n + 1) := by
      refine ⟨by omega, ?_, fun i hi => ?_, fun i hi => ?_, fun i j hij hj => ?_⟩
      · show x 0 = pnx nx p (w 0) (w 1) (w 0) (w 1)
        rw [pnx_3 h01, x0]
      · cases i with
        | zero => show pnA A (w 0) (w 1) (w 1) (x 0); rw [x0]; exact Or.inr (Or.inr ⟨rfl, rfl⟩)
        | succ i => exact Or.inl (xA i (by omega))
      · cases i with
        | zero =>
          show pnx nx p (w 0) (w 1) (w 1) (x 0) = x 1
          rw [x0, pnx_2 htp, x1, x0]
        | succ i =>
          show pnx nx p (w 0) (w 1) (x i) (x (i + 1)) = x (i + 2)
          rw [o1 _ _ (xA i (by omega)) (fun z => xd 0 (i + 1) (by omega) (by omega) (x0.trans z.2.symm))]
          exact xN i (by omega)
      · cases j with
        | zero => omega
        | succ j =>
          cases i with
          | zero => exact fun z => xb j (by omega) z.symm
          | succ i => exact xd i j (by omega) (by omega)
    have F2 : ∀ i, 1 ≤ i → i ≤ k → ∀ u, ¬ pnA A (w 0) (w 1) u (w (i + 1)) := by
      intro i i1 i2 u h
      rcases h with h | h | h
      · exact hw (i + 1) (by omega) (by omega) u h
      · exact wd 1 (i + 1) (by omega) (by omega) h.2.symm
      · exact wd 0 (i + 1) (by omega) (by omega) h.2.symm
    have F3 : k = 0 → ¬ pnA A (w 0) (w 1) (w 1) (w 2) := by
      intro hk h
      subst hk
      rcases h with h | h | h
      · exact hta _ h
      · exact h01 h.1
      · exact wd 0 2 (by omega) (by omega) h.2.symm
    have key : _ := path_ins k (A := pnA A (w 0) (w 1)) (nx := pnx nx p (w 0) (w 1)) (ρ := prh ρ (w 0) (w 1)) (p := w 0) (w := fun i => w (i + 1)) (x := fun i => if i = 0 then w 1 else x (i - 1)) (n := n + 1)
      (pend_mp m hp ht) (pend_pls m hp ht hl) (Or.inr (Or.inl ⟨rfl, rfl⟩)) F1 rfl (show x n = w (k + 1 + 1) from xn) F2 (fun i j hij hj => wd (i + 1) (j + 1) (by omega) (by omega)) F3
    obtain ⟨nx_zq, ρ', a1, a2, a3, a4, a5, a6, a7, a8⟩ := key
    have e : ptA (pnA A (w 0) (w 1)) (fun i => w (i + 1)) k = ptA A w (k + 1) := by
      funext u v
      apply propext
      constructor
      · rintro ((h | h | h) | ⟨i, hi, h⟩)
        · exact Or.inl h
        · exact Or.inr ⟨0, by omega, Or.inl h⟩
        · exact Or.inr ⟨0, by omega, Or.inr h⟩
        · exact Or.inr ⟨i + 1, by omega, h⟩
      · rintro (h | ⟨i, hi, h⟩)
        · exact Or.inl (Or.inl h)
        · cases i with
          | zero => exact Or.inl (Or.inr h)
          | succ i => exact Or.inr ⟨i, by omega, h⟩
    have e2 : (if n + 1 - 1 = 0 then w 1 else x (n + 1 - 1 - 1)) = x (n - 1) := by
      rw [if_neg (by omega)]; rfl
    simp only [e2] at a3 a5 a7
    have hpb : ¬ (x (n - 1) = p ∧ w (k + 1 + 1) = w 0) := fun z => wd 0 (k + 1 + 1) (by omega) (by omega) z.2.symm
    have hA_zq : A (x (n - 1)) (w (k + 1 + 1)) := by
      have := xA (n - 1) (by omega)
      rw [show n - 1 + 1 = n by omega, xn] at this; exact this
    refine ⟨nx_zq, ρ', e ▸ a1, e ▸ a2, fun u v hA h1 h2 => ?_, ?_, a5, ?_, ?_, fun i hi => ?_⟩
    · rw [a3 u v (Or.inl hA) (fun z => ht _ (z.2 ▸ hA)) h2]; exact o1 u v hA h1
    · rw [a3 p (w 0) (Or.inl hp) (fun z => h01 z.2.symm) (fun z => hpb ⟨z.1.symm, z.2.symm⟩)]; exact pnx_1
    · rw [a3 (w 1) (w 0) (Or.inr (Or.inr ⟨rfl, rfl⟩)) (fun z => h01 z.2.symm) (fun z => wd 0 (k + 1 + 1) (by omega) (by omega) z.2)]; exact pnx_2 htp
    · rw [a7]; exact o1 _ _ hA_zq hpb
    · cases i with
      | zero => exact ⟨a4, by rw [a6]; exact pnx_3 h01⟩
      | succ i => exact a8 i (by omega)
end
section
/-! rows of faces -/
def nr (L k : Int) : Int := if k + 1 = L then 0 else k + 1
theorem nr_lt {L k : Int} (h : k + 1 < L) : nr L k = k + 1 := by unfold nr; rw [if_neg (by omega)]
theorem nr_eq {L k : Int} (h : k + 1 = L) : nr L k = 0 := by unfold nr; rw [if_pos h]
theorem nr_rng {L k : Int} (h : 0 ≤ k) (h2 : k < L) : 0 ≤ nr L k ∧ nr L k < L := by unfold nr; split <;> omega
def RW (A : pa_T) (nx : Int → Int → Int) (L : Int) (r : Int → Int) : Prop := 3 ≤ L ∧ (∀ k, 0 ≤ k → k < L → A (r k) (r (nr L k)) ∧ nx (r k) (r (nr L k)) = r (nr L (nr L k))) ∧ ∀ k l, 0 ≤ k → k < l → l < L → r k ≠ r l
def COV (A : pa_T) (F : Int) (L : Int → Int) (R : Int → Int → Int) : Prop := ∀ u v, A u v → ∃ f k, 0 ≤ f ∧ f < F ∧ 0 ≤ k ∧ k < L f ∧ R f k = u ∧ R f (nr (L f) k) = v
def UNQ (F : Int) (L : Int → Int) (R : Int → Int → Int) : Prop := ∀ f k g l, 0 ≤ f → f < F → 0 ≤ k → k < L f → 0 ≤ g → g < F → 0 ≤ l → l < L g → R f k = R g l → R f (nr (L f) k) = R g (nr (L g) l) → f = g
def FIX (A : pa_T) (nx : Int → Int → Int) (ρ : Int → Int → Int → Bool) (F : Int) (L : Int → Int) (R : Int → Int → Int) : Prop := mp A nx ∧ pls A nx ρ ∧ (∀ f, 0 ≤ f → f < F → RW A nx (L f) (R f)) ∧ COV A F L R ∧ UNQ F L R
/-- the way put in, by whole numbers -/
def piA (A : pa_T) (w : Int → Int) (K : Int) (u v : Int) : Prop := A u v ∨ ∃ i, 0 ≤ i ∧ i ≤ K ∧ ((u = w i ∧ v = w (i + 1)) ∨ (u = w (i + 1) ∧ v = w i))
theorem path_I {A : pa_T} {nx : Int → Int → Int} {ρ : Int → Int → Int → Bool} {p p_zq : Int} {w r : Int → Int} {B K : Int} (m : mp A nx) (hl : pls A nx ρ) (K0 : 0 ≤ K) (B0 : 1 ≤ B) (hp : A p (r 0)) (x1 : nx p (r 0) = r 1) (hA : ∀ i, 0 ≤ i → i < B → A (r i) (r (i + 1))) (hN : ∀ i, 0 ≤ i → i + 2 ≤ B → nx (r i) (r (i + 1)) = r (i + 2)) (hd : ∀ i j, 0 ≤ i → i < j → j ≤ B → r i ≠ r j)
    (w0 : w 0 = r 0) (wB : w (K + 1) = r B) (hp_zq : p_zq = r (B - 1)) (hw : ∀ i, 1 ≤ i → i ≤ K → ∀ u, ¬ A u (w i)) (wd : ∀ i j, 0 ≤ i → i < j → j ≤ K + 1 → w i ≠ w j) (h0 : K = 0 → ¬ A (w 0) (w 1)) :
    ∃ nx_zq ρ', mp (piA A w K) nx_zq ∧ pls (piA A w K) nx_zq ρ' ∧ (∀ u v, A u v → ¬ (u = p ∧ v = w 0) → ¬ (u = p_zq ∧ v = w (K + 1)) → nx_zq u v = nx u v) ∧
  nx_zq p (w 0) = w 1 ∧ nx_zq p_zq (w (K + 1)) = w K ∧ nx_zq (w 1) (w 0) = nx p (w 0) ∧ nx_zq (w K) (w (K + 1)) = nx p_zq (w (K + 1)) ∧
  ∀ i, 0 ≤ i → i < K → nx_zq (w i) (w (i + 1)) = w (i + 2) ∧ nx_zq (w (i + 2)) (w (i + 1)) = w i := by
  obtain ⟨k, rfl⟩ := Int.eq_ofNat_of_zero_le K0
  obtain ⟨b, rfl⟩ := Int.eq_ofNat_of_zero_le (a := B) (by omega)
  have F1 : fwk A nx p (fun i : Nat => r i) b := by
    refine ⟨by omega, by show r 1 = nx p (r 0); exact x1.symm, fun i hi => ?_, fun i hi => ?_, fun i j hij hj => hd i j (by omega) (by omega) (by omega)⟩
    · have := hA i (by omega) (by omega)
      show A (r i) (r ((i + 1 : Nat) : Int)); rw [show ((i + 1 : Nat) : Int) = (i : Int) + 1 by omega]; exact this
    · have := hN i (by omega) (by omega)
      show nx (r i) (r ((i + 1 : Nat) : Int)) = r ((i + 2 : Nat) : Int)
      rw [show ((i + 1 : Nat) : Int) = (i : Int) + 1 by omega, show ((i + 2 : Nat) : Int) = (i : Int) + 2 by omega]; exact this
  have key := path_ins k (A := A) (nx := nx) (ρ := ρ) (p := p) (w := fun i : Nat => w i) (x := fun i : Nat => r i) (n := b) m hl (by show A p (w 0); rw [w0]; exact hp) F1 (by show r 0 = w 0; exact w0.symm) (by show r b = w ((k + 1 : Nat) : Int); rw [show ((k + 1 : Nat) : Int) = (k : Int) + 1 by omega]; exact wB.symm)
    (fun i i1 i2 => hw i (by omega) (by omega)) (fun i j hij hj => wd i j (by omega) (by omega) (by omega)) (fun z => h0 (by omega))
  obtain ⟨nx_zq, ρ', a1, a2, a3, a4, a5, a6, a7, a8⟩ := key
  have e : ptA A (fun i : Nat => w i) k = piA A w k := by
    funext u v
    apply propext
    constructor
    · rintro (h | ⟨i, hi, h⟩)
      · exact Or.inl h
      · exact Or.inr ⟨i, by omega, by omega, by simpa using h⟩
    · rintro (h | ⟨i, i0, hi, h⟩)
      · exact Or.inl h
      · obtain ⟨j, rfl⟩ := Int.eq_ofNat_of_zero_le i0
        exact Or.inr ⟨j, by omega, by simpa using h⟩
  have eb : r ((b - 1 : Nat) : Int) = p_zq := by rw [hp_zq, show ((b - 1 : Nat) : Int) = (b : Int) - 1 by omega]
  have ek : ((k + 1 : Nat) : Int) = (k : Int) + 1 := by omega
  simp only [eb, ek] at a3 a5 a7
  refine ⟨nx_zq, ρ', e ▸ a1, e ▸ a2, a3, a4, a5, a6, a7, fun i i0 i1 => ?_⟩
  obtain ⟨j, rfl⟩ := Int.eq_ofNat_of_zero_le i0
  have := a8 j (by omega)
  simp only [show ((j + 1 : Nat) : Int) = (j : Int) + 1 by omega, show ((j + 2 : Nat) : Int) = (j : Int) + 2 by omega] at this
  exact this
theorem spl {A : pa_T} {nx : Int → Int → Int} {ρ : Int → Int → Int → Bool} {F : Int} {L L_zq : Int → Int} {R R_zq : Int → Int → Int} (h : FIX A nx ρ F L R) {f n B K : Int} {r w : Int → Int} (f0 : 0 ≤ f) (f1 : f < F) (hL : L f = n) (hr : ∀ j, 0 ≤ j → j < n → R f j = r j) (B0 : 0 < B) (B1 : B < n) (K0 : 0 ≤ K) (w0 : w 0 = r 0) (wB : w (K + 1) = r B)
    (iso : ∀ i, 1 ≤ i → i ≤ K → ∀ u, ¬ A u (w i)) (wd : ∀ i j, 0 ≤ i → i < j → j ≤ K + 1 → w i ≠ w j) (h0 : K = 0 → ¬ A (w 0) (w 1))
    (hL1 : L_zq f = B + 1 + K) (hR1 : ∀ j, 0 ≤ j → j ≤ B → R_zq f j = r j) (hR1b : ∀ j, B < j → j < B + 1 + K → R_zq f j = w (B + K + 1 - j))
    (hL2 : L_zq F = n - B + 1 + K) (hR2 : ∀ j, 0 ≤ j → j < n - B → R_zq F j = r (B + j)) (hR2a : R_zq F (n - B) = r 0) (hR2b : ∀ j, n - B < j → j < n - B + 1 + K → R_zq F j = w (j - (n - B)))
    (ho : ∀ g, 0 ≤ g → g < F → g ≠ f → L_zq g = L g ∧ ∀ j, 0 ≤ j → j < L g → R_zq g j = R g j) : ∃ nx_zq ρ', FIX (piA A w K) nx_zq ρ' (F + 1) L_zq R_zq := by
  obtain ⟨m, hl, hRW, hC, hU⟩ := h
  obtain ⟨n3, ra, rd⟩ := hRW f f0 f1
  rw [hL] at n3 ra rd
  have ra_zq : ∀ j, 0 ≤ j → j < n → A (r j) (r (nr n j)) ∧ nx (r j) (r (nr n j)) = r (nr n (nr n j)) := by
    intro j j0 j1
    have q1 := nr_rng j0 j1
    have q2 := nr_rng q1.1 q1.2
    have := ra j j0 j1
    rw [hr j j0 j1, hr _ q1.1 q1.2, hr _ q2.1 q2.2] at this
    exact this
  have rd_zq : ∀ k l, 0 ≤ k → k < l → l < n → r k ≠ r l := by
    intro k l k0 k1 k2
    have := rd k l k0 k1 k2
    rw [hr k k0 (by omega), hr l (by omega) k2] at this
    exact this
  have rA : ∀ i, 0 ≤ i → i + 1 < n → A (r i) (r (i + 1)) := fun i i0 i1 => by
    have := (ra_zq i i0 (by omega)).1; rw [nr_lt i1] at this; exact this
  have rN : ∀ i, 0 ≤ i → i + 2 < n → nx (r i) (r (i + 1)) = r (i + 2) := fun i i0 i1 => by
    have := (ra_zq i i0 (by omega)).2; rw [nr_lt (by omega : i + 1 < n), nr_lt (by omega : i + 1 + 1 < n)] at this; rw [this, show i + 1 + 1 = i + 2 by omega]
  have rZ : A (r (n - 1)) (r 0) ∧ nx (r (n - 1)) (r 0) = r 1 := by
    have := ra_zq (n - 1) (by omega) (by omega)
    rw [nr_eq (by omega : n - 1 + 1 = n), nr_lt (by omega : (0 : Int) + 1 < n)] at this; exact this
  have rY : nx (r (n - 2)) (r (n - 1)) = r 0 := by
    have := (ra_zq (n - 2) (by omega) (by omega)).2
    rw [nr_lt (by omega : n - 2 + 1 < n), nr_eq (by omega : n - 2 + 1 + 1 = n), show n - 2 + 1 = n - 1 by omega] at this; exact this
  obtain ⟨nx_zq, ρ', a1, a2, a3, a4, a5, a6, a7, a8⟩ := path_I (A := A) (nx := nx) (ρ := ρ) (p := r (n - 1)) (p_zq := r (B - 1)) (w := w) (r := r) (B := B) (K := K) m hl K0 (by omega) rZ.1 rZ.2 (fun i i0 i1 => rA i i0 (by omega)) (fun i i0 i1 => rN i i0 (by omega)) (fun i j i0 i1 i2 => rd_zq i j i0 i1 (by omega)) w0 wB rfl iso wd h0
  -- rows_zq places
  have q1 : ∀ j, 0 ≤ j → j < B + 1 + K → (j < B ∧ R_zq f j = r j ∧ R_zq f (nr (B + 1 + K) j) = r (j + 1)) ∨ ∃ i, 0 ≤ i ∧ i ≤ K ∧ j = B + K - i ∧ R_zq f j = w (i + 1) ∧ R_zq f (nr (B + 1 + K) j) = w i := by
    intro j j0 j1
    by_cases c : j < B
    · exact Or.inl ⟨c, hR1 j j0 (by omega), by rw [nr_lt (by omega)]; exact hR1 _ (by omega) (by omega)⟩
    · refine Or.inr ⟨B + K - j, by omega, by omega, by omega, ?_, ?_⟩
      · by_cases d : j = B
        · rw [d, hR1 B (by omega) (by omega), show B + K - B + 1 = K + 1 by omega, wB]
        · rw [hR1b j (by omega) (by omega)]; congr 1; omega
      · by_cases d : j + 1 = B + 1 + K
        · rw [nr_eq d, hR1 0 (by omega) (by omega), show B + K - j = 0 by omega, w0]
        · rw [nr_lt (by omega), hR1b (j + 1) (by omega) (by omega)]; congr 1; omega
  have q2 : ∀ j, 0 ≤ j → j < n - B + 1 + K → (j < n - B ∧ R_zq F j = r (B + j) ∧ R_zq F (nr (n - B + 1 + K) j) = r (nr n (B + j))) ∨ ∃ i, 0 ≤ i ∧ i ≤ K ∧ j = n - B + i ∧ R_zq F j = w i ∧ R_zq F (nr (n - B + 1 + K) j) = w (i + 1) := by
    intro j j0 j1
    by_cases c : j < n - B
    · refine Or.inl ⟨c, hR2 j j0 c, ?_⟩
      rw [nr_lt (by omega)]
      by_cases d : j + 1 = n - B
      · rw [d, hR2a, nr_eq (by omega)]
      · rw [hR2 (j + 1) (by omega) (by omega), nr_lt (by omega), show B + (j + 1) = B + j + 1 by omega]
    · refine Or.inr ⟨j - (n - B), by omega, by omega, by omega, ?_, ?_⟩
      · by_cases d : j = n - B
        · rw [d, hR2a, show n - B - (n - B) = 0 by omega, w0]
        · rw [hR2b j (by omega) (by omega)]
      · by_cases d : j + 1 = n - B + 1 + K
        · rw [nr_eq d, hR2 0 (by omega) (by omega), show j - (n - B) + 1 = K + 1 by omega, wB, show B + 0 = B by omega]
        · rw [nr_lt (by omega), hR2b (j + 1) (by omega) (by omega)]; congr 1; omega
  -- who is on the way is not in the map
  have nw : ∀ i, 0 ≤ i → i ≤ K → ¬ A (w i) (w (i + 1)) := by
    intro i i0 i1 z
    by_cases c : K = 0
    · have : i = 0 := by omega
      subst this; exact h0 c z
    · by_cases d : i = 0
      · subst d; exact iso 1 (by omega) (by omega) _ z
      · exact iso i (by omega) i1 _ (m.1.1 _ _ z)
  have nw_zq : ∀ i, 0 ≤ i → i ≤ K → ¬ A (w (i + 1)) (w i) := fun i i0 i1 z => nw i i0 i1 (m.1.1 _ _ z)
  have rw_ : ∀ i j, 1 ≤ i → i ≤ K → 0 ≤ j → j < n → r j ≠ w i := fun i j i0 i1 j0 j1 z => iso i i0 i1 _ (z ▸ m.1.1 _ _ (ra_zq j j0 j1).1)
  -- other rows keep
  have og : ∀ g, 0 ≤ g → g < F → g ≠ f → ∀ k, 0 ≤ k → k < L g → R_zq g k = R g k ∧ R_zq g (nr (L g) k) = R g (nr (L g) k) ∧ R_zq g (nr (L g) (nr (L g) k)) = R g (nr (L g) (nr (L g) k)) := by
    intro g g0 g1 gf k k0 k1
    have z1 := nr_rng k0 k1
    have z2 := nr_rng z1.1 z1.2
    exact ⟨(ho g g0 g1 gf).2 k k0 k1, (ho g g0 g1 gf).2 _ z1.1 z1.2, (ho g g0 g1 gf).2 _ z2.1 z2.2⟩
  have inA : ∀ u v, A u v → piA A w K u v := fun u v z => Or.inl z
  have hin1 : ∀ j, 0 ≤ j → j < B + 1 + K → piA A w K (R_zq f j) (R_zq f (nr (B + 1 + K) j)) := by
    intro j j0 j1
    rcases q1 j j0 j1 with ⟨c, e1, e2⟩ | ⟨i, i0, i1, c, e1, e2⟩
    · rw [e1, e2]; exact Or.inl (rA j j0 (by omega))
    · rw [e1, e2]; exact Or.inr ⟨i, i0, i1, Or.inr ⟨rfl, rfl⟩⟩
  have hin2 : ∀ j, 0 ≤ j → j < n - B + 1 + K → piA A w K (R_zq F j) (R_zq F (nr (n - B + 1 + K) j)) := by
    intro j j0 j1
    rcases q2 j j0 j1 with ⟨c, e1, e2⟩ | ⟨i, i0, i1, c, e1, e2⟩
    · rw [e1, e2]; exact Or.inl (ra_zq (B + j) (by omega) (by omega)).1
    · rw [e1, e2]; exact Or.inr ⟨i, i0, i1, Or.inl ⟨rfl, rfl⟩⟩
  have iw : ∀ {i i_zq : Int}, i = i_zq → w i = w i_zq := fun e => by rw [e]
  have ir : ∀ {i i_zq : Int}, i = i_zq → r i = r i_zq := fun e => by rw [e]
  have B3 : ¬ (B = 1 ∧ K = 0) := fun z => by
    refine h0 z.2 ?_
    rw [w0, show (1 : Int) = K + 1 by omega, wB, z.1]
    exact rA 0 (by omega) (by omega)
  have B4 : ¬ (B = n - 1 ∧ K = 0) := fun z => by
    refine h0 z.2 (m.1.1 _ _ ?_)
    rw [w0, show (1 : Int) = K + 1 by omega, wB, z.1]
    exact rZ.1
  have row1 : RW (piA A w K) nx_zq (L_zq f) (R_zq f) := by
    rw [hL1]
    refine ⟨by omega, fun j j0 j1 => ⟨hin1 j j0 j1, ?_⟩, fun k l k0 k1 k2 => ?_⟩
    · have z := nr_rng j0 j1
      rcases q1 j j0 j1 with ⟨c, e1, e2⟩ | ⟨i, i0, i1, c, e1, e2⟩
      · have en : nr (B + 1 + K) j = j + 1 := nr_lt (by omega)
        rcases q1 _ z.1 z.2 with ⟨d, e3, e4⟩ | ⟨i_zq, i0_zq, i1_zq, d, e3, e4⟩
        · rw [e4, e1, e2, en]
          rw [en] at d
          rw [a3 _ _ (rA j j0 (by omega)) (fun y => rd_zq j (n - 1) j0 (by omega) (by omega) y.1) (fun y => rd_zq (j + 1) B (by omega) d B1 (y.2.trans wB)), rN j j0 (by omega)]
          exact ir (by omega)
        · rw [e4, e1, e2]
          rw [en] at d
          have : i_zq = K := by omega
          have e5 : j = B - 1 := by omega
          rw [this, ir e5, show j + 1 = B by omega, ← wB]; exact a5
      · rcases q1 _ z.1 z.2 with ⟨d, e3, e4⟩ | ⟨i_zq, i0_zq, i1_zq, d, e3, e4⟩
        · by_cases y : j + 1 = B + 1 + K
          · have en := nr_eq y
            rw [e4, e1, e2, en]
            have : i = 0 := by omega
            rw [this]
            show nx_zq (w (0 + 1)) (w 0) = r (0 + 1)
            rw [show (0 : Int) + 1 = 1 by omega, a6, w0]; exact rZ.2
          · rw [nr_lt (by omega)] at d; omega
        · by_cases y : j + 1 = B + 1 + K
          · rw [nr_eq y] at d; omega
          · rw [nr_lt (by omega)] at d
            rw [e4, e1, e2]
            have e5 : i = i_zq + 1 := by omega
            have := (a8 i_zq i0_zq (by omega)).2
            rw [e5, show i_zq + 1 + 1 = i_zq + 2 by omega]; exact this
    · by_cases c : l ≤ B
      · rw [hR1 k k0 (by omega), hR1 l (by omega) c]; exact rd_zq k l k0 k1 (by omega)
      · rw [hR1b l (by omega) k2]
        by_cases d : k ≤ B
        · rw [hR1 k k0 d]; exact rw_ _ _ (by omega) (by omega) k0 (by omega)
        · rw [hR1b k (by omega) (by omega)]; exact (wd _ _ (by omega) (by omega) (by omega)).symm
  have row2 : RW (piA A w K) nx_zq (L_zq F) (R_zq F) := by
    rw [hL2]
    refine ⟨by omega, fun j j0 j1 => ⟨hin2 j j0 j1, ?_⟩, fun k l k0 k1 k2 => ?_⟩
    · have z := nr_rng j0 j1
      rcases q2 j j0 j1 with ⟨c, e1, e2⟩ | ⟨i, i0, i1, c, e1, e2⟩
      · have en : nr (n - B + 1 + K) j = j + 1 := nr_lt (by omega)
        rcases q2 _ z.1 z.2 with ⟨d, e3, e4⟩ | ⟨i_zq, i0_zq, i1_zq, d, e3, e4⟩
        · rw [e4, e1, e2, en]
          rw [en] at d
          have e5 : nr n (B + j) = B + j + 1 := nr_lt (by omega)
          have e6 := ra_zq (B + j) (by omega) (by omega)
          rw [e5] at e6
          rw [e5, a3 _ _ e6.1 (fun y => rd_zq 0 (B + j + 1) (by omega) (by omega) (by omega) (w0.symm.trans y.2.symm)) (fun y => rd_zq B (B + j + 1) (by omega) (by omega) (by omega) (wB.symm.trans y.2.symm)), e6.2]
          rw [show B + (j + 1) = B + j + 1 by omega]
        · rw [e4, e1, e2]
          rw [en] at d
          have : i_zq = 0 := by omega
          rw [this, nr_eq (by omega : B + j + 1 = n), ir (show B + j = n - 1 by omega), ← w0]; exact a4
      · rcases q2 _ z.1 z.2 with ⟨d, e3, e4⟩ | ⟨i_zq, i0_zq, i1_zq, d, e3, e4⟩
        · by_cases y : j + 1 = n - B + 1 + K
          · have en := nr_eq y
            rw [e4, e1, e2, en]
            have : i = K := by omega
            rw [this, a7, wB, show B + 0 = B by omega]
            have e6 := (ra_zq (B - 1) (by omega) (by omega)).2
            rw [nr_lt (by omega : B - 1 + 1 < n), show B - 1 + 1 = B by omega] at e6
            exact e6
          · rw [nr_lt (by omega)] at d; omega
        · by_cases y : j + 1 = n - B + 1 + K
          · rw [nr_eq y] at d; omega
          · rw [nr_lt (by omega)] at d
            rw [e4, e1, e2]
            have e5 : i_zq = i + 1 := by omega
            have := (a8 i i0 (by omega)).1
            rw [e5, show i + 1 + 1 = i + 2 by omega]; exact this
    · have v : ∀ k, 0 ≤ k → k < n - B + 1 + K → (k < n - B ∧ R_zq F k = r (B + k)) ∨ (k = n - B ∧ R_zq F k = r 0) ∨ (n - B < k ∧ R_zq F k = w (k - (n - B))) := by
        intro k k0 k1
        by_cases c : k < n - B
        · exact Or.inl ⟨c, hR2 k k0 c⟩
        · by_cases d : k = n - B
          · exact Or.inr (Or.inl ⟨d, by rw [d]; exact hR2a⟩)
          · exact Or.inr (Or.inr ⟨by omega, hR2b k (by omega) k1⟩)
      rcases v k k0 (by omega) with ⟨c, e⟩ | ⟨c, e⟩ | ⟨c, e⟩ <;> rcases v l (by omega) k2 with ⟨c_zq, e_zq⟩ | ⟨c_zq, e_zq⟩ | ⟨c_zq, e_zq⟩ <;> rw [e, e_zq]
      · exact rd_zq _ _ (by omega) (by omega) (by omega)
      · exact (rd_zq _ _ (by omega) (by omega) (by omega)).symm
      · exact rw_ _ _ (by omega) (by omega) (by omega) (by omega)
      · omega
      · omega
      · exact rw_ _ _ (by omega) (by omega) (by omega) (by omega)
      · omega
      · omega
      · exact wd _ _ (by omega) (by omega) (by omega)
  have row3 : ∀ g, 0 ≤ g → g < F → g ≠ f → RW (piA A w K) nx_zq (L_zq g) (R_zq g) := by
    intro g g0 g1 gf
    obtain ⟨b1, b2, b3⟩ := hRW g g0 g1
    rw [(ho g g0 g1 gf).1]
    refine ⟨b1, fun k k0 k1 => ?_, fun k l k0 k1 k2 => ?_⟩
    · have z := nr_rng k0 k1
      obtain ⟨e1, e2, e3⟩ := og g g0 g1 gf k k0 k1
      rw [e1, e2, e3]
      refine ⟨Or.inl (b2 k k0 k1).1, ?_⟩
      rw [a3 _ _ (b2 k k0 k1).1 (fun y => gf ?_) (fun y => gf ?_)]
      · exact (b2 k k0 k1).2
      · refine hU g k f (n - 1) g0 g1 k0 k1 f0 f1 (by omega) (by omega) (by rw [hr _ (by omega) (by omega)]; exact y.1) ?_
        rw [hL, nr_eq (by omega : n - 1 + 1 = n), hr 0 (by omega) (by omega), ← w0]; exact y.2
      · refine hU g k f (B - 1) g0 g1 k0 k1 f0 f1 (by omega) (by omega) (by rw [hr _ (by omega) (by omega)]; exact y.1) ?_
        rw [hL, nr_lt (by omega : B - 1 + 1 < n), show B - 1 + 1 = B by omega, hr B (by omega) (by omega), ← wB]; exact y.2
    · rw [(ho g g0 g1 gf).2 k k0 (by omega), (ho g g0 g1 gf).2 l (by omega) k2]; exact b3 k l k0 k1 k2
  refine ⟨nx_zq, ρ', a1, a2, fun g g0 g1 => ?_, fun u v hA => ?_, ?_⟩
  · by_cases c : g = f
    · rw [c]; exact row1
    · by_cases d : g = F
      · rw [d]; exact row2
      · exact row3 g g0 (by omega) c
  · rcases hA with hA | ⟨i, i0, i1, ⟨hu, hv⟩ | ⟨hu, hv⟩⟩
    · obtain ⟨g, k, g0, g1, k0, k1, e1, e2⟩ := hC u v hA
      by_cases c : g = f
      · subst c
        rw [hL] at k1 e2
        have z := nr_rng k0 k1
        rw [hr k k0 k1] at e1
        rw [hr _ z.1 z.2] at e2
        by_cases d : k < B
        · refine ⟨g, k, g0, by omega, k0, by rw [hL1]; omega, ?_, ?_⟩
          · rw [hR1 k k0 (by omega)]; exact e1
          · rw [hL1, nr_lt (by omega), hR1 _ (by omega) (by omega), ← e2, nr_lt (by omega)]
        · have q := q2 (k - B) (by omega) (by omega)
          rcases q with ⟨_, x1, x2⟩ | ⟨i, i0, i1, x0, _⟩
          · rw [show B + (k - B) = k by omega] at x1 x2
            exact ⟨F, k - B, by omega, by omega, by omega, by rw [hL2]; omega, by rw [x1]; exact e1, by rw [hL2, x2]; exact e2⟩
          · omega
      · obtain ⟨x1, x2, _⟩ := og g g0 g1 c k k0 k1
        exact ⟨g, k, g0, by omega, k0, by rw [(ho g g0 g1 c).1]; exact k1, by rw [x1]; exact e1, by rw [(ho g g0 g1 c).1, x2]; exact e2⟩
    · rcases q2 (n - B + i) (by omega) (by omega) with ⟨z, _⟩ | ⟨i_zq, i0_zq, i1_zq, x0, x1, x2⟩
      · omega
      · have : i_zq = i := by omega
        rw [this] at x1 x2
        exact ⟨F, n - B + i, by omega, by omega, by omega, by rw [hL2]; omega, by rw [x1]; exact hu.symm, by rw [hL2, x2]; exact hv.symm⟩
    · rcases q1 (B + K - i) (by omega) (by omega) with ⟨z, _⟩ | ⟨i_zq, i0_zq, i1_zq, x0, x1, x2⟩
      · omega
      · have : i_zq = i := by omega
        rw [this] at x1 x2
        exact ⟨f, B + K - i, f0, by omega, by omega, by rw [hL1]; omega, by rw [x1]; exact hu.symm, by rw [hL1, x2]; exact hv.symm⟩
  · have u1 : ∀ k l, 0 ≤ k → k < L_zq f → 0 ≤ l → l < L_zq F → R_zq f k = R_zq F l → R_zq f (nr (L_zq f) k) = R_zq F (nr (L_zq F) l) → False := by
      intro k l k0 k1 l0 l1 e1 e2
      rw [hL1] at k1 e2
      rw [hL2] at l1 e2
      rcases q1 k k0 k1 with ⟨c, x1, x2⟩ | ⟨i, i0, i1, c, x1, x2⟩ <;> rcases q2 l l0 l1 with ⟨d, y1, y2⟩ | ⟨i_zq, i0_zq, i1_zq, d, y1, y2⟩ <;> rw [x1, y1] at e1 <;> rw [x2, y2] at e2
      · exact rd_zq k (B + l) k0 (by omega) (by omega) e1
      · have := rA k k0 (by omega); rw [e1, e2] at this; exact nw i_zq i0_zq i1_zq this
      · have := (ra_zq (B + l) (by omega) (by omega)).1; rw [← e1, ← e2] at this; exact nw_zq i i0 i1 this
      · have z1 : i + 1 = i_zq := Classical.byContradiction (fun z => by
          rcases Int.lt_or_gt_of_ne z with y | y
          · exact wd _ _ (by omega) y (by omega) e1
          · exact wd _ _ (by omega) y (by omega) e1.symm)
        exact wd i (i_zq + 1) i0 (by omega) (by omega) e2
    have u2 : ∀ g k l, 0 ≤ g → g < F → g ≠ f → 0 ≤ k → k < L_zq f → 0 ≤ l → l < L_zq g → R_zq f k = R_zq g l → R_zq f (nr (L_zq f) k) = R_zq g (nr (L_zq g) l) → False := by
      intro g k l g0 g1 gf k0 k1 l0 l1 e1 e2
      rw [(ho g g0 g1 gf).1] at l1 e2
      obtain ⟨y1, y2, _⟩ := og g g0 g1 gf l l0 l1
      rw [hL1] at k1 e2
      rw [y1] at e1
      rw [y2] at e2
      rcases q1 k k0 k1 with ⟨c, x1, x2⟩ | ⟨i, i0, i1, c, x1, x2⟩ <;> rw [x1] at e1 <;> rw [x2] at e2
      · refine gf (hU g l f k g0 g1 l0 l1 f0 f1 k0 (by omega) (by rw [hr k k0 (by omega)]; exact e1.symm) ?_)
        rw [hL, nr_lt (by omega : k + 1 < n), hr _ (by omega) (by omega)]; exact e2.symm
      · have := ((hRW g g0 g1).2.1 l l0 l1).1; rw [← e1, ← e2] at this; exact nw_zq i i0 i1 this
    have u3 : ∀ g k l, 0 ≤ g → g < F → g ≠ f → 0 ≤ k → k < L_zq F → 0 ≤ l → l < L_zq g → R_zq F k = R_zq g l → R_zq F (nr (L_zq F) k) = R_zq g (nr (L_zq g) l) → False := by
      intro g k l g0 g1 gf k0 k1 l0 l1 e1 e2
      rw [(ho g g0 g1 gf).1] at l1 e2
      obtain ⟨y1, y2, _⟩ := og g g0 g1 gf l l0 l1
      rw [hL2] at k1 e2
      rw [y1] at e1
      rw [y2] at e2
      rcases q2 k k0 k1 with ⟨c, x1, x2⟩ | ⟨i, i0, i1, c, x1, x2⟩ <;> rw [x1] at e1 <;> rw [x2] at e2
      · have z := nr_rng (L := n) (k := B + k) (by omega) (by omega)
        refine gf (hU g l f (B + k) g0 g1 l0 l1 f0 f1 (by omega) (by omega) (by rw [hr _ (by omega) (by omega)]; exact e1.symm) ?_)
        rw [hL, hr _ z.1 z.2]; exact e2.symm
      · have := ((hRW g g0 g1).2.1 l l0 l1).1; rw [← e1, ← e2] at this; exact nw i i0 i1 this
    intro g k g_zq l g0 g1 k0 k1 g0_zq g1_zq l0 l1 e1 e2
    by_cases c : g = g_zq
    · exact c
    · exfalso
      by_cases c1 : g = f
      · subst c1
        by_cases c2 : g_zq = F
        · subst c2; exact u1 k l k0 k1 l0 l1 e1 e2
        · exact u2 g_zq k l g0_zq (by omega) (fun z => c z.symm) k0 k1 l0 l1 e1 e2
      · by_cases c1_zq : g_zq = f
        · subst c1_zq
          by_cases c2 : g = F
          · subst c2; exact u1 l k l0 l1 k0 k1 e1.symm e2.symm
          · exact u2 g l k g0 (by omega) c1 l0 l1 k0 k1 e1.symm e2.symm
        · by_cases c2 : g = F
          · subst c2; exact u3 g_zq k l g0_zq (by omega) c1_zq k0 k1 l0 l1 e1 e2
          · by_cases c3 : g_zq = F
            · subst c3; exact u3 g l k g0 (by omega) c1 l0 l1 k0 k1 e1.symm e2.symm
            · obtain ⟨x1, x2, _⟩ := og g g0 (by omega) c1 k k0 (by rw [← (ho g g0 (by omega) c1).1]; exact k1)
              obtain ⟨y1, y2, _⟩ := og g_zq g0_zq (by omega) c1_zq l l0 (by rw [← (ho g_zq g0_zq (by omega) c1_zq).1]; exact l1)
              rw [(ho g g0 (by omega) c1).1] at e2 k1
              rw [(ho g_zq g0_zq (by omega) c1_zq).1] at e2 l1
              rw [x1, y1] at e1
              rw [x2, y2] at e2
              exact c (hU g k g_zq l g0 (by omega) k0 k1 g0_zq (by omega) l0 l1 e1 e2)
end
section
/-! split: a face cut in two by a way -/
def dA (m : Int) (pt ph al bl dE : Int → Int) (b : Int) (u v : Int) : Prop := ∃ e, JJ m pt ph al e u v ∧ bl e = b ∧ dE e ≠ 0
def rwf (face : Int → Int) (f k : Int) : Int := face (60 * f + k)
def FI (m faces : Int) (pt ph al bl dE fm face : Int → Int) (b : Int) : Prop := ∃ nx ρ, FIX (dA m pt ph al bl dE b) nx ρ faces fm (rwf face)
def czf (faces m : Int) (dE : Int → Int) : Prop := 2 ≤ faces ∧ faces + cz dE m ≤ 82
def wy2 (A : pa_T) (n wm : Int) (way : Int → Int) (Z : Prop) : Prop := 2 ≤ wm ∧ wm ≤ n ∧ (∀ i, 0 ≤ i → i < wm → 0 ≤ way i ∧ way i < n) ∧ (∀ i j, 0 ≤ i → i < j → j < wm → way i ≠ way j) ∧ (∀ i, 1 ≤ i → i + 2 ≤ wm → ∀ u, ¬ A u (way i)) ∧ (wm = 2 → ¬ A (way 0) (way 1)) ∧ Z
def SPR (n m faces wm : Int) (pt ph al bl dE fm face way : Int → Int) (b f : Int) : Prop := GOK n m pt ph ∧ FI m faces pt ph al bl dE fm face b ∧ 0 ≤ f ∧ f < faces ∧ wy2 (dA m pt ph al bl dE b) n wm way (czf faces m dE) ∧ (∃ k, 0 ≤ k ∧ k < fm f ∧ rwf face f k = way 0) ∧ ∃ k, 0 ≤ k ∧ k < fm f ∧ rwf face f k = way (wm - 1)
theorem row_len {n m : Int} {pt ph al bl dE : Int → Int} {b : Int} {nx : Int → Int → Int} {L : Int} {r : Int → Int} (hg : GOK n m pt ph) (h : RW (dA m pt ph al bl dE b) nx L r) : 3 ≤ L ∧ L ≤ n := by
  refine ⟨h.1, ?_⟩
  have hn : 0 ≤ n := by
    obtain ⟨e, j, _⟩ := (h.2.1 0 (by omega) (by have := h.1; omega)).1
    have := JJ_rng hg j; omega
  have rg : ∀ k, 0 ≤ k → k < L → 0 ≤ r k ∧ r k < n := fun k k0 k1 => by
    obtain ⟨e, j, _⟩ := (h.2.1 k k0 k1).1
    have := JJ_rng hg j; omega
  have := php L.toNat n.toNat (fun t => (r t).toNat) (fun t ht => by have := rg t (by omega) (by omega); show (r t).toNat < n.toNat; omega) (fun s t hs ht e => by
    have e_zq : (r s).toNat = (r t).toNat := e
    have a1 := rg s (by omega) (by omega)
    have a2 := rg t (by omega) (by omega)
    rcases Nat.lt_trichotomy s t with q | q | q
    · exact absurd (by omega) (h.2.2 s t (by omega) (by omega) (by omega))
    · exact q
    · exact absurd (by omega) (h.2.2 t s (by omega) (by omega) (by omega)))
  have := h.1
  omega
theorem spr_len {n m faces wm : Int} {pt ph al bl dE fm face way : Int → Int} {b f : Int} (h : SPR n m faces wm pt ph al bl dE fm face way b f) : 3 ≤ fm f ∧ fm f ≤ n ∧ 2 ≤ wm ∧ wm ≤ n := by
  obtain ⟨hg, ⟨nx, ρ, hF⟩, f0, f1, hw, _⟩ := h
  have := row_len hg (hF.2.2.1 f f0 f1)
  exact ⟨this.1, this.2, hw.1, hw.2.1⟩
def S1 (n m faces wm : Int) (pt ph al bl dE fm face way : Int → Int) (b f a : Int) : Prop := SPR n m faces wm pt ph al bl dE fm face way b f ∧ ∀ j, 0 ≤ j → j < a → rwf face f j ≠ way 0
theorem s1_lt {n m faces wm : Int} {pt ph al bl dE fm face way : Int → Int} {b f a : Int} (h : S1 n m faces wm pt ph al bl dE fm face way b f a) : a < fm f := by
  obtain ⟨⟨_, _, _, _, _, ⟨k, k0, k1, k2⟩, _⟩, h2⟩ := h
  exact Classical.byContradiction (fun z => h2 k k0 (by omega) k2)
theorem s1_next {n m faces wm : Int} {pt ph al bl dE fm face way : Int → Int} {b f a a_zq : Int} (h : S1 n m faces wm pt ph al bl dE fm face way b f a) (ha : a_zq = a + 1) (hn : rwf face f a ≠ way 0) : S1 n m faces wm pt ph al bl dE fm face way b f a_zq := by
  refine ⟨h.1, fun j j0 j1 => ?_⟩
  by_cases q : j = a
  · rw [q]; exact hn
  · exact h.2 j j0 (by omega)
def S2 (n m faces wm : Int) (pt ph al bl dE fm face way line : Int → Int) (b f a L k : Int) : Prop := SPR n m faces wm pt ph al bl dE fm face way b f ∧ 0 ≤ a ∧ a < L ∧ L = fm f ∧ rwf face f a = way 0 ∧ ∀ j, 0 ≤ j → j < k → line j = rwf face f ((a + j) % L)
theorem emod2 {a j L : Int} (a0 : 0 ≤ a) (a1 : a < L) (j0 : 0 ≤ j) (j1 : j < L) : (a + j) % L = if a + j < L then a + j else a + j - L := by
  split
  · exact Int.emod_eq_of_lt (by omega) (by omega)
  · rw [show a + j = a + j - L + L by omega, Int.add_emod_right]
    rw [Int.emod_eq_of_lt (by omega) (by omega)]; omega
theorem nr_mod {a j L : Int} (a0 : 0 ≤ a) (a1 : a < L) (j0 : 0 ≤ j) (j1 : j < L) : (a + nr L j) % L = nr L ((a + j) % L) := by
  have z := nr_rng j0 j1
  rw [emod2 a0 a1 z.1 z.2, emod2 a0 a1 j0 j1]
  unfold nr
  split <;> split <;> split <;> (try split) <;> omega
/-- a row turned -/
theorem rot_row {A : pa_T} {nx : Int → Int → Int} {L a : Int} {r r_zq : Int → Int} (h : RW A nx L r) (a0 : 0 ≤ a) (a1 : a < L) (hr : ∀ j, 0 ≤ j → j < L → r_zq j = r ((a + j) % L)) : RW A nx L r_zq := by
  obtain ⟨h1, h2, h3⟩ := h
  refine ⟨h1, fun k k0 k1 => ?_, fun k l k0 k1 k2 => ?_⟩
  · have z := nr_rng k0 k1
    have z2 := nr_rng z.1 z.2
    have y : 0 ≤ (a + k) % L ∧ (a + k) % L < L := ⟨Int.emod_nonneg _ (by omega), Int.emod_lt_of_pos _ (by omega)⟩
    rw [hr k k0 k1, hr _ z.1 z.2, hr _ z2.1 z2.2, nr_mod a0 a1 z.1 z.2, nr_mod a0 a1 k0 k1]
    exact h2 _ y.1 y.2
  · rw [hr k k0 (by omega), hr l (by omega) k2, emod2 a0 a1 k0 (by omega), emod2 a0 a1 (by omega) k2]
    split <;> split
    · exact h3 _ _ (by omega) (by omega) (by omega)
    · exact (h3 _ _ (by omega) (by omega) (by omega)).symm
    · omega
    · exact h3 _ _ (by omega) (by omega) (by omega)
def SPL (n m faces wm : Int) (pt ph al bl dE fm face way line : Int → Int) (b f N : Int) : Prop := GOK n m pt ph ∧ (∃ nx ρ L R, FIX (dA m pt ph al bl dE b) nx ρ faces L R ∧ L f = N ∧ (∀ j, 0 ≤ j → j < N → R f j = line j) ∧ ∀ g, 0 ≤ g → g < faces → g ≠ f → L g = fm g ∧ ∀ j, 0 ≤ j → j < L g → R g j = rwf face g j) ∧ 0 ≤ f ∧ f < faces ∧ wy2 (dA m pt ph al bl dE b) n wm way (czf faces m dE) ∧ line 0 = way 0 ∧ ∃ k, 0 ≤ k ∧ k < N ∧ line k = way (wm - 1)
theorem spl_of {n m faces wm : Int} {pt ph al bl dE fm face way line : Int → Int} {b f a N k : Int} (h : S2 n m faces wm pt ph al bl dE fm face way line b f a N k) (hk : N ≤ k) : SPL n m faces wm pt ph al bl dE fm face way line b f N := by
  obtain ⟨⟨hg, ⟨nx, ρ, hF⟩, f0, f1, hw, hx, ⟨kl, kl0, kl1, kl2⟩⟩, a0, a1, hN, ha, hline⟩ := h
  have hl : ∀ j, 0 ≤ j → j < N → line j = rwf face f ((a + j) % N) := fun j j0 j1 => hline j j0 (by omega)
  obtain ⟨m1, m2, m3, m4, m5⟩ := hF
  -- each place of the turned row is a place of the row, and each of the row one of the turned one
  have inv : ∀ k, 0 ≤ k → k < N → ∃ j, 0 ≤ j ∧ j < N ∧ (a + j) % N = k := by
    intro k k0 k1
    by_cases q : a ≤ k
    · exact ⟨k - a, by omega, by omega, by rw [emod2 a0 a1 (by omega) (by omega)]; split <;> omega⟩
    · exact ⟨k - a + N, by omega, by omega, by rw [emod2 a0 a1 (by omega) (by omega)]; split <;> omega⟩
  have md : ∀ j, 0 ≤ (a + j) % N ∧ (a + j) % N < N := fun j => ⟨Int.emod_nonneg _ (by omega), Int.emod_lt_of_pos _ (by omega)⟩
  have hR : ∀ g j, (if g = f then line j else rwf face g j) = if g = f then line j else rwf face g j := fun _ _ => rfl
  refine ⟨hg, ⟨nx, ρ, fm, fun g j => if g = f then line j else rwf face g j, ⟨m1, m2, fun g g0 g1 => ?_, fun u v hA => ?_, fun g k g_zq l g0 g1 k0 k1 g0_zq g1_zq l0 l1 e1 e2 => ?_⟩, hN.symm, fun j j0 j1 => by simp, fun g g0 g1 gf => ⟨rfl, fun j j0 j1 => by simp [gf]⟩⟩, f0, f1, hw, ?_, ?_⟩
  · by_cases q : g = f
    · subst q
      simp only [if_true]
      rw [← hN]
      exact rot_row (by rw [hN]; exact m3 g g0 g1) a0 a1 (fun j j0 j1 => hl j j0 j1)
    · simp only [if_neg q]; exact m3 g g0 g1
  · obtain ⟨g, k, g0, g1, k0, k1, e1, e2⟩ := m4 u v hA
    by_cases q : g = f
    · subst q
      rw [← hN] at k1
      obtain ⟨j, j0, j1, j2⟩ := inv k k0 k1
      have z := nr_rng j0 j1
      refine ⟨g, j, g0, g1, j0, by omega, ?_, ?_⟩
      · simp only [if_true]; rw [hl j j0 j1, j2]; exact e1
      · simp only [if_true]; rw [← hN, hl _ z.1 z.2, nr_mod a0 a1 j0 j1, j2, hN]; exact e2
    · exact ⟨g, k, g0, g1, k0, k1, by simp only [if_neg q]; exact e1, by simp only [if_neg q]; exact e2⟩
  · -- a dart of the new rows is one of the old rows with the same number
    have tr : ∀ g k, 0 ≤ g → g < faces → 0 ≤ k → k < fm g → ∃ k_zq, 0 ≤ k_zq ∧ k_zq < fm g ∧ (if g = f then line k else rwf face g k) = rwf face g k_zq ∧ (if g = f then line (nr (fm g) k) else rwf face g (nr (fm g) k)) = rwf face g (nr (fm g) k_zq) := by
      intro g k g0 g1 k0 k1
      by_cases q : g = f
      · subst q
        rw [← hN] at k1 ⊢
        have z := nr_rng k0 k1
        have y := md k
        refine ⟨(a + k) % N, y.1, y.2, ?_, ?_⟩
        · simp only [if_true]; exact hl k k0 k1
        · simp only [if_true]; rw [hl _ z.1 z.2, nr_mod a0 a1 k0 k1]
      · exact ⟨k, k0, k1, by simp only [if_neg q], by simp only [if_neg q]⟩
    obtain ⟨k_zq, x0, x1, x2, x3⟩ := tr g k g0 g1 k0 k1
    obtain ⟨l_zq, y0, y1, y2, y3⟩ := tr g_zq l g0_zq g1_zq l0 l1
    exact m5 g k_zq g_zq l_zq g0 g1 x0 x1 g0_zq g1_zq y0 y1 (x2.symm.trans (e1.trans y2)) (x3.symm.trans (e2.trans y3))
  · rw [hl 0 (by omega) (by omega), show a + 0 = a by omega, Int.emod_eq_of_lt a0 a1]; exact ha
  · rw [← hN] at kl1
    obtain ⟨j, j0, j1, j2⟩ := inv kl kl0 kl1
    exact ⟨j, j0, j1, by rw [hl j j0 j1, j2]; exact kl2⟩
theorem spl_face {n m faces wm : Int} {pt ph al bl dE fm fm_zq face face_zq way line : Int → Int} {b f N : Int} (h : SPL n m faces wm pt ph al bl dE fm face way line b f N) (hn : n ≤ 60) (hf : ∀ g j, 0 ≤ g → g < faces → g ≠ f → 0 ≤ j → j < 60 → rwf face_zq g j = rwf face g j) (hm : ∀ g, 0 ≤ g → g < faces → g ≠ f → fm_zq g = fm g) : SPL n m faces wm pt ph al bl dE fm_zq face_zq way line b f N := by
  obtain ⟨hg, ⟨nx, ρ, L, R, h1, h2, h3, h4⟩, f0, f1, hw, hl⟩ := h
  refine ⟨hg, ⟨nx, ρ, L, R, h1, h2, h3, fun g g0 g1 gf => ⟨by rw [hm g g0 g1 gf]; exact (h4 g g0 g1 gf).1, fun j j0 j1 => ?_⟩⟩, f0, f1, hw, hl⟩
  have := row_len hg (h1.2.2.1 g g0 g1)
  rw [hf g j g0 g1 gf j0 (by omega)]; exact (h4 g g0 g1 gf).2 j j0 j1
theorem spl_len {n m faces wm : Int} {pt ph al bl dE fm face way line : Int → Int} {b f N : Int} (h : SPL n m faces wm pt ph al bl dE fm face way line b f N) : 3 ≤ N ∧ N ≤ n ∧ 2 ≤ wm ∧ wm ≤ n := by
  obtain ⟨hg, ⟨nx, ρ, L, R, h1, h2, _⟩, f0, f1, hw, _⟩ := h
  have := row_len hg (h1.2.2.1 f f0 f1)
  rw [h2] at this
  exact ⟨this.1, this.2, hw.1, hw.2.1⟩
def S3 (n m faces wm : Int) (pt ph al bl dE fm face way line : Int → Int) (b f N c : Int) : Prop := SPL n m faces wm pt ph al bl dE fm face way line b f N ∧ ∀ j, 0 ≤ j → j < c → line j ≠ way (wm - 1)
theorem s3_lt {n m faces wm : Int} {pt ph al bl dE fm face way line : Int → Int} {b f N c : Int} (h : S3 n m faces wm pt ph al bl dE fm face way line b f N c) : c < N := by
  obtain ⟨⟨_, _, _, _, _, _, ⟨k, k0, k1, k2⟩⟩, h2⟩ := h
  exact Classical.byContradiction (fun z => h2 k k0 (by omega) k2)
theorem s3_next {n m faces wm : Int} {pt ph al bl dE fm face way line : Int → Int} {b f N c c_zq : Int} (h : S3 n m faces wm pt ph al bl dE fm face way line b f N c) (hc : c_zq = c + 1) (hn : line c ≠ way (wm - 1)) : S3 n m faces wm pt ph al bl dE fm face way line b f N c_zq := by
  refine ⟨h.1, fun j j0 j1 => ?_⟩
  by_cases q : j = c
  · rw [q]; exact hn
  · exact h.2 j j0 (by omega)
def SPB (n m faces wm : Int) (pt ph al bl dE fm face way line : Int → Int) (b f N B : Int) : Prop := SPL n m faces wm pt ph al bl dE fm face way line b f N ∧ 0 < B ∧ B < N ∧ line B = way (wm - 1)
theorem spb_of {n m faces wm : Int} {pt ph al bl dE fm face way line : Int → Int} {b f N c : Int} (h : S3 n m faces wm pt ph al bl dE fm face way line b f N c) (c0 : 0 ≤ c) (hc : line c = way (wm - 1)) : SPB n m faces wm pt ph al bl dE fm face way line b f N c := by
  have := s3_lt h
  refine ⟨h.1, ?_, this, hc⟩
  obtain ⟨⟨_, _, _, _, hw, hl, _⟩, _⟩ := h
  have h2 := hw.1
  by_cases q : c = 0
  · rw [q, hl] at hc; exact absurd hc (hw.2.2.2.1 0 (wm - 1) (by omega) (by omega) (by omega))
  · omega
def S4 (n m faces wm : Int) (pt ph al bl dE fm face way line : Int → Int) (b f N B k : Int) : Prop := SPB n m faces wm pt ph al bl dE fm face way line b f N B ∧ ∀ j, 0 ≤ j → j < k → rwf face f j = line j
def S5 (n m faces wm : Int) (pt ph al bl dE fm face way line : Int → Int) (b f N B mm k : Int) : Prop := SPB n m faces wm pt ph al bl dE fm face way line b f N B ∧ (∀ j, 0 ≤ j → j ≤ B → rwf face f j = line j) ∧ mm + k = B + wm - 1 ∧ 0 ≤ k ∧ (∀ j, B < j → j < mm → rwf face f j = way (B + wm - 1 - j)) ∧ B < mm
def RR1 (wm : Int) (fm face way line : Int → Int) (f B : Int) : Prop := fm f = B + wm - 1 ∧ (∀ j, 0 ≤ j → j ≤ B → rwf face f j = line j) ∧ ∀ j, B < j → j < B + wm - 1 → rwf face f j = way (B + wm - 1 - j)
def S6 (n m faces wm : Int) (pt ph al bl dE fm face way line : Int → Int) (b f N B mm k : Int) : Prop := SPB n m faces wm pt ph al bl dE fm face way line b f N B ∧ RR1 wm fm face way line f B ∧ mm = k - B ∧ k ≤ N + 1 ∧ ∀ j, 0 ≤ j → j < mm → rwf face faces j = line ((B + j) % N)
def S7 (n m faces wm : Int) (pt ph al bl dE fm face way line : Int → Int) (b f N B mm k : Int) : Prop := SPB n m faces wm pt ph al bl dE fm face way line b f N B ∧ RR1 wm fm face way line f B ∧ mm = N - B + k ∧ 1 ≤ k ∧ k ≤ wm - 1 ∧ (∀ j, 0 ≤ j → j ≤ N - B → rwf face faces j = line ((B + j) % N)) ∧ ∀ j, N - B < j → j < mm → rwf face faces j = way (j - (N - B))
def SPQ (m faces wm : Int) (pt ph al bl dE fm face way : Int → Int) (b : Int) : Prop := (∃ nx ρ, FIX (piA (dA m pt ph al bl dE b) way (wm - 2)) nx ρ faces fm (rwf face)) ∧ 2 ≤ faces ∧ faces + cz dE m ≤ 83
theorem spb_face {n m faces wm : Int} {pt ph al bl dE fm fm_zq face face_zq way line : Int → Int} {b f N B : Int} (h : SPB n m faces wm pt ph al bl dE fm face way line b f N B) (hn : n ≤ 60) (hf : ∀ g j, 0 ≤ g → g < faces → g ≠ f → 0 ≤ j → j < 60 → rwf face_zq g j = rwf face g j) (hm : ∀ g, 0 ≤ g → g < faces → g ≠ f → fm_zq g = fm g) : SPB n m faces wm pt ph al bl dE fm_zq face_zq way line b f N B := ⟨spl_face h.1 hn hf hm, h.2⟩
/-- one store into the row of faces -/
def st1 (face face_zq : Int → Int) (i v : Int) : Prop := ∀ j, 0 ≤ j → (j = i → face_zq j = v) ∧ (j ≠ i → face_zq j = face j)
theorem st1_row {face face_zq : Int → Int} {f k v i : Int} (h : st1 face face_zq i v) (hi : i = 60 * f + k) (f0 : 0 ≤ f) (k0 : 0 ≤ k) (k1 : k < 60) : rwf face_zq f k = v ∧ (∀ j, 0 ≤ j → j ≠ k → rwf face_zq f j = rwf face f j) ∧ ∀ g j, 0 ≤ g → g ≠ f → 0 ≤ j → j < 60 → rwf face_zq g j = rwf face g j := by
  subst hi
  refine ⟨(h _ (by omega)).1 rfl, fun j j0 jk => (h _ (by omega)).2 (by omega), fun g j g0 gf j0 j1 => (h _ (by omega)).2 (by omega)⟩
theorem s4_next {n m faces wm : Int} {pt ph al bl dE fm face face_zq way line : Int → Int} {b f N B k k_zq i v : Int} (h : S4 n m faces wm pt ph al bl dE fm face way line b f N B k) (hs : st1 face face_zq i v) (hn : n ≤ 60) (hi : i = 60 * f + k) (k0 : 0 ≤ k) (k1 : k ≤ B) (hv : v = line k) (hk : k_zq = k + 1) : S4 n m faces wm pt ph al bl dE fm face_zq way line b f N B k_zq := by
  have f0 := h.1.1.2.2.1
  have hl := spl_len h.1.1
  have hB := h.1.2.2.1
  obtain ⟨z1, z2, z3⟩ := st1_row hs hi f0 k0 (by omega)
  refine ⟨spb_face h.1 hn (fun g j g0 _ gf j0 j1 => z3 g j g0 gf j0 j1) (fun _ _ _ _ => rfl), fun j j0 j1 => ?_⟩
  by_cases q : j = k
  · rw [q, z1, hv]
  · rw [z2 j j0 q]; exact h.2 j j0 (by omega)
theorem s5_of {n m faces wm : Int} {pt ph al bl dE fm face way line : Int → Int} {b f N B k mm k2 : Int} (h : S4 n m faces wm pt ph al bl dE fm face way line b f N B k) (hk : B < k) (hm : mm = B + 1) (hk2 : k2 = wm - 2) : S5 n m faces wm pt ph al bl dE fm face way line b f N B mm k2 := by
  have hl := spl_len h.1.1
  exact ⟨h.1, fun j j0 j1 => h.2 j j0 (by omega), by omega, by omega, fun j j0 j1 => by omega, by omega⟩
theorem s5_next {n m faces wm : Int} {pt ph al bl dE fm face face_zq way line : Int → Int} {b f N B mm mm_zq k k_zq i v : Int} (h : S5 n m faces wm pt ph al bl dE fm face way line b f N B mm k) (hs : st1 face face_zq i v) (hn : n ≤ 25) (hi : i = 60 * f + mm) (m0 : 0 ≤ mm) (k1 : 0 < k) (hv : v = way k) (hk : k_zq = k - 1) (hm : mm_zq = mm + 1) : S5 n m faces wm pt ph al bl dE fm face_zq way line b f N B mm_zq k_zq := by
  have f0 := h.1.1.2.2.1
  have hl := spl_len h.1.1
  have hB := h.1.2.2.1
  have h3 := h.2.2.1
  have hb := h.2.2.2.2.2
  obtain ⟨z1, z2, z3⟩ := st1_row hs hi f0 m0 (by omega)
  refine ⟨spb_face h.1 (by omega) (fun g j g0 _ gf j0 j1 => z3 g j g0 gf j0 j1) (fun _ _ _ _ => rfl), fun j j0 j1 => ?_, by omega, by omega, fun j j0 j1 => ?_, by omega⟩
  · rw [z2 j j0 (by omega)]; exact h.2.1 j j0 j1
  · by_cases q : j = mm
    · rw [q, z1, hv]; congr 1; omega
    · rw [z2 j (by have := h.1.2.1; omega) q]; exact h.2.2.2.2.1 j j0 (by omega)
theorem s6_of {n m faces wm : Int} {pt ph al bl dE fm fm_zq face way line : Int → Int} {b f N B mm k mm_zq k_zq i v : Int} (h : S5 n m faces wm pt ph al bl dE fm face way line b f N B mm k) (hk : k ≤ 0) (hn : n ≤ 60) (hs : st1 fm fm_zq i v) (hi : i = f) (hv : v = mm) (hm : mm_zq = 0) (hk_zq : k_zq = B) : S6 n m faces wm pt ph al bl dE fm_zq face way line b f N B mm_zq k_zq := by
  obtain ⟨h1, h2, h3, h4, h5, _⟩ := h
  have f0 := h1.1.2.2.1
  have hB := h1.2.2.1
  subst hi
  refine ⟨spb_face h1 hn (fun _ _ _ _ _ _ _ => rfl) (fun g g0 _ gf => (hs g g0).2 gf), ⟨by rw [(hs _ f0).1 rfl]; omega, h2, fun j j0 j1 => h5 j j0 (by omega)⟩, by omega, by omega, fun j j0 j1 => by omega⟩
theorem rr1_face {wm : Int} {fm face face_zq way line : Int → Int} {f B faces mm v i : Int} (h : RR1 wm fm face way line f B) (hs : st1 face face_zq i v) (hi : i = 60 * faces + mm) (f0 : 0 ≤ f) (f1 : f < faces) (m0 : 0 ≤ mm) (m1 : mm < 60) (hB : 0 < B) (hb : B < 60) (hw : B + wm - 1 ≤ 60) : RR1 wm fm face_zq way line f B := by
  obtain ⟨z1, z2, z3⟩ := st1_row hs hi (by omega) m0 m1
  exact ⟨h.1, fun j j0 j1 => by rw [z3 f j f0 (by omega) j0 (by omega)]; exact h.2.1 j j0 j1, fun j j0 j1 => by rw [z3 f j f0 (by omega) (by omega) (by omega)]; exact h.2.2 j j0 j1⟩
theorem s6_next {n m faces wm : Int} {pt ph al bl dE fm face face_zq way line : Int → Int} {b f N B mm mm_zq k k_zq i v q : Int} (h : S6 n m faces wm pt ph al bl dE fm face way line b f N B mm k) (hs : st1 face face_zq i v) (hn : n ≤ 25) (hi : i = 60 * faces + mm) (m0 : 0 ≤ mm) (k1 : k ≤ N) (hv : v = line q) (hq : q = k % N) (hk : k_zq = k + 1) (hm : mm_zq = mm + 1) : S6 n m faces wm pt ph al bl dE fm face_zq way line b f N B mm_zq k_zq := by
  obtain ⟨h1, h2, h3, h4, h5⟩ := h
  have f0 := h1.1.2.2.1
  have f1 := h1.1.2.2.2.1
  have hl := spl_len h1.1
  have hB := h1.2.1
  have hB1 := h1.2.2.1
  obtain ⟨z1, z2, z3⟩ := st1_row hs hi (by omega) m0 (by omega)
  refine ⟨spb_face h1 (by omega) (fun g j g0 g1 gf j0 j1 => z3 g j g0 (by omega) j0 j1) (fun _ _ _ _ => rfl), rr1_face h2 hs hi f0 f1 m0 (by omega) hB (by omega) (by omega), by omega, by omega, fun j j0 j1 => ?_⟩
  by_cases c : j = mm
  · rw [c, z1, hv, hq]; congr 2; omega
  · rw [z2 j j0 c]; exact h5 j j0 (by omega)
theorem s7_of {n m faces wm : Int} {pt ph al bl dE fm face way line : Int → Int} {b f N B mm k k_zq : Int} (h : S6 n m faces wm pt ph al bl dE fm face way line b f N B mm k) (hk : N < k) (hk_zq : k_zq = 1) : S7 n m faces wm pt ph al bl dE fm face way line b f N B mm k_zq := by
  obtain ⟨h1, h2, h3, h4, h5⟩ := h
  have hl := spl_len h1.1
  exact ⟨h1, h2, by omega, by omega, by omega, fun j j0 j1 => h5 j j0 (by omega), fun j j0 j1 => by omega⟩
theorem s7_next {n m faces wm : Int} {pt ph al bl dE fm face face_zq way line : Int → Int} {b f N B mm mm_zq k k_zq i v : Int} (h : S7 n m faces wm pt ph al bl dE fm face way line b f N B mm k) (hs : st1 face face_zq i v) (hn : n ≤ 25) (hi : i = 60 * faces + mm) (m0 : 0 ≤ mm) (k1 : k + 1 < wm) (hv : v = way k) (hk : k_zq = k + 1) (hm : mm_zq = mm + 1) : S7 n m faces wm pt ph al bl dE fm face_zq way line b f N B mm_zq k_zq := by
  obtain ⟨h1, h2, h3, h4, h5, h6, h7⟩ := h
  have f0 := h1.1.2.2.1
  have f1 := h1.1.2.2.2.1
  have hl := spl_len h1.1
  have hB := h1.2.1
  have hB1 := h1.2.2.1
  obtain ⟨z1, z2, z3⟩ := st1_row hs hi (by omega) m0 (by omega)
  refine ⟨spb_face h1 (by omega) (fun g j g0 g1 gf j0 j1 => z3 g j g0 (by omega) j0 j1) (fun _ _ _ _ => rfl), rr1_face h2 hs hi f0 f1 m0 (by omega) hB (by omega) (by omega), by omega, by omega, by omega, fun j j0 j1 => ?_, fun j j0 j1 => ?_⟩
  · rw [z2 j j0 (by omega)]; exact h6 j j0 j1
  · by_cases c : j = mm
    · rw [c, z1, hv]; congr 1; omega
    · rw [z2 j (by omega) c]; exact h7 j j0 (by omega)
theorem spq_of {n m faces wm : Int} {pt ph al bl dE fm fm_zq face way line : Int → Int} {b f N B mm k i v faces_zq : Int} (h : S7 n m faces wm pt ph al bl dE fm face way line b f N B mm k) (hk : wm ≤ k + 1) (hs : st1 fm fm_zq i v) (hi : i = faces) (hv : v = mm) (hF : faces_zq = faces + 1) : SPQ m faces_zq wm pt ph al bl dE fm_zq face way b := by
  obtain ⟨h1, h2, h3, h4, h5, h6, h7⟩ := h
  obtain ⟨⟨hg, ⟨nx, ρ, L, R, x1, x2, x3, x4⟩, f0, f1, hw, hl0, _⟩, B0, B1, hB⟩ := h1
  obtain ⟨w1, w2, w3, w4, w5, w6, w7, w8⟩ := hw
  subst hF
  have e1 : wm - 2 + 1 = wm - 1 := by omega
  have hf_zq : ∀ g, 0 ≤ g → g < faces → fm_zq g = fm g := fun g g0 g1 => (hs g g0).2 (by omega)
  refine ⟨?_, by omega, by omega⟩
  refine spl x1 (r := line) (w := way) (n := N) (B := B) (K := wm - 2) f0 f1 x2 x3 B0 B1 (by omega) hl0.symm (by rw [e1]; exact hB.symm) (fun i i0 i1 => w5 i i0 (by omega)) (fun i j i0 i1 i2 => w4 i j i0 i1 (by omega)) (fun z => w6 (by omega)) ?_ ?_ ?_ ?_ ?_ ?_ ?_ ?_
  · rw [hf_zq f f0 f1, h2.1]; omega
  · exact h2.2.1
  · intro j j0 j1
    rw [h2.2.2 j j0 (by omega)]; congr 1; omega
  · rw [(hs faces (by omega)).1 hi.symm, hv]; omega
  · intro j j0 j1
    rw [h6 j j0 (by omega), Int.emod_eq_of_lt (by omega) (by omega)]
  · rw [h6 (N - B) (by omega) (by omega), show B + (N - B) = N by omega, Int.emod_self]
  · intro j j0 j1
    exact h7 j j0 (by omega)
  · intro g g0 g1 gf
    rw [hf_zq g g0 g1]
    exact ⟨(x4 g g0 g1 gf).1.symm, fun j j0 j1 => ((x4 g g0 g1 gf).2 j j0 j1).symm⟩
theorem spl_rng {n m faces wm : Int} {pt ph al bl dE fm face way line : Int → Int} {b f N : Int} (h : SPL n m faces wm pt ph al bl dE fm face way line b f N) {j : Int} (j0 : 0 ≤ j) (j1 : j < N) : 0 ≤ line j ∧ line j < n := by
  obtain ⟨hg, ⟨nx, ρ, L, R, h1, h2, h3, _⟩, f0, f1, hw, _⟩ := h
  obtain ⟨e, k, _⟩ := ((h1.2.2.1 f f0 f1).2.1 j j0 (by omega)).1
  have := JJ_rng hg k
  rw [h3 j j0 j1] at this
  exact ⟨this.1, this.2.1⟩
end
