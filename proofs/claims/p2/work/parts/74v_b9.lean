def ftri (A : pa_T) (nx : Int → Int → Int) : Prop := ∀ a b, A a b → nx b (nx a b) = a
/-- what comes into the place of x = U p: y 1 .. y M between y 0 = U (p - 1) and y (M + 1) = U (p + 1), as they stand around x -/
def yrow (A : pa_T) (nx : Int → Int → Int) (ω : Int → Int → Bool) (x M : Int) (y : Int → Int) : Prop := (∀ i, 0 ≤ i → i ≤ M → nx (y i) x = y (i + 1) ∧ A (y i) x ∧ ω (y i) x = false) ∨ (∀ i, 0 ≤ i → i ≤ M → nx (y (i + 1)) x = y i ∧ A (y (i + 1)) x ∧ ω (y (i + 1)) x = false)
theorem w_next {A : pa_T} {nx : Int → Int → Int} {u v k : Int} {U : Int → Int} {ω : Int → Int → Bool} (m : mp A nx) (w0 : finv A nx ω) (w1 : ∀ x y, A x y → fbd ω x y = pb (Lam u v k U x y)) {x w : Int} (h : A w x) : ω (nx w x) x = (ω w x ^^ pb (Lam u v k U (nx w x) x)) := by
  have h1 := w1 _ _ (m.1.1 _ _ (m.2.1 w x h))
  rw [← h1]
  have h2 := w0 w x h
  unfold fbd
  rw [h2]
  generalize ω (nx w x) x = r1; generalize ω w x = r2; revert r1 r2; decide
theorem lam_at {u v k p : Int} {U : Int → Int} {lf : Int → Prop} {A : pa_T} (h0 : cnv0 u v k U lf A) (hp : 1 ≤ p) (hpk : p + 1 < k) {z : Int} : Lam u v k U z (U p) ↔ z = U (p - 1) ∨ z = U (p + 1) := by
  obtain ⟨k3, hu, hv, hlf, hd, hadj, huv⟩ := h0
  constructor
  · rintro (⟨j, a, b, (⟨c, d⟩ | ⟨c, d⟩)⟩ | ⟨a, b⟩ | ⟨a, b⟩)
    · have := U_inj hd (by omega) (by omega) (by omega) (by omega) d
      left; rw [c]; congr 1; omega
    · have := U_inj hd (by omega) (by omega) (by omega) (by omega) c
      right; rw [d]; congr 1; omega
    · have := U_inj hd (by omega) (by omega) (by omega) (by omega) (b.trans hv.symm); omega
    · have := U_inj hd (by omega) (by omega) (by omega) (by omega) (b.trans hu.symm); omega
  · rintro (e | e)
    · exact Or.inl ⟨p - 1, by omega, by omega, Or.inl ⟨e, by congr 1; omega⟩⟩
    · exact Or.inl ⟨p, by omega, by omega, Or.inr ⟨rfl, e⟩⟩
/-- all that lie inside around x are in the row -/
theorem y_all {A : pa_T} {nx : Int → Int → Int} {u v k p M : Int} {U y : Int → Int} {lf : Int → Prop} {ω : Int → Int → Bool} (m : mp A nx) (h0 : cnv0 u v k U lf A) (hw : cnvw A nx u v k U lf ω) (hp : 1 ≤ p) (hpk : p + 1 < k) (hM : 0 ≤ M) (y0 : y 0 = U (p - 1)) (y1 : y (M + 1) = U (p + 1)) (hy : yrow A nx ω (U p) M y) :
    ∀ z, A z (U p) → ω z (U p) = false → ∃ i, 0 ≤ i ∧ i ≤ M ∧ ((z = y i ∧ nx z (U p) = y (i + 1)) ∨ (z = y (i + 1) ∧ nx z (U p) = y i)) := by
  have nxt : ∀ w, A w (U p) → ω (nx w (U p)) (U p) = (ω w (U p) ^^ pb (Lam u v k U (nx w (U p)) (U p))) := fun w h => w_next m hw.1 hw.2.1 h
  have hU : U (p - 1) ≠ U (p + 1) := h0.2.2.2.2.1 _ _ (by omega) (by omega) (by omega)
  rcases hy with hy | hy
  · have hr : ω (U (p + 1)) (U p) = true := by
      have h1 := hy M hM (by omega)
      have h2 := nxt _ h1.2.1
      rw [h1.1, y1, h1.2.2, pb_t ((lam_at h0 hp hpk).mpr (Or.inr rfl))] at h2; exact h2
    have cl : ∀ z, A z (U p) → (ω z (U p) = true ∨ ∃ i, 0 ≤ i ∧ i ≤ M ∧ z = y i) → (ω (nx z (U p)) (U p) = true ∨ ∃ i, 0 ≤ i ∧ i ≤ M ∧ nx z (U p) = y i) := by
      intro z hz h
      rcases h with h | ⟨i, a, b, c⟩
      · by_cases q : nx z (U p) = U (p - 1)
        · exact Or.inr ⟨0, by omega, by omega, by rw [q, y0]⟩
        · by_cases q2 : nx z (U p) = U (p + 1)
          · left; rw [q2]; exact hr
          · left
            rw [nxt z hz, h, pb_f (fun e => ((lam_at h0 hp hpk).mp e).elim q q2)]; rfl
      · have h1 := hy i a b
        rw [c, h1.1]
        by_cases q : i = M
        · left; rw [q, y1]; exact hr
        · exact Or.inr ⟨i + 1, by omega, by omega, rfl⟩
    intro z hz hf
    have h1 := hy 0 (by omega) hM
    rcases m.2.2.2 (U p) (fun z => ω z (U p) = true ∨ ∃ i, 0 ≤ i ∧ i ≤ M ∧ z = y i) cl (y 0) z h1.2.1 hz (Or.inr ⟨0, by omega, hM, rfl⟩) with h | ⟨i, a, b, c⟩
    · rw [hf] at h; cases h
    · exact ⟨i, a, b, Or.inl ⟨c, by rw [c]; exact (hy i a b).1⟩⟩
  · have hr : ω (U (p - 1)) (U p) = true := by
      have h1 := hy 0 (by omega) hM
      have h2 := nxt _ h1.2.1
      rw [h1.1, y0, h1.2.2, pb_t ((lam_at h0 hp hpk).mpr (Or.inl rfl))] at h2; exact h2
    have cl : ∀ z, A z (U p) → (ω z (U p) = true ∨ ∃ i, 0 ≤ i ∧ i ≤ M ∧ z = y (i + 1)) → (ω (nx z (U p)) (U p) = true ∨ ∃ i, 0 ≤ i ∧ i ≤ M ∧ nx z (U p) = y (i + 1)) := by
      intro z hz h
      rcases h with h | ⟨i, a, b, c⟩
      · by_cases q : nx z (U p) = U (p + 1)
        · exact Or.inr ⟨M, by omega, by omega, by rw [q, y1]⟩
        · by_cases q2 : nx z (U p) = U (p - 1)
          · left; rw [q2]; exact hr
          · left
            rw [nxt z hz, h, pb_f (fun e => ((lam_at h0 hp hpk).mp e).elim q2 q)]; rfl
      · have h1 := hy i a b
        rw [c, h1.1]
        by_cases q : i = 0
        · left; rw [q, y0]; exact hr
        · exact Or.inr ⟨i - 1, by omega, by omega, by congr 1; omega⟩
    intro z hz hf
    have h1 := hy M hM (by omega)
    rcases m.2.2.2 (U p) (fun z => ω z (U p) = true ∨ ∃ i, 0 ≤ i ∧ i ≤ M ∧ z = y (i + 1)) cl (y (M + 1)) z h1.2.1 hz (Or.inr ⟨M, by omega, by omega, rfl⟩) with h | ⟨i, a, b, c⟩
    · rw [hf] at h; cases h
    · exact ⟨i, a, b, Or.inr ⟨c, by rw [c]; exact (hy i a b).1⟩⟩
def nU (p M : Int) (U y : Int → Int) (j : Int) : Int := if j < p then U j else if j < p + M then y (j - p + 1) else U (j - M + 1)
theorem can_step {A : pa_T} {nx : Int → Int → Int} {u v k p M : Int} {U y : Int → Int} {lf : Int → Prop} {ω : Int → Int → Bool} (m : mp A nx) (ht : ftri A nx) (h0 : cnv0 u v k U lf A) (hw : cnvw A nx u v k U lf ω) (hp : 1 ≤ p) (hpk : p + 1 < k)
    (hch : ∀ q, 0 ≤ q → q < k → q ≠ p → q ≠ p - 1 → q ≠ p + 1 → ¬ A (U p) (U q)) (hM : 0 ≤ M) (hk : 3 ≤ k - 1 + M) (y0 : y 0 = U (p - 1)) (y1 : y (M + 1) = U (p + 1)) (hyd : ∀ i j, 0 ≤ i → i < j → j ≤ M + 1 → y i ≠ y j) (hy : yrow A nx ω (U p) M y) :
    cnv0 u v (k - 1 + M) (nU p M U y) (fun z => lf z ∧ z ≠ U p) A ∧ ∃ ω', cnvw A nx u v (k - 1 + M) (nU p M U y) (fun z => lf z ∧ z ≠ U p) ω' := by
  have hall := y_all m h0 hw hp hpk hM y0 y1 hy
  have h0' := h0
  obtain ⟨k3, hu, hv, hlf, hd, hadj, huv⟩ := h0
  have hw' := hw
  obtain ⟨w0, w1, w2, w3, w4, w5⟩ := hw
  have hsy := m.1.1
  have hi := m.1.2
  have neU : ∀ {i j : Int}, 0 ≤ i → i < k → 0 ≤ j → j < k → i ≠ j → U i ≠ U j := fun a b c d e h => e (U_inj hd a b c d h)
  have lamx : ∀ {z}, Lam u v k U z (U p) ↔ z = U (p - 1) ∨ z = U (p + 1) := lam_at h0' hp hpk
  -- the new line's places
  have e1 : ∀ j, j < p → nU p M U y j = U j := fun j h => by unfold nU; rw [if_pos h]
  have e2 : ∀ j, p - 1 ≤ j → j ≤ p + M → nU p M U y j = y (j - p + 1) := by
    intro j a b
    unfold nU
    by_cases q : j < p
    · rw [if_pos q, show j - p + 1 = 0 by omega, y0]; congr 1; omega
    · rw [if_neg q]
      by_cases q2 : j < p + M
      · rw [if_pos q2]
      · rw [if_neg q2, show j - p + 1 = M + 1 by omega, y1]; congr 1; omega
  have e3 : ∀ j, p + M ≤ j → nU p M U y j = U (j - M + 1) := fun j h => by unfold nU; rw [if_neg (by omega), if_neg (by omega)]
  -- the row's nodes
  have yA : ∀ i, 0 ≤ i → i ≤ M + 1 → A (y i) (U p) := by
    intro i a b
    rcases hy with hy | hy
    · by_cases q : i ≤ M
      · exact (hy i a q).2.1
      · have := m.2.1 _ _ (hy M hM (by omega)).2.1
        rw [(hy M hM (by omega)).1] at this
        rw [show i = M + 1 by omega]; exact hsy _ _ this
    · by_cases q : 1 ≤ i
      · have := (hy (i - 1) (by omega) (by omega)).2.1
        rw [show i - 1 + 1 = i by omega] at this; exact this
      · have := m.2.1 _ _ (hy 0 (by omega) hM).2.1
        rw [(hy 0 (by omega) hM).1] at this
        rw [show i = 0 by omega]; exact hsy _ _ this
  have yw : ∀ i, 1 ≤ i → i ≤ M → ω (y i) (U p) = false := by
    intro i a b
    rcases hy with hy | hy
    · exact (hy i (by omega) b).2.2
    · have := (hy (i - 1) (by omega) (by omega)).2.2
      rw [show i - 1 + 1 = i by omega] at this; exact this
  have yl : ∀ i, 0 ≤ i → i ≤ M + 1 → lf (y i) := by
    intro i a b
    by_cases q : i = 0
    · rw [q, y0]; exact hlf _ (by omega) (by omega)
    · by_cases q2 : i = M + 1
      · rw [q2, y1]; exact hlf _ (by omega) (by omega)
      · apply Classical.byContradiction
        intro hn
        have h1 := (w2 _ _ (hsy _ _ (yA i a b)) hn).2
        rw [yw i (by omega) (by omega)] at h1; cases h1
  have yo : ∀ i j, 1 ≤ i → i ≤ M → 0 ≤ j → j < k → y i ≠ U j := by
    intro i j a b c d e
    have hA := yA i (by omega) (by omega)
    by_cases q1 : j = p
    · exact hi _ _ hA (by rw [e, q1])
    · by_cases q2 : j = p - 1
      · exact hyd 0 i (by omega) (by omega) (by omega) (by rw [y0, e, q2])
      · by_cases q3 : j = p + 1
        · exact hyd i (M + 1) (by omega) (by omega) (by omega) (by rw [y1, e, q3])
        · exact hch j c d q1 q2 q3 (e ▸ hsy _ _ hA)
  have yx : ∀ i, 0 ≤ i → i ≤ M + 1 → y i ≠ U p := fun i a b => hi _ _ (yA i a b)
  -- neighbours in the row are neighbours
  have yadj : ∀ i, 0 ≤ i → i ≤ M → (nx (y i) (U p) = y (i + 1) ∧ ω (y i) (U p) = false) ∨ (nx (y (i + 1)) (U p) = y i ∧ ω (y (i + 1)) (U p) = false) := by
    intro i a b
    rcases hy with hy | hy
    · exact Or.inl ⟨(hy i a b).1, (hy i a b).2.2⟩
    · exact Or.inr ⟨(hy i a b).1, (hy i a b).2.2⟩
  have tri : ∀ {a b x}, A b x → nx b x = a → A a b ∧ nx a b = x ∧ nx x a = b ∧ ω a b = ω b x := by
    intro a b x h1 h2
    have t1 := ht b x h1
    rw [h2] at t1
    have hxa : A x a := h2 ▸ m.2.1 b x h1
    have hab : A a b := t1 ▸ m.2.1 x a hxa
    have t2 := ht x a hxa
    rw [t1] at t2
    have t3 := w0 a b hab
    rw [t2] at t3
    exact ⟨hab, t2, t1, t3.symm⟩
  have yadjA : ∀ i, 0 ≤ i → i ≤ M → A (y i) (y (i + 1)) := by
    intro i a b
    rcases yadj i a b with ⟨h1, _⟩ | ⟨h1, _⟩
    · exact hsy _ _ (tri (yA i a (by omega)) h1).1
    · exact (tri (yA (i + 1) (by omega) (by omega)) h1).1
  have uU : u ≠ U p := by rw [← hu]; exact neU (by omega) (by omega) (by omega) (by omega) (by omega)
  have vU : v ≠ U p := by rw [← hv]; exact neU (by omega) (by omega) (by omega) (by omega) (by omega)
  -- where each place of the new line comes from
  have src : ∀ j, 0 ≤ j → j < k - 1 + M → (∃ i, 0 ≤ i ∧ i < k ∧ i ≠ p ∧ nU p M U y j = U i) ∨ ∃ i, 1 ≤ i ∧ i ≤ M ∧ nU p M U y j = y i := by
    intro j a b
    by_cases q : j < p
    · exact Or.inl ⟨j, a, by omega, by omega, e1 j q⟩
    · by_cases q2 : j < p + M
      · exact Or.inr ⟨j - p + 1, by omega, by omega, e2 j (by omega) (by omega)⟩
      · exact Or.inl ⟨j - M + 1, by omega, by omega, by omega, e3 j (by omega)⟩
  have to1 : ∀ i, 0 ≤ i → i < k → i ≠ p → ∃ j, 0 ≤ j ∧ j < k - 1 + M ∧ U i = nU p M U y j := by
    intro i a b c
    by_cases q : i < p
    · exact ⟨i, a, by omega, (e1 i q).symm⟩
    · exact ⟨i + M - 1, by omega, by omega, by rw [e3 _ (by omega)]; congr 1; omega⟩
  have to2 : ∀ i, 0 ≤ i → i ≤ M + 1 → ∃ j, 0 ≤ j ∧ j < k - 1 + M ∧ y i = nU p M U y j := by
    intro i a b
    exact ⟨i + p - 1, by omega, by omega, by rw [e2 _ (by omega) (by omega)]; congr 1; omega⟩
  have nd : ∀ i j, 0 ≤ i → i < j → j < k - 1 + M → nU p M U y i ≠ nU p M U y j := by
    intro i j a b c e
    by_cases q1 : i < p
    · rw [e1 i q1] at e
      by_cases q2 : j < p
      · rw [e1 j q2] at e; exact hd i j a b (by omega) e
      · by_cases q3 : j < p + M
        · rw [e2 j (by omega) (by omega)] at e; exact yo (j - p + 1) i (by omega) (by omega) a (by omega) e.symm
        · rw [e3 j (by omega)] at e; exact neU a (by omega) (by omega) (by omega) (by omega) e
    · by_cases q2 : i < p + M
      · by_cases q3 : j ≤ p + M
        · rw [e2 i (by omega) (by omega), e2 j (by omega) q3] at e; exact hyd _ _ (by omega) (by omega) (by omega) e
        · rw [e2 i (by omega) (by omega), e3 j (by omega)] at e; exact yo (i - p + 1) (j - M + 1) (by omega) (by omega) (by omega) (by omega) e
      · rw [e3 i (by omega), e3 j (by omega)] at e; exact neU (by omega) (by omega) (by omega) (by omega) (by omega) e
  have nlf : ∀ j, 0 ≤ j → j < k - 1 + M → lf (nU p M U y j) ∧ nU p M U y j ≠ U p := by
    intro j a b
    rcases src j a b with ⟨i, i1, i2, i3, i4⟩ | ⟨i, i1, i2, i3⟩
    · rw [i4]; exact ⟨hlf i i1 i2, neU i1 i2 (by omega) (by omega) i3⟩
    · rw [i3]; exact ⟨yl i (by omega) (by omega), yx i (by omega) (by omega)⟩
  -- the edges of the new line
  have LL : ∀ a b, a ≠ U p → b ≠ U p → (Lam u v (k - 1 + M) (nU p M U y) a b ↔ Lam u v k U a b ∨ ∃ i, 0 ≤ i ∧ i ≤ M ∧ ((a = y i ∧ b = y (i + 1)) ∨ (b = y i ∧ a = y (i + 1)))) := by
    intro a b na nb
    constructor
    · rintro (⟨j, j1, j2, j3⟩ | h)
      · by_cases q1 : j + 1 < p
        · rw [e1 j (by omega), e1 (j + 1) q1] at j3
          exact Or.inl (Or.inl ⟨j, j1, by omega, j3⟩)
        · by_cases q2 : j < p + M
          · rw [e2 j (by omega) (by omega), e2 (j + 1) (by omega) (by omega), show j + 1 - p + 1 = j - p + 1 + 1 by omega] at j3
            exact Or.inr ⟨j - p + 1, by omega, by omega, j3⟩
          · rw [e3 j (by omega), e3 (j + 1) (by omega), show j + 1 - M + 1 = j - M + 1 + 1 by omega] at j3
            exact Or.inl (Or.inl ⟨j - M + 1, by omega, by omega, j3⟩)
      · exact Or.inl (Or.inr h)
    · rintro ((⟨j, j1, j2, j3⟩ | h) | ⟨i, i1, i2, i3⟩)
      · left
        have np : j ≠ p ∧ j + 1 ≠ p := by
          constructor
          · intro e
            rcases j3 with ⟨z1, z2⟩ | ⟨z1, z2⟩
            · exact na (by rw [z1, e])
            · exact nb (by rw [z1, e])
          · intro e
            rcases j3 with ⟨z1, z2⟩ | ⟨z1, z2⟩
            · exact nb (by rw [z2, e])
            · exact na (by rw [z2, e])
        by_cases q : j + 1 < p
        · exact ⟨j, j1, by omega, by rw [e1 j (by omega), e1 (j + 1) q]; exact j3⟩
        · refine ⟨j + M - 1, by omega, by omega, ?_⟩
          rw [e3 _ (by omega), e3 _ (by omega), show j + M - 1 - M + 1 = j by omega, show j + M - 1 + 1 - M + 1 = j + 1 by omega]; exact j3
      · exact Or.inr h
      · refine Or.inl ⟨i + p - 1, by omega, by omega, ?_⟩
        rw [e2 _ (by omega) (by omega), e2 _ (by omega) (by omega), show i + p - 1 - p + 1 = i by omega, show i + p - 1 + 1 - p + 1 = i + 1 by omega]; exact i3
  have Lx : ∀ z, ¬ Lam u v (k - 1 + M) (nU p M U y) z (U p) := by
    rintro z (⟨j, j1, j2, (⟨z1, z2⟩ | ⟨z1, z2⟩)⟩ | ⟨z1, z2⟩ | ⟨z1, z2⟩)
    · exact (nlf (j + 1) (by omega) j2).2 z2.symm
    · exact (nlf j j1 (by omega)).2 z1.symm
    · exact vU z2.symm
    · exact uU z2.symm
  refine ⟨⟨hk, by rw [e1 0 (by omega)]; exact hu, by rw [e3 _ (by omega)]; rw [← hv]; congr 1; omega, nlf, nd, fun j a b => ?_, huv⟩, ?_⟩
  · by_cases q1 : j + 1 < p
    · rw [e1 j (by omega), e1 (j + 1) q1]; exact hadj j a (by omega)
    · by_cases q2 : j < p + M
      · rw [e2 j (by omega) (by omega), e2 (j + 1) (by omega) (by omega), show j + 1 - p + 1 = j - p + 1 + 1 by omega]
        exact yadjA _ (by omega) (by omega)
      · rw [e3 j (by omega), e3 (j + 1) (by omega), show j + 1 - M + 1 = j - M + 1 + 1 by omega]
        exact hadj _ (by omega) (by omega)
  · -- two neighbours and x in a face that lies inside
    have np : ∀ a b, A a b → a ≠ U p → b ≠ U p → nx a b = U p → ω a b = false → ω b a = false ∧ nx b a ≠ U p ∧ ∃ i, 0 ≤ i ∧ i ≤ M ∧ ((a = y i ∧ b = y (i + 1)) ∨ (b = y i ∧ a = y (i + 1))) := by
      intro a b hab na nb hc hf
      have hbx : A b (U p) := hc ▸ m.2.1 a b hab
      have t1 := ht a b hab
      rw [hc] at t1
      have hwb : ω b (U p) = false := by rw [← hf]; have := w0 a b hab; rw [hc] at this; exact this
      obtain ⟨i, i1, i2, i3⟩ := hall b hbx hwb
      rw [t1] at i3
      have i4 : (a = y i ∧ b = y (i + 1)) ∨ (b = y i ∧ a = y (i + 1)) := i3.elim (fun z => Or.inr z) (fun z => Or.inl ⟨z.2, z.1⟩)
      refine ⟨?_, fun hx => ?_, i, i1, i2, i4⟩
      · cases hq : ω b a with
        | false => rfl
        | true =>
          exfalso
          have hL : Lam u v k U a b := by
            have h1 := w1 a b hab
            unfold fbd at h1
            rw [hf, hq] at h1
            exact pb_i h1.symm
          -- both on the old line
          have on : ∀ i', 1 ≤ i' → i' ≤ M → ¬ (a = y i' ∨ b = y i') := by
            intro i' q1 q2 q3
            have ol : ∀ z, (z = a ∨ z = b) → ∃ j, 0 ≤ j ∧ j < k ∧ z = U j := by
              intro z hz
              rcases hL with ⟨j, j1, j2, (⟨z1, z2⟩ | ⟨z1, z2⟩)⟩ | ⟨z1, z2⟩ | ⟨z1, z2⟩ <;> rcases hz with hz | hz
              · exact ⟨j, j1, by omega, hz.trans z1⟩
              · exact ⟨j + 1, by omega, by omega, hz.trans z2⟩
              · exact ⟨j + 1, by omega, by omega, hz.trans z2⟩
              · exact ⟨j, j1, by omega, hz.trans z1⟩
              · exact ⟨0, by omega, by omega, by rw [hz, z1, hu]⟩
              · exact ⟨k - 1, by omega, by omega, by rw [hz, z2, hv]⟩
              · exact ⟨k - 1, by omega, by omega, by rw [hz, z1, hv]⟩
              · exact ⟨0, by omega, by omega, by rw [hz, z2, hu]⟩
            rcases q3 with q3 | q3
            · obtain ⟨j, j1, j2, j3⟩ := ol a (Or.inl rfl); exact yo i' j q1 q2 j1 j2 (q3.symm.trans j3)
            · obtain ⟨j, j1, j2, j3⟩ := ol b (Or.inr rfl); exact yo i' j q1 q2 j1 j2 (q3.symm.trans j3)
          have iz : i = 0 := Classical.byContradiction (fun q => on i (by omega) i2 (i4.elim (fun z => Or.inl z.1) (fun z => Or.inr z.1)))
          have iM : M = 0 := Classical.byContradiction (fun q => on (i + 1) (by omega) (by omega) (i4.elim (fun z => Or.inr z.2) (fun z => Or.inl z.2)))
          have hL2 : Lam u v k U (U (p - 1)) (U (p + 1)) := by
            rw [← y0, ← y1, show M + 1 = i + 1 by omega, show y 0 = y i by rw [iz]]
            rcases i4 with ⟨z1, z2⟩ | ⟨z1, z2⟩
            · rw [← z1, ← z2]; exact hL
            · rw [← z1, ← z2]; exact Lam_sym hL
          rcases hL2 with ⟨j, j1, j2, (⟨z1, z2⟩ | ⟨z1, z2⟩)⟩ | ⟨z1, z2⟩ | ⟨z1, z2⟩
          · have g1 := U_inj hd (by omega) (by omega) (by omega) (by omega) z1
            have g2 := U_inj hd (by omega) (by omega) (by omega) (by omega) z2
            omega
          · have g1 := U_inj hd (by omega) (by omega) (by omega) (by omega) z1
            have g2 := U_inj hd (by omega) (by omega) (by omega) (by omega) z2
            omega
          · have g1 := U_inj hd (by omega) (by omega) (by omega) (by omega) (z1.trans hu.symm)
            have g2 := U_inj hd (by omega) (by omega) (by omega) (by omega) (z2.trans hv.symm)
            omega
          · have g1 := U_inj hd (by omega) (by omega) (by omega) (by omega) (z1.trans hv.symm)
            omega
      · -- x would have two neighbours, and no edge of the line
        have t2 := ht b a (hsy _ _ hab)
        rw [hx] at t2
        have hax : A a (U p) := hx ▸ m.2.1 b a (hsy _ _ hab)
        have two : ∀ z, A z (U p) → z = a ∨ z = b := fun z hz => m.2.2.2 (U p) (fun z => z = a ∨ z = b) (fun z _ hL => by
          rcases hL with e | e
          · rw [e, t2]; exact Or.inr rfl
          · rw [e, t1]; exact Or.inl rfl) a z hax hz (Or.inl rfl)
        have n1 := w_next m w0 w1 hbx
        have n2 := w_next m w0 w1 hax
        rw [t1] at n1
        rw [t2] at n2
        have hl := hadj (p - 1) (by omega) (by omega)
        rw [show p - 1 + 1 = p by omega] at hl
        have hr := hsy _ _ (hadj p (by omega) hpk)
        have hlr := neU (by omega : 0 ≤ p - 1) (by omega) (by omega : 0 ≤ p + 1) hpk (by omega)
        have hLa : Lam u v k U a (U p) ∧ Lam u v k U b (U p) := by
          rw [lamx, lamx]
          rcases two _ hl with z1 | z1 <;> rcases two _ hr with z2 | z2
          · exact absurd (z1.trans z2.symm) hlr
          · exact ⟨Or.inl z1.symm, Or.inr z2.symm⟩
          · exact ⟨Or.inr z2.symm, Or.inl z1.symm⟩
          · exact absurd (z1.trans z2.symm) hlr
        rw [pb_t hLa.1, hwb] at n1
        -- the other side of a, b lies outside, so x's other corner does
        have h1 := w1 a b hab
        have h2 := w0 b a (hsy _ _ hab)
        rw [hx, n1] at h2
        unfold fbd at h1
        rw [hf, ← h2] at h1
        have hL := pb_i h1.symm
        have hM0 : ¬ (∃ i', 1 ≤ i' ∧ i' ≤ M) := by
          rintro ⟨i', q1, q2⟩
          rcases two _ (yA i' (by omega) (by omega)) with z | z
          · rcases lamx.mp hLa.1 with z2 | z2
            · exact yo i' (p - 1) q1 q2 (by omega) (by omega) (z.trans z2)
            · exact yo i' (p + 1) q1 q2 (by omega) (by omega) (z.trans z2)
          · rcases lamx.mp hLa.2 with z2 | z2
            · exact yo i' (p - 1) q1 q2 (by omega) (by omega) (z.trans z2)
            · exact yo i' (p + 1) q1 q2 (by omega) (by omega) (z.trans z2)
        have iM : M = 0 := Classical.byContradiction (fun q => hM0 ⟨1, by omega, by omega⟩)
        have hL2 : Lam u v k U (U (p - 1)) (U (p + 1)) := by
          rcases two _ hl with z1 | z1 <;> rcases two _ hr with z2 | z2
          · exact absurd (z1.trans z2.symm) hlr
          · rw [z1, z2]; exact hL
          · rw [z1, z2]; exact Lam_sym hL
          · exact absurd (z1.trans z2.symm) hlr
        rcases hL2 with ⟨j, j1, j2, (⟨z1, z2⟩ | ⟨z1, z2⟩)⟩ | ⟨z1, z2⟩ | ⟨z1, z2⟩
        · have g1 := U_inj hd (by omega) (by omega) (by omega) (by omega) z1
          have g2 := U_inj hd (by omega) (by omega) (by omega) (by omega) z2
          omega
        · have g1 := U_inj hd (by omega) (by omega) (by omega) (by omega) z1
          have g2 := U_inj hd (by omega) (by omega) (by omega) (by omega) z2
          omega
        · have g1 := U_inj hd (by omega) (by omega) (by omega) (by omega) (z1.trans hu.symm)
          have g2 := U_inj hd (by omega) (by omega) (by omega) (by omega) (z2.trans hv.symm)
          omega
        · have g1 := U_inj hd (by omega) (by omega) (by omega) (by omega) (z1.trans hv.symm)
          omega
    have npI : ∀ a b, A a b → (∃ i, 0 ≤ i ∧ i ≤ M ∧ ((a = y i ∧ b = y (i + 1)) ∨ (b = y i ∧ a = y (i + 1)))) → (nx a b = U p ∧ ω a b = false) ∨ (nx b a = U p ∧ ω b a = false) := by
      rintro a b hab ⟨i, i1, i2, i3⟩
      have hyi := yA i i1 (by omega)
      have hyi1 := yA (i + 1) (by omega) (by omega)
      rcases yadj i i1 i2 with ⟨h1, h2⟩ | ⟨h1, h2⟩
      · obtain ⟨_, t2, _, t4⟩ := tri hyi h1
        rcases i3 with ⟨z1, z2⟩ | ⟨z1, z2⟩
        · right; rw [z1, z2]; exact ⟨t2, t4.trans h2⟩
        · left; rw [z1, z2]; exact ⟨t2, t4.trans h2⟩
      · obtain ⟨_, t2, _, t4⟩ := tri hyi1 h1
        rcases i3 with ⟨z1, z2⟩ | ⟨z1, z2⟩
        · left; rw [z1, z2]; exact ⟨t2, t4.trans h2⟩
        · right; rw [z1, z2]; exact ⟨t2, t4.trans h2⟩
    let ω' : Int → Int → Bool := fun a b => ω a b || pb (a = U p ∨ b = U p ∨ nx a b = U p)
    have wo : ∀ a b, ω' a b = true → ω a b = true ∨ a = U p ∨ b = U p ∨ nx a b = U p := by
      intro a b h
      have h' : (ω a b || pb (a = U p ∨ b = U p ∨ nx a b = U p)) = true := h
      rcases (Bool.or_eq_true_iff.mp h') with q | q
      · exact Or.inl q
      · exact Or.inr (pb_i q)
    have wi : ∀ a b, (ω a b = true ∨ a = U p ∨ b = U p ∨ nx a b = U p) → ω' a b = true := by
      intro a b h
      show (ω a b || pb (a = U p ∨ b = U p ∨ nx a b = U p)) = true
      rcases h with h | h
      · rw [h]; rfl
      · rw [pb_t h]; exact Bool.or_true _
    have wf : ∀ a b, a ≠ U p → b ≠ U p → nx a b ≠ U p → ω' a b = ω a b := by
      intro a b q1 q2 q3
      show (ω a b || pb (a = U p ∨ b = U p ∨ nx a b = U p)) = ω a b
      rw [pb_f (fun z => z.elim q1 (fun z => z.elim q2 q3))]; exact Bool.or_false _
    refine ⟨ω', ?_, ?_, ?_, ?_, ?_, ?_⟩
    · intro a b hab
      show (ω b (nx a b) || pb (b = U p ∨ nx a b = U p ∨ nx b (nx a b) = U p)) = (ω a b || pb (a = U p ∨ b = U p ∨ nx a b = U p))
      rw [w0 a b hab, ht a b hab, pb_iff (show (b = U p ∨ nx a b = U p ∨ a = U p) ↔ (a = U p ∨ b = U p ∨ nx a b = U p) from ⟨fun z => z.elim (fun z => Or.inr (Or.inl z)) (fun z => z.elim (fun z => Or.inr (Or.inr z)) Or.inl), fun z => z.elim (fun z => Or.inr (Or.inr z)) (fun z => z.elim Or.inl (fun z => Or.inr (Or.inl z)))⟩)]
    · intro a b hab
      by_cases qa : a = U p
      · unfold fbd
        rw [wi a b (Or.inr (Or.inl qa)), wi b a (Or.inr (Or.inr (Or.inl qa))), pb_f (fun z => Lx b (qa ▸ Lam_sym z))]; rfl
      · by_cases qb : b = U p
        · unfold fbd
          rw [wi a b (Or.inr (Or.inr (Or.inl qb))), wi b a (Or.inr (Or.inl qb)), pb_f (fun z => Lx a (qb ▸ z))]; rfl
        · by_cases q1 : nx a b = U p ∧ ω a b = false
          · obtain ⟨g1, g2, g3⟩ := np a b hab qa qb q1.1 q1.2
            rw [pb_t ((LL a b qa qb).mpr (Or.inr g3))]
            unfold fbd
            rw [wi a b (Or.inr (Or.inr (Or.inr q1.1))), wf b a qb qa g2, g1]; rfl
          · by_cases q2 : nx b a = U p ∧ ω b a = false
            · obtain ⟨g1, g2, g3⟩ := np b a (hsy _ _ hab) qb qa q2.1 q2.2
              rw [pb_t ((LL a b qa qb).mpr (Or.inr (by obtain ⟨i, i1, i2, i3⟩ := g3; exact ⟨i, i1, i2, i3.symm⟩)))]
              unfold fbd
              rw [wi b a (Or.inr (Or.inr (Or.inr q2.1))), wf a b qa qb g2, g1]; rfl
            · have s1 : ω' a b = ω a b := by
                by_cases z : nx a b = U p
                · have : ω a b = true := by
                    cases hq : ω a b with
                    | true => rfl
                    | false => exact absurd ⟨z, hq⟩ q1
                  rw [this]; exact wi a b (Or.inl this)
                · exact wf a b qa qb z
              have s2 : ω' b a = ω b a := by
                by_cases z : nx b a = U p
                · have : ω b a = true := by
                    cases hq : ω b a with
                    | true => rfl
                    | false => exact absurd ⟨z, hq⟩ q2
                  rw [this]; exact wi b a (Or.inl this)
                · exact wf b a qb qa z
              have h1 := w1 a b hab
              unfold fbd at h1 ⊢
              rw [s1, s2, h1]
              refine pb_iff ⟨fun z => (LL a b qa qb).mpr (Or.inl z), fun z => ?_⟩
              rcases (LL a b qa qb).mp z with z | z
              · exact z
              · rcases npI a b hab z with z | z
                · exact absurd z q1
                · exact absurd z q2
    · intro a b hab hb
      have hb' : ¬ lf b ∨ b = U p := by
        by_cases q : lf b
        · exact Or.inr (Classical.byContradiction (fun z => hb ⟨q, z⟩))
        · exact Or.inl q
      rcases hb' with q | q
      · exact ⟨wi a b (Or.inl (w2 a b hab q).1), wi b a (Or.inl (w2 a b hab q).2)⟩
      · exact ⟨wi a b (Or.inr (Or.inr (Or.inl q))), wi b a (Or.inr (Or.inl q))⟩
    · intro a b hab ha hb
      by_cases q : lf a
      · have qa : a = U p := Classical.byContradiction (fun z => ha ⟨q, z⟩)
        have hbx : A b (U p) := qa ▸ hsy _ _ hab
        cases hq : ω b (U p) with
        | false =>
          obtain ⟨i, i1, i2, i3⟩ := hall b hbx hq
          rcases i3 with ⟨z, _⟩ | ⟨z, _⟩
          · rw [z]; exact to2 i i1 (by omega)
          · rw [z]; exact to2 (i + 1) (by omega) (by omega)
        | true =>
          rcases lamx.mp (w5 b (U p) hbx hb.1 (hlf p (by omega) (by omega)) hq) with z | z
          · rw [z]; exact to1 _ (by omega) (by omega) (by omega)
          · rw [z]; exact to1 _ (by omega) (by omega) (by omega)
      · obtain ⟨j, j1, j2, j3⟩ := w3 a b hab q hb.1
        rw [j3]
        exact to1 j j1 j2 (fun e => hb.2 (by rw [j3, e]))
    · intro χ hf hat a b a' b' hab hab' h h'
      have hatx := hat (U p) (fun z => z.2 rfl)
      have conx := around m hf (v := U p) hatx
      have cx : ∀ z, A z (U p) → χ z (U p) = χ (U (p - 1)) (U p) ∧ χ (U p) z = χ (U (p - 1)) (U p) := by
        have hl := hadj (p - 1) (by omega) (by omega)
        rw [show p - 1 + 1 = p by omega] at hl
        intro z hz
        have g1 := conx z _ hz hl
        have g2 := hatx z hz
        unfold fbd at g2
        revert g1 g2
        generalize χ z (U p) = r1; generalize χ (U p) z = r2; generalize χ (U (p - 1)) (U p) = r3
        revert r1 r2 r3; decide
      have old := w4 χ hf (fun t ht' => hat t (fun z => ht' z.1))
      -- a dart at x that lay outside
      have hd0 : ∃ c d, A c d ∧ ω c d = true ∧ χ c d = χ (U (p - 1)) (U p) := by
        have hl := hadj (p - 1) (by omega) (by omega)
        rw [show p - 1 + 1 = p by omega] at hl
        have g1 := w1 _ _ hl
        rw [pb_t (lamx.mpr (Or.inl rfl))] at g1
        unfold fbd at g1
        cases hq : ω (U (p - 1)) (U p) with
        | true => exact ⟨_, _, hl, hq, rfl⟩
        | false =>
          rw [hq] at g1
          exact ⟨_, _, hsy _ _ hl, by revert g1; generalize ω (U p) (U (p - 1)) = r1; revert r1; decide, (cx _ hl).2⟩
      obtain ⟨c, d, d1, d2, d3⟩ := hd0
      have val : ∀ a b, A a b → ω' a b = true → χ a b = χ (U (p - 1)) (U p) := by
        intro a b hab h
        rcases wo a b h with q | q | q | q
        · rw [← d3]; exact old a b c d hab d1 q d2
        · rw [q]; exact (cx b (q ▸ hsy _ _ hab)).2
        · rw [q]; exact (cx a (q ▸ hab)).1
        · have g1 := hf a b hab
          rw [q] at g1
          rw [← g1]; exact (cx b (q ▸ m.2.1 a b hab)).1
      rw [val a b hab h, val a' b' hab' h']
    · intro a b hab ha hb h
      refine (LL a b ha.2 hb.2).mpr ?_
      cases hq : ω a b with
      | true => exact Or.inl (w5 a b hab ha.1 hb.1 hq)
      | false =>
        rcases wo a b h with q | q | q | q
        · rw [hq] at q; cases q
        · exact absurd q ha.2
        · exact absurd q hb.2
        · exact Or.inr (np a b hab ha.2 hb.2 q hq).2.2
