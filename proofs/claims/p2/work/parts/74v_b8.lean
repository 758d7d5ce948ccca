/-! the line over which nodes are taken off -/
def Lam (u v k : Int) (U : Int → Int) (x y : Int) : Prop := (∃ j, 0 ≤ j ∧ j + 1 < k ∧ ((x = U j ∧ y = U (j + 1)) ∨ (y = U j ∧ x = U (j + 1)))) ∨ (x = u ∧ y = v) ∨ (x = v ∧ y = u)
def ocn (A : pa_T) (nx : Int → Int → Int) (lf : Int → Prop) (ω : Int → Int → Bool) : Prop := ∀ χ, finv A nx χ → (∀ t, ¬ lf t → ∀ x, A x t → fbd χ x t = false) → ∀ x y x' y', A x y → A x' y' → ω x y = true → ω x' y' = true → χ x y = χ x' y'
def cnv0 (u v k : Int) (U : Int → Int) (lf : Int → Prop) (A : pa_T) : Prop := 3 ≤ k ∧ U 0 = u ∧ U (k - 1) = v ∧ (∀ j, 0 ≤ j → j < k → lf (U j)) ∧ (∀ i j, 0 ≤ i → i < j → j < k → U i ≠ U j) ∧ (∀ j, 0 ≤ j → j + 1 < k → A (U j) (U (j + 1))) ∧ A u v
def cnvw (A : pa_T) (nx : Int → Int → Int) (u v k : Int) (U : Int → Int) (lf : Int → Prop) (ω : Int → Int → Bool) : Prop := finv A nx ω ∧ (∀ x y, A x y → fbd ω x y = pb (Lam u v k U x y)) ∧ (∀ x y, A x y → ¬ lf y → ω x y = true ∧ ω y x = true) ∧ (∀ x y, A x y → ¬ lf x → lf y → ∃ j, 0 ≤ j ∧ j < k ∧ y = U j) ∧ ocn A nx lf ω ∧ ∀ x y, A x y → lf x → lf y → ω x y = true → Lam u v k U x y
theorem Lam_sym {u v k : Int} {U : Int → Int} {x y : Int} (h : Lam u v k U x y) : Lam u v k U y x := by
  rcases h with ⟨j, a, b, c⟩ | ⟨a, b⟩ | ⟨a, b⟩
  · exact Or.inl ⟨j, a, b, c.symm⟩
  · exact Or.inr (Or.inr ⟨b, a⟩)
  · exact Or.inr (Or.inl ⟨b, a⟩)
theorem U_inj {k : Int} {U : Int → Int} (hd : ∀ i j, 0 ≤ i → i < j → j < k → U i ≠ U j) {i j : Int} (hi : 0 ≤ i) (hi2 : i < k) (hj : 0 ≤ j) (hj2 : j < k) (e : U i = U j) : i = j := by
  rcases Int.lt_trichotomy i j with q | q | q
  · exact absurd e (hd i j hi q hj2)
  · exact q
  · exact absurd e.symm (hd j i hj q hi2)
/-- the edges of a stretch of the line, as the sum has them -/
theorem seg_par {k : Int} {U : Int → Int} (hd : ∀ i j, 0 ≤ i → i < j → j < k → U i ≠ U j) {p : Int} (hp : 0 ≤ p) {x y : Int} (hxy : x ≠ y) {n : Nat} (hn : p + n < k) : apar (fun i => U (p + i)) x y n = (pb (∃ i : Nat, i < n ∧ x = U (p + i) ∧ y = U (p + i + 1)) ^^ pb (∃ i : Nat, i < n ∧ y = U (p + i) ∧ x = U (p + i + 1))) := by
  rw [apar_th hxy n (fun i j h1 h2 h3 => hd (p + i) (p + j) (by omega) (by omega) (by omega) h3.1)]
  congr 1
  · exact pb_iff ⟨fun ⟨i, a, b, c⟩ => ⟨i, a, b, by rw [c]; congr 1; omega⟩, fun ⟨i, a, b, c⟩ => ⟨i, a, b, by rw [c]; congr 1; omega⟩⟩
  · exact pb_iff ⟨fun ⟨i, a, b, c⟩ => ⟨i, a, b, by rw [c]; congr 1; omega⟩, fun ⟨i, a, b, c⟩ => ⟨i, a, b, by rw [c]; congr 1; omega⟩⟩
theorem no_cross {A : pa_T} {nx : Int → Int → Int} {ρ : Int → Int → Int → Bool} {u v k : Int} {U : Int → Int} {lf : Int → Prop} {ω : Int → Int → Bool} (m : mp A nx) (hl : pls A nx ρ) (h0 : cnv0 u v k U lf A) (hw : cnvw A nx u v k U lf ω)
    {p q r s : Int} (hp : 0 ≤ p) (hpr : p < r) (hrq : r < q) (hq : q < k) (hs0 : 0 ≤ s) (hsk : s < k) (hs : s < p ∨ q < s) (hpq : A (U p) (U q)) (hrs : A (U r) (U s)) (hns1 : s ≠ r - 1) (hns2 : s ≠ r + 1) : False := by
  obtain ⟨k3, hu, hv, hlf, hd, hadj, huv⟩ := h0
  obtain ⟨w0, w1, w2, w3, w4, w5⟩ := hw
  have hi := m.1.2
  have hsy := m.1.1
  obtain ⟨χ1, f1, b1⟩ := arc_sum hl (x := fun i : Nat => U (p + i)) (m := (q - p).toNat) (fun i hi => by
    have := hadj (p + i) (by omega) (by omega)
    rw [show p + ((i + 1 : Nat) : Int) = p + i + 1 by omega]; exact this) (q - p).toNat (Nat.le_refl _)
  obtain ⟨χ2, f2, b2⟩ := hl _ _ hpq
  have f3 := finv_xor f1 f2
  have b3 : ∀ x y, A x y → fbd (fun x y => χ1 x y ^^ χ2 x y) x y = (apar (fun i : Nat => U (p + i)) x y (q - p).toNat ^^ eI (U p) (U q) x y) := by
    intro x y h
    rw [fbd_xor, b1 x y h, b2 x y h]
    have e1 : p + ((q - p).toNat : Int) = q := by omega
    show (((apar (fun i : Nat => U (p + i)) x y (q - p).toNat ^^ ρ (U (p + ((0 : Nat) : Int))) x y) ^^ ρ (U (p + ((q - p).toNat : Int))) x y) ^^ ((ρ (U p) x y ^^ ρ (U q) x y) ^^ eI (U p) (U q) x y)) = _
    rw [e1, show p + ((0 : Nat) : Int) = p by omega]
    generalize apar (fun i : Nat => U (p + i)) x y (q - p).toNat = r1; generalize ρ (U p) x y = r2; generalize ρ (U q) x y = r3; generalize eI (U p) (U q) x y = r4
    revert r1 r2 r3 r4; decide
  generalize hχ : (fun x y => χ1 x y ^^ χ2 x y) = χ at f3 b3
  -- a place of the line that is not on the ring, and every node off the line
  have off : ∀ z, (∀ j, p ≤ j → j ≤ q → z ≠ U j) → ∀ x, A x z → fbd χ x z = false := by
    intro z hz x h
    rw [b3 x z h, seg_par hd hp (hi _ _ h) (n := (q - p).toNat) (by omega), pb_f, pb_f, eI_f]
    · rfl
    · exact fun e => hz q (by omega) (by omega) e.2
    · exact fun e => hz p (by omega) (by omega) e.2
    · rintro ⟨i, a, b, c⟩; exact hz (p + i) (by omega) (by omega) b
    · rintro ⟨i, a, b, c⟩; exact hz (p + i + 1) (by omega) (by omega) c
  have neU : ∀ {i j : Int}, 0 ≤ i → i < k → 0 ≤ j → j < k → i ≠ j → U i ≠ U j := fun a b c d e h => e (U_inj hd a b c d h)
  -- at r both change at the same edges
  have atr : ∀ x, A x (U r) → fbd (fun x y => χ x y ^^ ω x y) x (U r) = false := by
    intro x h
    rw [fbd_xor, b3 x (U r) h, w1 x (U r) h, seg_par hd hp (hi _ _ h) (n := (q - p).toNat) (by omega), eI_f (fun e => neU (by omega) (by omega) (by omega) (by omega) (by omega : q ≠ r) e.2.symm) (fun e => neU (by omega) (by omega) (by omega) (by omega) (by omega : p ≠ r) e.2.symm)]
    have e1 : pb (Lam u v k U x (U r)) = (pb (∃ i : Nat, i < (q - p).toNat ∧ x = U (p + i) ∧ U r = U (p + i + 1)) ^^ pb (∃ i : Nat, i < (q - p).toNat ∧ U r = U (p + i) ∧ x = U (p + i + 1))) := by
      rw [← pb_or]
      · refine pb_iff ⟨fun z => ?_, fun z => ?_⟩
        · rcases z with ⟨j, a, b, (⟨c, d⟩ | ⟨c, d⟩)⟩ | ⟨a, b⟩ | ⟨a, b⟩
          · have := U_inj hd (by omega) (by omega) (by omega) (by omega) d
            exact Or.inl ⟨(r - 1 - p).toNat, by omega, by rw [c]; congr 1; omega, by congr 1; omega⟩
          · have := U_inj hd (by omega) (by omega) (by omega) (by omega) c
            exact Or.inr ⟨(r - p).toNat, by omega, by congr 1; omega, by rw [d]; congr 1; omega⟩
          · exact absurd (b.trans hv.symm) (neU (by omega) (by omega) (by omega) (by omega) (by omega))
          · exact absurd (b.trans hu.symm) (neU (by omega) (by omega) (by omega) (by omega) (by omega))
        · rcases z with ⟨i, a, b, c⟩ | ⟨i, a, b, c⟩
          · exact Or.inl ⟨p + i, by omega, by omega, Or.inl ⟨b, c⟩⟩
          · exact Or.inl ⟨p + i, by omega, by omega, Or.inr ⟨b, c⟩⟩
      · rintro ⟨⟨i, a, b, c⟩, i', a', b', c'⟩
        have h1 := U_inj hd (by omega) (by omega) (by omega) (by omega) c
        have h2 := U_inj hd (by omega) (by omega) (by omega) (by omega) b'
        have h3 := U_inj hd (by omega) (by omega) (by omega) (by omega) (b.symm.trans c')
        omega
    rw [e1]
    generalize pb (∃ i : Nat, i < (q - p).toNat ∧ x = U (p + i) ∧ U r = U (p + i + 1)) = r1; generalize pb (∃ i : Nat, i < (q - p).toNat ∧ U r = U (p + i) ∧ x = U (p + i + 1)) = r2
    revert r1 r2; decide
  have hsr := hsy _ _ hrs
  have conr := around m (finv_xor f3 w0) (v := U r) atr
  have ats := off (U s) (fun j h1 h2 => neU hs0 hsk (by omega) (by omega) (by omega))
  have cons := around m f3 (v := U s) ats
  -- the other chord lies inside
  have nL : ¬ Lam u v k U (U r) (U s) := by
    rintro (⟨j, a, b, (⟨c, d⟩ | ⟨c, d⟩)⟩ | ⟨a, b⟩ | ⟨a, b⟩)
    · have h1 := U_inj hd (by omega) (by omega) (by omega) (by omega) c
      have h2 := U_inj hd (by omega) (by omega) (by omega) (by omega) d
      omega
    · have h1 := U_inj hd (by omega) (by omega) (by omega) (by omega) c
      have h2 := U_inj hd (by omega) (by omega) (by omega) (by omega) d
      omega
    · exact absurd (a.trans hu.symm) (neU (by omega) (by omega) (by omega) (by omega) (by omega))
    · exact absurd (a.trans hv.symm) (neU (by omega) (by omega) (by omega) (by omega) (by omega))
  have o1 : ω (U s) (U r) = false := by
    cases h : ω (U s) (U r) with
    | false => rfl
    | true => exact absurd (Lam_sym (w5 _ _ hsr (hlf s hs0 hsk) (hlf r (by omega) (by omega)) h)) nL
  -- a dart at r that lies outside
  have outr : ∃ x y, A x y ∧ ω x y = true ∧ χ x y = !χ (U s) (U r) := by
    have h1 := hadj (r - 1) (by omega) (by omega)
    rw [show r - 1 + 1 = r by omega] at h1
    have h2 := w1 _ _ h1
    have hL : Lam u v k U (U (r - 1)) (U r) := Or.inl ⟨r - 1, by omega, by omega, Or.inl ⟨rfl, by congr 1; omega⟩⟩
    rw [pb_t hL] at h2
    have h3 := conr (U (r - 1)) (U s) h1 hsr
    have h4 : ((χ (U (r - 1)) (U r) ^^ ω (U (r - 1)) (U r)) ^^ (χ (U r) (U (r - 1)) ^^ ω (U r) (U (r - 1)))) = false := atr _ h1
    unfold fbd at h2
    simp only [o1] at h3
    cases hc : ω (U (r - 1)) (U r) with
    | true =>
      refine ⟨_, _, h1, hc, ?_⟩
      rw [hc] at h3
      revert h3
      generalize χ (U (r - 1)) (U r) = r1; generalize χ (U s) (U r) = r2; revert r1 r2; decide
    | false =>
      rw [hc] at h2 h3 h4
      have h5 : ω (U r) (U (r - 1)) = true := by revert h2; generalize ω (U r) (U (r - 1)) = r1; revert r1; decide
      refine ⟨_, _, hsy _ _ h1, h5, ?_⟩
      rw [h5] at h4
      revert h3 h4
      generalize χ (U (r - 1)) (U r) = r1; generalize χ (U s) (U r) = r2; generalize χ (U r) (U (r - 1)) = r3; revert r1 r2 r3; decide
  -- a dart at s that lies outside
  have ev : ∀ z, A z (U s) → χ z (U s) = χ (U s) (U r) ∧ χ (U s) z = χ (U s) (U r) := by
    intro z hz
    have h1 := cons z (U r) hz hrs
    have h2 := ats z hz
    have h3 := ats (U r) hrs
    unfold fbd at h2 h3
    revert h1 h2 h3
    generalize χ z (U s) = r1; generalize χ (U r) (U s) = r2; generalize χ (U s) z = r3; generalize χ (U s) (U r) = r4
    revert r1 r2 r3 r4; decide
  have outs : ∃ x y, A x y ∧ ω x y = true ∧ χ x y = χ (U s) (U r) := by
    have hz : ∃ z, A z (U s) ∧ Lam u v k U z (U s) := by
      by_cases q1 : s + 1 < k
      · exact ⟨U (s + 1), hsy _ _ (hadj s hs0 q1), Or.inl ⟨s, hs0, q1, Or.inr ⟨rfl, rfl⟩⟩⟩
      · refine ⟨U (s - 1), by have := hadj (s - 1) (by omega) (by omega); rw [show s - 1 + 1 = s by omega] at this; exact this, Or.inl ⟨s - 1, by omega, by omega, Or.inl ⟨rfl, by congr 1; omega⟩⟩⟩
    obtain ⟨z, hz1, hz2⟩ := hz
    have h2 := w1 _ _ hz1
    rw [pb_t hz2] at h2
    unfold fbd at h2
    cases hc : ω z (U s) with
    | true => exact ⟨_, _, hz1, hc, (ev z hz1).1⟩
    | false =>
      rw [hc] at h2
      exact ⟨_, _, hsy _ _ hz1, by revert h2; generalize ω (U s) z = r1; revert r1; decide, (ev z hz1).2⟩
  obtain ⟨x, y, a1, a2, a3⟩ := outr
  obtain ⟨x', y', c1, c2, c3⟩ := outs
  have := w4 χ f3 (fun t ht => off t (fun j h1 h2 e => ht (e ▸ hlf j (by omega) (by omega)))) x y x' y' a1 c1 a2 c2
  rw [a3, c3] at this
  revert this
  generalize χ (U s) (U r) = r1; revert r1; decide
/-- a node of the line without a chord -/
theorem can_ex {A : pa_T} {nx : Int → Int → Int} {ρ : Int → Int → Int → Bool} {u v k : Int} {U : Int → Int} {lf : Int → Prop} {ω : Int → Int → Bool} (m : mp A nx) (hl : pls A nx ρ) (h0 : cnv0 u v k U lf A) (hw : cnvw A nx u v k U lf ω) :
    ∃ p, 1 ≤ p ∧ p + 1 < k ∧ ∀ q, 0 ≤ q → q < k → q ≠ p → q ≠ p - 1 → q ≠ p + 1 → ¬ A (U p) (U q) := by
  apply Classical.byContradiction
  intro hn
  have hch : ∀ p, 1 ≤ p → p + 1 < k → ∃ q, 0 ≤ q ∧ q < k ∧ q ≠ p ∧ q ≠ p - 1 ∧ q ≠ p + 1 ∧ A (U p) (U q) := by
    intro p h1 h2
    apply Classical.byContradiction
    intro hq
    exact hn ⟨p, h1, h2, fun q a b c d e f => hq ⟨q, a, b, c, d, e, f⟩⟩
  have k3 := h0.1
  have key : ∀ d : Nat, ∀ p q, 0 ≤ p → q < k → p + 2 ≤ q → (q - p).toNat ≤ d → (0 < p ∨ q < k - 1) → A (U p) (U q) → False := by
    intro d
    induction d with
    | zero => intro p q a b c d' e f; omega
    | succ d ih =>
      intro p q a b c hd e f
      obtain ⟨s, s1, s2, s3, s4, s5, s6⟩ := hch (p + 1) (by omega) (by omega)
      by_cases hs : s < p ∨ q < s
      · exact no_cross m hl h0 hw a (by omega : p < p + 1) (by omega) b s1 s2 hs f s6 s4 s5
      · exact ih (p + 1) s (by omega) s2 (by omega) (by omega) (by omega) s6
  obtain ⟨s, s1, s2, s3, s4, s5, s6⟩ := hch 1 (by omega) (by omega)
  exact key (s - 1).toNat 1 s (by omega) s2 (by omega) (Nat.le_refl _) (by omega) s6
