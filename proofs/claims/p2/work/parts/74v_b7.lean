def xsum (f : Nat → Bool) : Nat → Bool
  | 0 => false
  | k + 1 => xsum f k ^^ f k
theorem xsum_eq {f g : Nat → Bool} : ∀ k, (∀ i, i < k → f i = g i) → xsum f k = xsum g k
  | 0, _ => rfl
  | k + 1, h => by
    show (xsum f k ^^ f k) = (xsum g k ^^ g k)
    rw [xsum_eq k (fun i hi => h i (by omega)), h k (by omega)]
theorem xsum_xor (f g : Nat → Bool) : ∀ k, xsum (fun i => f i ^^ g i) k = (xsum f k ^^ xsum g k)
  | 0 => rfl
  | k + 1 => by
    show (xsum (fun i => f i ^^ g i) k ^^ (f k ^^ g k)) = ((xsum f k ^^ f k) ^^ (xsum g k ^^ g k))
    rw [xsum_xor f g k]
    generalize xsum f k = r1; generalize xsum g k = r2; generalize f k = r3; generalize g k = r4
    revert r1 r2 r3 r4; decide
theorem xsum_no {f : Nat → Bool} : ∀ k, (∀ i, i < k → f i = false) → xsum f k = false
  | 0, _ => rfl
  | k + 1, h => by
    show (xsum f k ^^ f k) = false
    rw [xsum_no k (fun i hi => h i (by omega)), h k (by omega)]; rfl
theorem xsum_one {f : Nat → Bool} {j : Nat} : ∀ k, j < k → (∀ i, i < k → i ≠ j → f i = false) → xsum f k = f j
  | 0, h, _ => by omega
  | k + 1, h, hf => by
    show (xsum f k ^^ f k) = f j
    by_cases q : j = k
    · subst q
      rw [xsum_no j (fun i hi => hf i (by omega) (by omega))]
      generalize f j = r; revert r; decide
    · rw [xsum_one k (by omega) (fun i hi hne => hf i (by omega) hne), hf k (by omega) (fun e => q e.symm)]
      generalize f j = r; revert r; decide
theorem xsum_pick {n : Nat} {r : Int → Bool} {t : Int} (h0 : 0 ≤ t) (h1 : t < n) : xsum (fun v => decide (t = ((v : Nat) : Int)) && r ((v : Nat) : Int)) n = r t := by
  rw [xsum_one (j := t.toNat) n (by omega) (fun i _ hne => by rw [decide_eq_false (by omega)]; rfl)]
  have e : ((t.toNat : Nat) : Int) = t := by omega
  show (decide (t = ((t.toNat : Nat) : Int)) && r ((t.toNat : Nat) : Int)) = r t
  rw [e, decide_eq_true rfl]; rfl
theorem xsum_ex {n : Nat} {t h : Nat → Int} {r : Int → Bool} {B : Nat → Bool} : ∀ k, (∀ e, e < k → 0 ≤ t e ∧ t e < n ∧ 0 ≤ h e ∧ h e < n) → xsum (fun e => B e && (r (t e) ^^ r (h e))) k = xsum (fun v => xsum (fun e => B e && (decide (t e = ((v : Nat) : Int)) ^^ decide (h e = ((v : Nat) : Int)))) k && r ((v : Nat) : Int)) n
  | 0, _ => (xsum_no (f := fun v => xsum (fun e => B e && (decide (t e = ((v : Nat) : Int)) ^^ decide (h e = ((v : Nat) : Int)))) 0 && r ((v : Nat) : Int)) n (fun i _ => rfl)).symm
  | k + 1, hb => by
    obtain ⟨h1, h2, h3, h4⟩ := hb k (by omega)
    show (xsum (fun e => B e && (r (t e) ^^ r (h e))) k ^^ (B k && (r (t k) ^^ r (h k)))) = _
    rw [xsum_ex k (fun e he => hb e (by omega))]
    have e1 : (B k && (r (t k) ^^ r (h k))) = xsum (fun v => B k && ((decide (t k = ((v : Nat) : Int)) && r ((v : Nat) : Int)) ^^ (decide (h k = ((v : Nat) : Int)) && r ((v : Nat) : Int)))) n := by
      cases B k with
      | false => exact (xsum_no n (fun i _ => rfl)).symm
      | true =>
        show (r (t k) ^^ r (h k)) = xsum (fun v => (decide (t k = ((v : Nat) : Int)) && r ((v : Nat) : Int)) ^^ (decide (h k = ((v : Nat) : Int)) && r ((v : Nat) : Int))) n
        rw [xsum_xor, xsum_pick h1 h2, xsum_pick h3 h4]
    rw [e1, ← xsum_xor]
    refine xsum_eq n (fun v _ => ?_)
    show _ = ((xsum (fun e => B e && (decide (t e = ((v : Nat) : Int)) ^^ decide (h e = ((v : Nat) : Int)))) k ^^ (B k && (decide (t k = ((v : Nat) : Int)) ^^ decide (h k = ((v : Nat) : Int))))) && r ((v : Nat) : Int))
    generalize xsum (fun e => B e && (decide (t e = ((v : Nat) : Int)) ^^ decide (h e = ((v : Nat) : Int)))) k = r1; generalize B k = r2; generalize decide (t k = ((v : Nat) : Int)) = r3; generalize decide (h k = ((v : Nat) : Int)) = r4; generalize r ((v : Nat) : Int) = r5
    revert r1 r2 r3 r4 r5; decide
/-- edges are no more than faces and nodes together -/
theorem euler {n m R : Nat} {t h : Nat → Int} {A : pa_T} {nx : Int → Int → Int} {ρ : Int → Int → Int → Bool} (hl : pls A nx ρ) (hs : ∀ u v, A u v → A v u)
    (hA : ∀ e, e < m → A (t e) (h e)) (hA2 : ∀ u v, A u v → ∃ e, e < m ∧ ((u = t e ∧ v = h e) ∨ (u = h e ∧ v = t e))) (hsi : ∀ e f, e < m → f < m → eI (t e) (h e) (t f) (h f) = true → e = f)
    (hb : ∀ e, e < m → 0 ≤ t e ∧ t e < n ∧ 0 ≤ h e ∧ h e < n) (φ : Int → Int → Nat) (hφ : ∀ u v, A u v → φ u v < R)
    (hc : ∀ χ, finv A nx χ → ∀ x y x' y', A x y → A x' y' → φ x y = φ x' y' → χ x y = χ x' y') : m ≤ R + n := by
  have hX : ∀ e, ∃ χ, e < m → finv A nx χ ∧ ∀ x y, A x y → fbd χ x y = ((ρ (t e) x y ^^ ρ (h e) x y) ^^ eI (t e) (h e) x y) := by
    intro e
    by_cases q : e < m
    · obtain ⟨χ, h1, h2⟩ := hl _ _ (hA e q); exact ⟨χ, fun _ => ⟨h1, h2⟩⟩
    · exact ⟨fun _ _ => false, fun z => absurd z q⟩
  have hXc : ∃ X : Nat → Int → Int → Bool, ∀ e, e < m → finv A nx (X e) ∧ ∀ x y, A x y → fbd (X e) x y = ((ρ (t e) x y ^^ ρ (h e) x y) ^^ eI (t e) (h e) x y) := ⟨fun e => Classical.choose (hX e), fun e => Classical.choose_spec (hX e)⟩
  obtain ⟨X, hXs⟩ := hXc
  let W : (Nat → Bool) → Int → Int → Bool := fun B x y => xsum (fun e => B e && X e x y) m
  have hWf : ∀ B, finv A nx (W B) := fun B u v a => xsum_eq m (fun e he => by rw [(hXs e he).1 u v a])
  let Dg : (Nat → Bool) → Nat → Bool := fun B v => xsum (fun e => B e && (decide (t e = ((v : Nat) : Int)) ^^ decide (h e = ((v : Nat) : Int)))) m
  refine php2 (fun B i => bif decide (i < R) then pb (∃ x y, A x y ∧ φ x y = i ∧ W B x y = true) else Dg B (i - R)) (fun B B' hF e0 he0 => ?_)
  have val : ∀ B x y, A x y → pb (∃ x' y', A x' y' ∧ φ x' y' = φ x y ∧ W B x' y' = true) = W B x y := by
    intro B x y a
    cases hw : W B x y with
    | true => exact pb_t ⟨x, y, a, rfl, hw⟩
    | false =>
      refine pb_f (fun ⟨x', y', a', e1, e2⟩ => ?_)
      rw [hc (W B) (hWf B) x' y' x y a' a e1, hw] at e2; cases e2
  have hW : ∀ x y, A x y → W B x y = W B' x y := by
    intro x y a
    have h1 := hF (φ x y) (by have := hφ x y a; omega)
    simp only [decide_eq_true (hφ x y a), cond_true] at h1
    rw [val B x y a, val B' x y a] at h1; exact h1
  have hD : ∀ v, v < n → Dg B v = Dg B' v := by
    intro v hv
    have h1 := hF (R + v) (by omega)
    simp only [decide_eq_false (show ¬ R + v < R by omega), cond_false, show R + v - R = v by omega] at h1
    exact h1
  have a0 := hA e0 he0
  have bdW : ∀ B : Nat → Bool, fbd (W B) (t e0) (h e0) = (xsum (fun v => Dg B v && ρ ((v : Nat) : Int) (t e0) (h e0)) n ^^ B e0) := by
    intro B
    have h1 : fbd (W B) (t e0) (h e0) = xsum (fun e => (B e && (ρ (t e) (t e0) (h e0) ^^ ρ (h e) (t e0) (h e0))) ^^ (B e && eI (t e) (h e) (t e0) (h e0))) m := by
      show (xsum (fun e => B e && X e (t e0) (h e0)) m ^^ xsum (fun e => B e && X e (h e0) (t e0)) m) = _
      rw [← xsum_xor]
      refine xsum_eq m (fun e he => ?_)
      have h2 := (hXs e he).2 _ _ a0
      unfold fbd at h2
      revert h2
      generalize B e = r1; generalize X e (t e0) (h e0) = r2; generalize X e (h e0) (t e0) = r3; generalize ρ (t e) (t e0) (h e0) = r4; generalize ρ (h e) (t e0) (h e0) = r5; generalize eI (t e) (h e) (t e0) (h e0) = r6
      revert r1 r2 r3 r4 r5 r6; decide
    rw [h1, xsum_xor, xsum_ex (r := fun v => ρ v (t e0) (h e0)) m hb]
    congr 1
    rw [xsum_one m he0 (fun i hi hne => ?_)]
    · rw [eI_self]; generalize B e0 = r; revert r; decide
    · cases hq : eI (t i) (h i) (t e0) (h e0) with
      | true => exact absurd (hsi i e0 hi he0 hq) hne
      | false => generalize B i = r; revert r; decide
  have h3 : fbd (W B) (t e0) (h e0) = fbd (W B') (t e0) (h e0) := by unfold fbd; rw [hW _ _ a0, hW _ _ (hs _ _ a0)]
  rw [bdW B, bdW B', xsum_eq n (fun v hv => by rw [hD v hv])] at h3
  revert h3
  generalize xsum (fun v => Dg B' v && ρ ((v : Nat) : Int) (t e0) (h e0)) n = r1; generalize B e0 = r2; generalize B' e0 = r3
  revert r1 r2 r3; decide
