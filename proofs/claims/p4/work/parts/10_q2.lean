/-! rounds of raising places: who was raised last, and by whom -/
def NWL (n a : Int) (fr to' gn : Int → Int) : Prop := 0 ≤ n ∧ n ≤ 24 ∧ 0 ≤ a ∧ a ≤ 192 ∧ ∀ k, 0 ≤ k → k < a → 0 ≤ fr k ∧ fr k < n ∧ 0 ≤ to' k ∧ to' k < n ∧ -1 ≤ gn k ∧ gn k ≤ 1
def SRS (fr to' rm gn pl : Int → Int) (k : Int) : Prop := 0 < rm k → pl (fr k) + gn k ≤ pl (to' k)
def SRB (n a : Int) (fr to' rm gn pl by' R : Int → Int) (t : Int) : Prop := ∀ v, 0 ≤ v → v < n → 0 ≤ R v ∧ R v ≤ t ∧ (by' v = -1 → R v = 0) ∧ (by' v ≠ -1 → 0 ≤ by' v ∧ by' v < a ∧ to' (by' v) = v ∧ 0 < rm (by' v) ∧ pl v ≤ pl (fr (by' v)) + gn (by' v) ∧ R v - 1 ≤ R (fr (by' v)))
def SRPOS (n : Int) (fr gn by' : Int → Int) : Prop := ∀ (v : Int) (L : Nat), 0 < L → 0 ≤ v → v < n → srp fr by' v L = v → (∀ j, j < L → 0 ≤ by' (srp fr by' v j)) → 1 ≤ srg fr gn by' v L
def FEA (a : Int) (fr to' rm gn pl : Int → Int) : Prop := ∀ k, 0 ≤ k → k < a → SRS fr to' rm gn pl k
def FRI (n a : Int) (fr to' rm gn pl by' : Int → Int) (t : Int) : Prop := NWL n a fr to' gn ∧ SRPOS n fr gn by' ∧ ∃ R : Int → Int, SRB n a fr to' rm gn pl by' R t ∧ (∀ k, 0 ≤ k → k < a → R (fr k) < t → SRS fr to' rm gn pl k) ∧ (0 < t → ∃ v, 0 ≤ v ∧ v < n ∧ R v = t)
def RAI (n a : Int) (fr to' rm gn pl by' : Int → Int) (t i rd : Int) : Prop := NWL n a fr to' gn ∧ SRPOS n fr gn by' ∧ 0 ≤ i ∧ ∃ R : Int → Int, SRB n a fr to' rm gn pl by' R (t + 1) ∧ (∀ k, 0 ≤ k → k < a → (k < i → R (fr k) ≤ t → SRS fr to' rm gn pl k) ∧ (i ≤ k → R (fr k) < t → SRS fr to' rm gn pl k)) ∧ (rd = 0 → ∀ k, 0 ≤ k → k < i → SRS fr to' rm gn pl k) ∧ (rd ≠ 0 → ∃ v, 0 ≤ v ∧ v < n ∧ R v = t + 1)
def RAP (n a : Int) (fr to' rm gn pl by' : Int → Int) (t an : Int) : Prop := (an = 0 → FEA a fr to' rm gn pl) ∧ (an ≠ 0 → FRI n a fr to' rm gn pl by' (t + 1)) ∧ (FRI n a fr to' rm gn pl by' (t + 1) ∨ an = 0)
def PBW (n : Int) (pl : Int → Int) (K t i : Int) : Prop := ∀ v, 0 ≤ v → v < n → 0 ≤ pl v ∧ pl v ≤ 55296 * K + 192 * t + i
theorem rai_start {n a : Int} {fr to' rm gn pl by' : Int → Int} {t i rd : Int} (h : FRI n a fr to' rm gn pl by' t) (hi : i = 0) (hr : rd = 0) : RAI n a fr to' rm gn pl by' t i rd := by
  obtain ⟨h1, h2, R, h3, h4, h5⟩ := h
  refine ⟨h1, h2, by omega, R, fun v a b => ?_, fun k a b => ⟨fun c => by omega, fun _ c => h4 k a b c⟩, fun _ k _ c => by omega, fun c => absurd hr c⟩
  obtain ⟨q1, q2, q3⟩ := h3 v a b
  exact ⟨q1, by omega, q3⟩
theorem rai_skip {n a : Int} {fr to' rm gn pl by' : Int → Int} {t i i' rd : Int} (h : RAI n a fr to' rm gn pl by' t i rd) (hs : rm i ≤ 0 ∨ pl (fr i) + gn i ≤ pl (to' i)) (hi : i' = i + 1) : RAI n a fr to' rm gn pl by' t i' rd := by
  obtain ⟨h1, h2, h0, R, h3, h4, h5, h6⟩ := h
  have hq : SRS fr to' rm gn pl i := fun q => hs.elim (fun z => by omega) id
  subst hi
  refine ⟨h1, h2, by omega, R, h3, fun k a b => ⟨fun c d => ?_, fun c d => (h4 k a b).2 (by omega) d⟩, fun e k a c => ?_, h6⟩
  · by_cases e : k = i
    · rw [e]; exact hq
    · exact (h4 k a b).1 (by omega) d
  · by_cases e2 : k = i
    · rw [e2]; exact hq
    · exact h5 e k a (by omega)
/-- gains along a way, once one node is raised -/
theorem srg_low {n : Int} {fr gn pl by1 : Int → Int} {v0 : Int} (hA : ∀ w, 0 ≤ w → w < n → 0 ≤ by1 w → 0 ≤ fr (by1 w) ∧ fr (by1 w) < n ∧ pl w + (if w = v0 then 1 else 0) ≤ pl (fr (by1 w)) + gn (by1 w)) {v : Int} (v0' : 0 ≤ v) (v1 : v < n) : ∀ L : Nat, (∀ j, j < L → 0 ≤ by1 (srp fr by1 v j)) → (0 ≤ srp fr by1 v L ∧ srp fr by1 v L < n) ∧ pl v ≤ pl (srp fr by1 v L) + srg fr gn by1 v L ∧ ((∃ j, j < L ∧ srp fr by1 v j = v0) → pl v + 1 ≤ pl (srp fr by1 v L) + srg fr gn by1 v L)
  | 0, _ => ⟨⟨v0', v1⟩, by show pl v ≤ pl v + 0; omega, fun ⟨j, hj, _⟩ => by omega⟩
  | L + 1, h => by
    obtain ⟨⟨i1, i2⟩, i3, i4⟩ := srg_low hA v0' v1 L (fun j hj => h j (by omega))
    have h2 := hA _ i1 i2 (h L (by omega))
    have e1 : srp fr by1 v (L + 1) = fr (by1 (srp fr by1 v L)) := rfl
    have e2 : srg fr gn by1 v (L + 1) = srg fr gn by1 v L + gn (by1 (srp fr by1 v L)) := rfl
    rw [e1, e2]
    refine ⟨⟨h2.1, h2.2.1⟩, ?_, fun ⟨j, hj, ej⟩ => ?_⟩
    · have := h2.2.2
      split at this <;> omega
    · by_cases e : j = L
      · subst e
        have := h2.2.2
        rw [if_pos ej] at this; omega
      · have := i4 ⟨j, by omega, ej⟩
        have := h2.2.2
        split at this <;> omega
theorem srp_same {fr by1 by2 : Int → Int} {v : Int} : ∀ L : Nat, (∀ j, j < L → by1 (srp fr by1 v j) = by2 (srp fr by1 v j)) → srp fr by2 v L = srp fr by1 v L
  | 0, _ => rfl
  | L + 1, h => by
    show fr (by2 (srp fr by2 v L)) = fr (by1 (srp fr by1 v L))
    rw [srp_same L (fun j hj => h j (by omega)), h L (by omega)]
theorem srg_same {fr gn by1 by2 : Int → Int} {v : Int} : ∀ L : Nat, (∀ j, j < L → by1 (srp fr by1 v j) = by2 (srp fr by1 v j)) → srg fr gn by2 v L = srg fr gn by1 v L
  | 0, _ => rfl
  | L + 1, h => by
    show srg fr gn by2 v L + gn (by2 (srp fr by2 v L)) = srg fr gn by1 v L + gn (by1 (srp fr by1 v L))
    rw [srg_same L (fun j hj => h j (by omega)), srp_same L (fun j hj => h j (by omega)), h L (by omega)]
theorem rai_set {n a : Int} {fr to' rm gn pl by' pl' by1 : Int → Int} {t i i' rd rd' p x q y : Int} (h : RAI n a fr to' rm gn pl by' t i rd) (hp : st1 pl pl' p x) (ep : p = to' i) (ex : x = pl (fr i) + gn i) (hb : st1 by' by1 q y) (eq : q = to' i) (ey : y = i) (hr : 0 < rm i) (hu : pl (to' i) < pl (fr i) + gn i) (hia : i < a) (hi : i' = i + 1) (hrd : rd' = 1) : RAI n a fr to' rm gn pl' by1 t i' rd' := by
  obtain ⟨h1, h2, h0, R, h3, h4, h5, h6⟩ := h
  obtain ⟨f0, f1, t0, t1, g0, g1⟩ := h1.2.2.2.2 i h0 hia
  have hRi : t ≤ R (fr i) := Classical.byContradiction fun c => by
    have := (h4 i h0 hia).2 (Int.le_refl _) (by omega) hr
    omega
  subst ep eq ey hi
  have pT : pl' (to' y) = pl (fr y) + gn y := by rw [(hp _ t0).1 rfl, ex]
  have pN : ∀ v, 0 ≤ v → v ≠ to' y → pl' v = pl v := fun v a b => (hp v a).2 b
  have pU : ∀ v, 0 ≤ v → pl v ≤ pl' v := fun v a => by
    by_cases e : v = to' y
    · rw [e, pT]; omega
    · rw [pN v a e]; omega
  have bT : by1 (to' y) = y := (hb _ t0).1 rfl
  have bN : ∀ v, 0 ≤ v → v ≠ to' y → by1 v = by' v := fun v a b => (hb v a).2 b
  have fR : ∀ v, 0 ≤ v → v < n → by' v ≠ -1 → 0 ≤ fr (by' v) ∧ fr (by' v) < n := fun v a b c => by
    obtain ⟨_, _, _, q⟩ := h3 v a b
    obtain ⟨q1, q2, _⟩ := q c
    have := h1.2.2.2.2 _ q1 q2
    exact ⟨this.1, this.2.1⟩
  obtain ⟨R', rT, rN⟩ : ∃ R' : Int → Int, R' (to' y) = t + 1 ∧ ∀ v, v ≠ to' y → R' v = R v := ⟨fun v => if v = to' y then t + 1 else R v, if_pos rfl, fun v e => if_neg e⟩
  have rU : ∀ v, 0 ≤ v → v < n → R v ≤ R' v := fun v a b => by
    by_cases e : v = to' y
    · have := (h3 v a b).2.1
      rw [e, rT]; rw [e] at this; exact this
    · rw [rN v e]; omega
  refine ⟨h1, fun v L L0 v0 v1 e1 e2 => ?_, by omega, R', fun v v0 v1 => ?_, fun k k0 k1 => ?_, fun c => by omega, fun _ => ⟨to' y, t0, t1, rT⟩⟩
  · -- rings
    by_cases hv : ∃ j, j < L ∧ srp fr by1 v j = to' y
    · have := srg_low (n := n) (fr := fr) (gn := gn) (pl := pl) (by1 := by1) (v0 := to' y) (fun w w0 w1 w2 => by
        by_cases e : w = to' y
        · subst e; rw [bT, if_pos rfl]; exact ⟨f0, f1, by omega⟩
        · rw [bN w w0 e] at w2 ⊢
          rw [if_neg e]
          obtain ⟨_, _, _, q⟩ := h3 w w0 w1
          have qq := q (by omega)
          have := fR w w0 w1 (by omega)
          exact ⟨this.1, this.2, by omega⟩) v0 v1 L e2
      have h8 := this.2.2 hv
      rw [e1] at h8; omega
    · have rg : ∀ j, j ≤ L → 0 ≤ srp fr by1 v j ∧ srp fr by1 v j < n := fun j => by
        induction j with
        | zero => exact fun _ => ⟨v0, v1⟩
        | succ j ih =>
          intro hj
          obtain ⟨i1, i2⟩ := ih (by omega)
          show 0 ≤ fr (by1 (srp fr by1 v j)) ∧ fr (by1 (srp fr by1 v j)) < n
          have e3 := e2 j (by omega)
          rw [bN _ i1 (fun e => hv ⟨j, by omega, e⟩)] at e3 ⊢
          exact fR _ i1 i2 (by omega)
      have sm : ∀ j, j < L → by1 (srp fr by1 v j) = by' (srp fr by1 v j) := fun j hj => bN _ (rg j (by omega)).1 (fun e => hv ⟨j, hj, e⟩)
      have h8 := h2 v L L0 v0 v1 (by rw [srp_same L sm]; exact e1) (fun j hj => by rw [srp_same j (fun q hq => sm q (by omega)), ← sm j hj]; exact e2 j hj)
      rw [srg_same L sm] at h8; exact h8
  · obtain ⟨q1, q2, q3, q4⟩ := h3 v v0 v1
    by_cases e : v = to' y
    · subst e
      rw [rT, bT]
      have r0 := (h3 _ f0 f1).1
      have r1 := (h3 _ f0 f1).2.1
      refine ⟨by omega, by omega, fun c => by omega, fun _ => ⟨h0, hia, rfl, hr, ?_, ?_⟩⟩
      · rw [pT]; have := pU (fr y) f0; omega
      · have := rU (fr y) f0 f1; omega
    · rw [rN v e, bN v v0 e, pN v v0 e]
      refine ⟨q1, q2, q3, fun c => ?_⟩
      obtain ⟨z1, z2, z3, z4, z5, z6⟩ := q4 c
      have z7 := fR v v0 v1 c
      refine ⟨z1, z2, z3, z4, ?_, ?_⟩
      · have := pU _ z7.1; omega
      · have := rU _ z7.1 z7.2; omega
  · have fk := h1.2.2.2.2 k k0 k1
    have key : fr k ≠ to' y → SRS fr to' rm gn pl k → SRS fr to' rm gn pl' k := fun e c r0 => by
      have := c r0
      rw [pN _ fk.1 e]
      have := pU (to' k) fk.2.2.1
      omega
    have hf : R' (fr k) ≤ t → fr k ≠ to' y := fun d e => by rw [e, rT] at d; omega
    refine ⟨fun c d => ?_, fun c d => ?_⟩
    · have e2 := hf d
      rw [rN _ e2] at d
      by_cases e : k = y
      · subst e
        intro _; rw [pN _ fk.1 e2, pT]; omega
      · exact key e2 ((h4 k k0 k1).1 (by omega) d)
    · have e2 := hf (by omega)
      rw [rN _ e2] at d
      exact key e2 ((h4 k k0 k1).2 (by omega) d)
theorem rai_end {n a : Int} {fr to' rm gn pl by' : Int → Int} {t i rd an : Int} (h : RAI n a fr to' rm gn pl by' t i rd) (t0 : 0 ≤ t) (hi : a ≤ i) (e : an = rd) : RAP n a fr to' rm gn pl by' t an := by
  obtain ⟨h1, h2, h0, R, h3, h4, h5, h6⟩ := h
  have hF : an ≠ 0 → FRI n a fr to' rm gn pl by' (t + 1) := fun c => ⟨h1, h2, R, h3, fun k a b d => (h4 k a b).1 (by omega) (by omega), fun _ => h6 (by omega)⟩
  refine ⟨fun c k a b => h5 (by omega) k a (by omega), hF, ?_⟩
  by_cases c : an = 0
  · exact Or.inr c
  · exact Or.inl (hF c)
theorem pbw_set {n a : Int} {fr to' gn pl pl' : Int → Int} {K t i i' p x : Int} (h : PBW n pl K t i) (hw : NWL n a fr to' gn) (hp : st1 pl pl' p x) (ep : p = to' i) (ex : x = pl (fr i) + gn i) (i0 : 0 ≤ i) (hia : i < a) (hu : pl (to' i) < pl (fr i) + gn i) (hi : i' = i + 1) : PBW n pl' K t i' := fun v a b => by
  have := hw.2.2.2.2 i i0 hia
  have h2 := h (fr i) this.1 this.2.1
  have h3 := h (to' i) this.2.2.1 this.2.2.2.1
  by_cases e : v = p
  · rw [(hp v a).1 e]; omega
  · rw [(hp v a).2 e]; have := h v a b; omega
theorem pbw_up {n : Int} {pl : Int → Int} {K t i i' : Int} (h : PBW n pl K t i) (hi : i ≤ i') : PBW n pl K t i' := fun v a b => by have := h v a b; omega
theorem pbw_round {n : Int} {pl : Int → Int} {K t t' i i' : Int} (h : PBW n pl K t i) (hi : i ≤ 192) (ht : t' = t + 1) (hi' : i' = 0) : PBW n pl K t' i' := fun v a b => by have := h v a b; omega
theorem pbw_iter {n : Int} {pl : Int → Int} {K K' t t' i i' : Int} (h : PBW n pl K t i) (ht : t ≤ 288) (hi : i = 0) (hK : K' = K + 1) (ht' : t' = 0) (hi' : i' = 0) : PBW n pl K' t' i' := fun v a b => by have := h v a b; omega
theorem fri_hfr {n a : Int} {fr to' rm gn pl by' : Int → Int} {t : Int} (h : FRI n a fr to' rm gn pl by' t) : HFR n fr by' := fun w w0 w1 w2 => by
  obtain ⟨h1, h2, R, h3, h4, h5⟩ := h
  obtain ⟨_, _, _, q⟩ := h3 w w0 w1
  obtain ⟨q1, q2, _⟩ := q (by omega)
  have := h1.2.2.2.2 _ q1 q2
  exact ⟨this.1, this.2.1⟩
/-- so many rounds and no ring: fewer than nodes -/
theorem fri_few {n a : Int} {fr to' rm gn pl by' : Int → Int} {t : Int} (h : FRI n a fr to' rm gn pl by' t) (hE : ∀ v, 0 ≤ v → v < n → ENDS fr by' v) (t0 : 0 ≤ t) : t ≤ n := by
  by_cases tz : t = 0
  · have := h.1.1; omega
  obtain ⟨h1, h2, R, h3, h4, h5⟩ := h
  obtain ⟨v, v0, v1, ev⟩ := h5 (by omega)
  -- the first end
  have hm : ∃ i : Nat, by' (srp fr by' v i) = -1 ∧ ∀ j, j < i → by' (srp fr by' v j) ≠ -1 := by
    obtain ⟨i, hi⟩ := hE v v0 v1
    revert hi
    induction i using Nat.strongRecOn with
    | _ i ih =>
      intro hi
      by_cases c : ∃ j, j < i ∧ by' (srp fr by' v j) = -1
      · obtain ⟨j, hj, e⟩ := c; exact ih j hj e
      · exact ⟨i, hi, fun j hj e => c ⟨j, hj, e⟩⟩
  obtain ⟨i, hi, hj⟩ := hm
  have rg : ∀ j, j ≤ i → 0 ≤ srp fr by' v j ∧ srp fr by' v j < n ∧ t - j ≤ R (srp fr by' v j) := fun j => by
    induction j with
    | zero => exact fun _ => ⟨v0, v1, by show t - ((0 : Nat) : Int) ≤ R v; omega⟩
    | succ j ih =>
      intro hj2
      obtain ⟨i1, i2, i3⟩ := ih (by omega)
      obtain ⟨_, _, _, q⟩ := h3 _ i1 i2
      obtain ⟨q1, q2, _, _, _, q6⟩ := q (hj j (by omega))
      have := h1.2.2.2.2 _ q1 q2
      show 0 ≤ fr (by' (srp fr by' v j)) ∧ fr (by' (srp fr by' v j)) < n ∧ t - ((j + 1 : Nat) : Int) ≤ R (fr (by' (srp fr by' v j)))
      exact ⟨this.1, this.2.1, by omega⟩
  have hti : t ≤ i := by
    obtain ⟨i1, i2, i3⟩ := rg i (Nat.le_refl _)
    have := (h3 _ i1 i2).2.2.1 hi
    omega
  have := inj_le (n := n) (f := srp fr by' v) (N := i) h1.1 (fun j hj2 => ⟨(rg j (by omega)).1, (rg j (by omega)).2.1⟩) (fun p q pq qi e => by
    -- p and q the same: the way would go on from q as from p
    have e3 := srp_add fr by' v q (i - q)
    have e4 := srp_add fr by' v p (i - q)
    rw [← e, e4, show q + (i - q) = i by omega] at e3
    rw [← e3] at hi
    exact hj (p + (i - q)) (by omega) hi)
  omega
theorem fri_start {n a : Int} {fr to' rm gn pl by' : Int → Int} {t : Int} (hw : NWL n a fr to' gn) (hb : ∀ v, 0 ≤ v → v < n → by' v = -1) (ht : t = 0) : FRI n a fr to' rm gn pl by' t := by
  obtain ⟨R, hR⟩ : ∃ R : Int → Int, ∀ v, R v = 0 := ⟨fun _ => 0, fun _ => rfl⟩
  refine ⟨hw, fun v L L0 v0 v1 e1 e2 => ?_, R, fun v a b => ⟨by rw [hR]; omega, by rw [hR]; omega, fun _ => hR v, fun c => absurd (hb v a b) c⟩, fun k _ _ c => by rw [hR] at c; omega, fun c => by omega⟩
  have := e2 0 L0
  have e3 : by' (srp fr by' v 0) = -1 := hb v v0 v1
  omega
/-- what is left of it for sendRound -/
def RSW (n a : Int) (fr to' rm gn by' : Int → Int) : Prop := NWL n a fr to' gn ∧ SRPOS n fr gn by' ∧ ∀ v, 0 ≤ v → v < n → by' v ≠ -1 → 0 ≤ by' v ∧ by' v < a ∧ to' (by' v) = v ∧ 0 < rm (by' v)
theorem rsw_of {n a : Int} {fr to' rm gn pl by' : Int → Int} {t : Int} (h : FRI n a fr to' rm gn pl by' t) : RSW n a fr to' rm gn by' := by
  obtain ⟨h1, h2, R, h3, h4, h5⟩ := h
  refine ⟨h1, h2, fun v a b c => ?_⟩
  obtain ⟨_, _, _, q⟩ := h3 v a b
  obtain ⟨q1, q2, q3, q4, _⟩ := q c
  exact ⟨q1, q2, q3, q4⟩
/-! contracts -/
def NRG (n : Int) (fr by' : Int → Int) : Prop := ∀ v, 0 ≤ v → v < n → ENDS fr by' v
def PBG (n : Int) (pl : Int → Int) (K : Int) : Prop := PBW n pl K 0 0
def PBL (n : Int) (pl : Int → Int) (K : Int) : Prop := PBW n pl (K + 1) 0 0
def PBT (n : Int) (pl : Int → Int) (K t : Int) : Prop := PBW n pl K t 0
def PBU (n : Int) (pl : Int → Int) (K t : Int) : Prop := PBW n pl K (t + 1) 0
def FRP (n a : Int) (fr to' rm gn pl by' : Int → Int) (an : Int) : Prop := (an = -1 → FEA a fr to' rm gn pl) ∧ (an ≠ -1 → 0 ≤ an ∧ an < n ∧ RNG fr by' an ∧ RSW n a fr to' rm gn by')
theorem nrg_start {n : Int} {fr by' : Int → Int} (hb : ∀ v, 0 ≤ v → v < n → by' v = -1) : NRG n fr by' := fun v a b => ⟨0, hb v a b⟩
theorem nrg_of {n a : Int} {fr to' rm gn pl by' : Int → Int} {t an : Int} (h : FRI n a fr to' rm gn pl by' t) (hs : SNB n fr by' an) (e : an = -1) : NRG n fr by' := hs.2.1 e (fri_hfr h)
theorem frp_full {n a : Int} {fr to' rm gn pl by' : Int → Int} {t : Int} (h : FRI n a fr to' rm gn pl by' t) (hE : NRG n fr by') (ht : 288 ≤ t) : False := by
  have := fri_few h hE (by omega)
  have := h.1.2.1
  omega
theorem frp_ring {n a : Int} {fr to' rm gn pl by' : Int → Int} {t rd an : Int} (h : RAP n a fr to' rm gn pl by' t rd) (hr : rd ≠ 0) (hs : SNB n fr by' an) (e : an ≠ -1) : FRP n a fr to' rm gn pl by' an := by
  have hf := h.2.1 hr
  exact ⟨fun q => absurd q e, fun _ => ⟨(hs.2.2 e).1, (hs.2.2 e).2 (fri_hfr hf), hs.1 e, rsw_of hf⟩⟩
theorem frp_none {n a : Int} {fr to' rm gn pl by' : Int → Int} {t rd an : Int} (h : RAP n a fr to' rm gn pl by' t rd) (hr : rd = 0) (e : an = -1) : FRP n a fr to' rm gn pl by' an := ⟨fun _ => h.1 hr, fun q => absurd e q⟩
