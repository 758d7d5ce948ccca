/-! the last rounds: the least places that keep all gaps; no height is left out -/
def LEA (n a : Int) (fr to' rm gn ps : Int → Int) : Prop := FEA a fr to' rm gn ps ∧ (∀ v, 0 ≤ v → v < n → 0 ≤ ps v) ∧ ∀ q : Int → Int, FEA a fr to' rm gn q → (∀ v, 0 ≤ v → v < n → 0 ≤ q v) → ∀ v, 0 ≤ v → v < n → ps v ≤ q v
theorem nat_min {P : Nat → Prop} : ∀ i : Nat, P i → ∃ j, P j ∧ ∀ k, P k → j ≤ k := by
  intro i
  induction i using Nat.strongRecOn with
  | _ i ih =>
    intro hi
    by_cases c : ∃ j, j < i ∧ P j
    · obtain ⟨j, hj, e⟩ := c; exact ih j hj e
    · exact ⟨i, hi, fun k hk => Classical.byContradiction fun z => c ⟨k, by omega, hk⟩⟩
theorem lea_ex {n a : Int} {fr to' rm gn q : Int → Int} (hw : NWL n a fr to' gn) (h : FEA a fr to' rm gn q) (h0 : ∀ v, 0 ≤ v → v < n → 0 ≤ q v) : ∃ ps, LEA n a fr to' rm gn ps := by
  have hm : ∀ v, ∃ x : Int, (0 ≤ v → v < n → 0 ≤ x ∧ (∃ q, FEA a fr to' rm gn q ∧ (∀ w, 0 ≤ w → w < n → 0 ≤ q w) ∧ q v = x) ∧ ∀ q : Int → Int, FEA a fr to' rm gn q → (∀ w, 0 ≤ w → w < n → 0 ≤ q w) → x ≤ q v) := fun v => by
    by_cases hv : 0 ≤ v ∧ v < n
    · obtain ⟨j, ⟨q1, c1, c2, c3⟩, hj⟩ := nat_min (P := fun k => ∃ q : Int → Int, FEA a fr to' rm gn q ∧ (∀ w, 0 ≤ w → w < n → 0 ≤ q w) ∧ q v = (k : Int)) (q v).toNat ⟨q, h, h0, by have := h0 v hv.1 hv.2; omega⟩
      refine ⟨j, fun _ _ => ⟨by omega, ⟨q1, c1, c2, c3⟩, fun q2 d1 d2 => ?_⟩⟩
      have := hj (q2 v).toNat ⟨q2, d1, d2, by have := d2 v hv.1 hv.2; omega⟩
      have := d2 v hv.1 hv.2
      omega
    · exact ⟨0, fun x y => absurd ⟨x, y⟩ hv⟩
  refine ⟨fun v => Classical.choose (hm v), fun k k0 k1 r0 => ?_, fun v x y => (Classical.choose_spec (hm v) x y).1, fun q2 d1 d2 v x y => (Classical.choose_spec (hm v) x y).2.2 q2 d1 d2⟩
  have fk := hw.2.2.2.2 k k0 k1
  obtain ⟨_, ⟨q1, c1, c2, c3⟩, _⟩ := Classical.choose_spec (hm (to' k)) fk.2.2.1 fk.2.2.2.1
  have h2 := (Classical.choose_spec (hm (fr k)) fk.1 fk.2.1).2.2 q1 c1 c2
  have h3 := c1 k k0 k1 r0
  show Classical.choose (hm (fr k)) + gn k ≤ Classical.choose (hm (to' k))
  omega
/-- below the least ones somewhere: an arc shows where they must rise -/
theorem lea_arc {n a : Int} {fr to' rm gn ps pl : Int → Int} (hw : NWL n a fr to' gn) (h : LEA n a fr to' rm gn ps) (hb : ∀ v, 0 ≤ v → v < n → 0 ≤ pl v ∧ pl v ≤ ps v) {v : Int} (v0 : 0 ≤ v) (v1 : v < n) (hv : pl v ≠ ps v) : ∃ k, 0 ≤ k ∧ k < a ∧ 0 < rm k ∧ pl (fr k) = ps (fr k) ∧ pl (to' k) ≠ ps (to' k) ∧ ps (to' k) = ps (fr k) + gn k := by
  refine Classical.byContradiction fun c => ?_
  obtain ⟨q, hq⟩ : ∃ q : Int → Int, ∀ w, q w = if pl w = ps w then ps w else ps w - 1 := ⟨fun w => if pl w = ps w then ps w else ps w - 1, fun _ => rfl⟩
  have h1 := h.2.2 q (fun k k0 k1 r0 => ?_) (fun w w0 w1 => ?_) v v0 v1
  · rw [hq, if_neg hv] at h1; omega
  · have fk := hw.2.2.2.2 k k0 k1
    have h2 := h.1 k k0 k1 r0
    rw [hq, hq]
    by_cases e1 : pl (fr k) = ps (fr k)
    · rw [if_pos e1]
      by_cases e2 : pl (to' k) = ps (to' k)
      · rw [if_pos e2]; exact h2
      · rw [if_neg e2]
        have : ps (to' k) ≠ ps (fr k) + gn k := fun e3 => c ⟨k, k0, k1, r0, e1, e2, e3⟩
        omega
    · rw [if_neg e1]
      by_cases e2 : pl (to' k) = ps (to' k)
      · rw [if_pos e2]; omega
      · rw [if_neg e2]; omega
  · rw [hq]
    have := hb w w0 w1
    split
    · omega
    · omega
theorem lea_full {n a : Int} {fr to' rm gn ps : Int → Int} (hw : NWL n a fr to' gn) (h : LEA n a fr to' rm gn ps) {v : Int} (v0 : 0 ≤ v) (v1 : v < n) : ps v + 1 ≤ n := by
  have lev : ∀ j : Nat, (j : Int) ≤ ps v → ∃ w, 0 ≤ w ∧ w < n ∧ ps w = j := fun j hj => by
    by_cases ej : (j : Int) = ps v
    · exact ⟨v, v0, v1, ej.symm⟩
    refine Classical.byContradiction fun c => ?_
    obtain ⟨q, hq⟩ : ∃ q : Int → Int, ∀ w, q w = if (j : Int) < ps w then ps w - 1 else ps w := ⟨fun w => if (j : Int) < ps w then ps w - 1 else ps w, fun _ => rfl⟩
    have h1 := h.2.2 q (fun k k0 k1 r0 => ?_) (fun w w0 w1 => ?_) v v0 v1
    · rw [hq, if_pos (by omega)] at h1; omega
    · have fk := hw.2.2.2.2 k k0 k1
      have h2 := h.1 k k0 k1 r0
      have h3 : ps (fr k) ≠ j := fun e => c ⟨_, fk.1, fk.2.1, e⟩
      have h4 := fk.2.2.2.2.2
      rw [hq, hq]
      split <;> split <;> omega
    · rw [hq]
      have := h.2.1 w w0 w1
      split <;> omega
  have hp := h.2.1 v v0 v1
  have hc : ∀ j : Nat, ∃ w : Int, (j : Int) ≤ ps v → 0 ≤ w ∧ w < n ∧ ps w = j := fun j => by
    by_cases c : (j : Int) ≤ ps v
    · obtain ⟨w, hw⟩ := lev j c; exact ⟨w, fun _ => hw⟩
    · exact ⟨0, fun z => absurd z c⟩
  have := inj_le (n := n) (f := fun j => Classical.choose (hc j)) (N := (ps v).toNat + 1) hw.1 (fun j hj => by
    have := Classical.choose_spec (hc j) (by omega)
    exact ⟨this.1, this.2.1⟩) (fun i j ij hj e => by
    have h5 := Classical.choose_spec (hc i) (by omega)
    have h6 := Classical.choose_spec (hc j) (by omega)
    have e' : Classical.choose (hc i) = Classical.choose (hc j) := e
    rw [e', h6.2.2] at h5
    omega)
  omega
/-- behind t rounds so many nodes have their last place -/
def FNL (n a : Int) (fr to' rm gn pl : Int → Int) (t : Int) : Prop := NWL n a fr to' gn ∧ 0 ≤ t ∧ ∃ ps : Int → Int, LEA n a fr to' rm gn ps ∧ (∀ v, 0 ≤ v → v < n → 0 ≤ pl v ∧ pl v ≤ ps v) ∧ ∃ e : Nat → Int, (∀ i : Nat, (i : Int) < t → 0 ≤ e i ∧ e i < n ∧ pl (e i) = ps (e i)) ∧ ∀ i j : Nat, i < j → (j : Int) < t → e i ≠ e j
def FNI (n a : Int) (fr to' rm gn pl : Int → Int) (t i rd : Int) : Prop := NWL n a fr to' gn ∧ 0 ≤ t ∧ 0 ≤ i ∧ ∃ ps : Int → Int, LEA n a fr to' rm gn ps ∧ (∀ v, 0 ≤ v → v < n → 0 ≤ pl v ∧ pl v ≤ ps v) ∧ (∃ e : Nat → Int, (∀ i : Nat, (i : Int) < t → 0 ≤ e i ∧ e i < n ∧ pl (e i) = ps (e i)) ∧ (∀ i j : Nat, i < j → (j : Int) < t → e i ≠ e j) ∧ ((rd = 0 ∧ ∀ v, 0 ≤ v → v < n → pl v = ps v) ∨ ∃ k, 0 ≤ k ∧ k < a ∧ 0 < rm k ∧ pl (fr k) = ps (fr k) ∧ ps (to' k) = ps (fr k) + gn k ∧ (∀ j : Nat, (j : Int) < t → e j ≠ to' k) ∧ (k < i → pl (to' k) = ps (to' k)))) ∧ (rd = 0 → ∀ k, 0 ≤ k → k < i → SRS fr to' rm gn pl k)
def FNQ (n a : Int) (fr to' rm gn pl : Int → Int) (t an : Int) : Prop := (an = 0 → LEA n a fr to' rm gn pl) ∧ (an ≠ 0 → FNL n a fr to' rm gn pl (t + 1))
theorem fni_start {n a : Int} {fr to' rm gn pl : Int → Int} {t i rd : Int} (h : FNL n a fr to' rm gn pl t) (hi : i = 0) (hr : rd = 0) : FNI n a fr to' rm gn pl t i rd := by
  obtain ⟨h1, h2, ps, h3, h4, e, h5, h6⟩ := h
  refine ⟨h1, h2, by omega, ps, h3, h4, ⟨e, h5, h6, ?_⟩, fun _ k _ c => by omega⟩
  by_cases c : ∀ v, 0 ≤ v → v < n → pl v = ps v
  · exact Or.inl ⟨hr, c⟩
  · right
    obtain ⟨v, hv⟩ := Classical.not_forall.mp c
    obtain ⟨v0, hv⟩ := Classical.not_forall.mp hv
    obtain ⟨v1, hv⟩ := Classical.not_forall.mp hv
    obtain ⟨k, k0, k1, k2, k3, k4, k5⟩ := lea_arc h1 h3 h4 v0 v1 hv
    exact ⟨k, k0, k1, k2, k3, k5, fun j hj e2 => k4 (by rw [← e2]; exact (h5 j hj).2.2), fun c => by omega⟩
theorem fni_skip {n a : Int} {fr to' rm gn pl : Int → Int} {t i i' rd : Int} (h : FNI n a fr to' rm gn pl t i rd) (hs : rm i ≤ 0 ∨ pl (fr i) + gn i ≤ pl (to' i)) (hi : i' = i + 1) : FNI n a fr to' rm gn pl t i' rd := by
  obtain ⟨h1, h2, h0, ps, h3, h4, ⟨e, h5, h6, h7⟩, h8⟩ := h
  subst hi
  refine ⟨h1, h2, by omega, ps, h3, h4, ⟨e, h5, h6, ?_⟩, fun r k a c => ?_⟩
  · rcases h7 with q | ⟨k, k0, k1, k2, k3, k4, k5, k6⟩
    · exact Or.inl q
    · refine Or.inr ⟨k, k0, k1, k2, k3, k4, k5, fun c => ?_⟩
      by_cases e2 : k = i
      · subst e2
        have fk := h1.2.2.2.2 k k0 k1
        have := h4 (to' k) fk.2.2.1 fk.2.2.2.1
        rcases hs with q | q <;> omega
      · exact k6 (by omega)
  · by_cases e2 : k = i
    · subst e2; exact fun r0 => hs.elim (fun z => by omega) id
    · exact h8 r k a (by omega)
theorem fni_set {n a : Int} {fr to' rm gn pl pl' : Int → Int} {t i i' rd rd' p x : Int} (h : FNI n a fr to' rm gn pl t i rd) (hp : st1 pl pl' p x) (ep : p = to' i) (ex : x = pl (fr i) + gn i) (hr : 0 < rm i) (hu : pl (to' i) < pl (fr i) + gn i) (hia : i < a) (hi : i' = i + 1) (hrd : rd' = 1) : FNI n a fr to' rm gn pl' t i' rd' := by
  obtain ⟨h1, h2, h0, ps, h3, h4, ⟨e, h5, h6, h7⟩, h8⟩ := h
  subst hi ep
  have fi := h1.2.2.2.2 i h0 hia
  have hF := h3.1 i h0 hia hr
  have hf := h4 (fr i) fi.1 fi.2.1
  have ht := h4 (to' i) fi.2.2.1 fi.2.2.2.1
  have pT : pl' (to' i) = pl (fr i) + gn i := by rw [(hp _ fi.2.2.1).1 rfl, ex]
  have pN : ∀ v, 0 ≤ v → v ≠ to' i → pl' v = pl v := fun v a b => (hp v a).2 b
  have keep : ∀ v, 0 ≤ v → v < n → pl v = ps v → pl' v = ps v := fun v v0 v1 e2 => by
    by_cases e3 : v = to' i
    · subst e3; omega
    · rw [pN v v0 e3]; exact e2
  refine ⟨h1, h2, by omega, ps, h3, fun v v0 v1 => ?_, ⟨e, fun j hj => ⟨(h5 j hj).1, (h5 j hj).2.1, keep _ (h5 j hj).1 (h5 j hj).2.1 (h5 j hj).2.2⟩, h6, ?_⟩, fun c => by omega⟩
  · by_cases e3 : v = to' i
    · subst e3; rw [pT]; omega
    · rw [pN v v0 e3]; exact h4 v v0 v1
  · right
    rcases h7 with ⟨q1, q2⟩ | ⟨k, k0, k1, k2, k3, k4, k5, k6⟩
    · exfalso
      have := q2 (to' i) fi.2.2.1 fi.2.2.2.1
      omega
    · have fk := h1.2.2.2.2 k k0 k1
      refine ⟨k, k0, k1, k2, keep _ fk.1 fk.2.1 k3, k4, k5, fun c => ?_⟩
      by_cases e2 : k = i
      · subst e2; rw [pT, k3]; omega
      · exact keep _ fk.2.2.1 fk.2.2.2.1 (k6 (by omega))
theorem fni_end {n a : Int} {fr to' rm gn pl : Int → Int} {t i rd an : Int} (h : FNI n a fr to' rm gn pl t i rd) (hi : a ≤ i) (e : an = rd) : FNQ n a fr to' rm gn pl t an := by
  obtain ⟨h1, h2, h0, ps, h3, h4, ⟨e', h5, h6, h7⟩, h8⟩ := h
  subst e
  refine ⟨fun c => ?_, fun c => ?_⟩
  · have hF : FEA a fr to' rm gn pl := fun k k0 k1 => h8 c k k0 (by omega)
    have hl := h3.2.2 pl hF (fun v v0 v1 => (h4 v v0 v1).1)
    refine ⟨hF, fun v v0 v1 => (h4 v v0 v1).1, fun q d1 d2 v v0 v1 => ?_⟩
    have := h3.2.2 q d1 d2 v v0 v1
    have := h4 v v0 v1
    omega
  · rcases h7 with ⟨q1, _⟩ | ⟨k, k0, k1, k2, k3, k4, k5, k6⟩
    · exact absurd q1 c
    · have fk := h1.2.2.2.2 k k0 k1
      refine ⟨h1, by omega, ps, h3, h4, fun j => if (j : Int) = t then to' k else e' j, fun j hj => ?_, fun p q pq hq => ?_⟩
      · show 0 ≤ (if (j : Int) = t then to' k else e' j) ∧ _
        by_cases e2 : (j : Int) = t
        · simp only [if_pos e2]
          exact ⟨fk.2.2.1, fk.2.2.2.1, k6 (by omega)⟩
        · simp only [if_neg e2]
          exact h5 j (by omega)
      · have p1 : ¬ (p : Int) = t := by omega
        simp only [if_neg p1]
        by_cases e2 : (q : Int) = t
        · simp only [if_pos e2]
          exact k5 p (by omega)
        · simp only [if_neg e2]
          exact h6 p q pq (by omega)
theorem fnl_few {n a : Int} {fr to' rm gn pl : Int → Int} {t : Int} (h : FNL n a fr to' rm gn pl t) : t ≤ n := by
  obtain ⟨h1, h2, ps, h3, h4, e, h5, h6⟩ := h
  have := inj_le (n := n) (f := e) (N := t.toNat) h1.1 (fun i hi => ⟨(h5 i (by omega)).1, (h5 i (by omega)).2.1⟩) (fun i j ij hj => h6 i j ij (by omega))
  omega
theorem fnl_start {n a : Int} {fr to' rm gn pl q : Int → Int} {t : Int} (hw : NWL n a fr to' gn) (h : FEA a fr to' rm gn q) (h0 : ∀ v, 0 ≤ v → v < n → 0 ≤ q v) (hz : ∀ v, 0 ≤ v → v < n → pl v = 0) (ht : t = 0) : FNL n a fr to' rm gn pl t := by
  obtain ⟨ps, hps⟩ := lea_ex hw h h0
  exact ⟨hw, by omega, ps, hps, fun v a b => by rw [hz v a b]; exact ⟨by omega, hps.2.1 v a b⟩, fun _ => 0, fun i hi => by omega, fun i j _ hj => by omega⟩
/-- all places are low: no sum wraps -/
theorem fni_low {n a : Int} {fr to' rm gn pl : Int → Int} {t i rd v : Int} (h : FNI n a fr to' rm gn pl t i rd) (v0 : 0 ≤ v) (v1 : v < n) : 0 ≤ pl v ∧ pl v ≤ 23 := by
  obtain ⟨h1, h2, h0, ps, h3, h4, _⟩ := h
  have := lea_full h1 h3 v0 v1
  have := h4 v v0 v1
  have := h1.2.1
  omega
