/-! drawWay, missing -/
def onw (way : Int → Int) (k u : Int) : Prop := ∃ j, 0 ≤ j ∧ j < k ∧ way j = u
def DWP (n m faces wm : Int) (pt ph al bl dE dn fm face way : Int → Int) (b : Int) : Prop := GOK n m pt ph ∧ (∀ e, 0 ≤ e → e < m → dE e = 0 → al e = 1 ∧ bl e = b) ∧ (∀ e, 0 ≤ e → e < m → al e = 1 → bl e = b → dE e ≠ 0 → (dn (pt e) ≠ 0 ∨ onw way wm (pt e)) ∧ (dn (ph e) ≠ 0 ∨ onw way wm (ph e))) ∧ 2 ≤ wm ∧ wm ≤ n ∧ (∀ k, 0 ≤ k → k < wm → 0 ≤ way k ∧ way k < n) ∧ (∀ k, 0 ≤ k → k + 1 < wm → ∃ e, JJ m pt ph al e (way k) (way (k + 1)) ∧ dE e = 0) ∧ SPQ m faces wm pt ph al bl dE fm face way b
def DWI (n m faces wm : Int) (pt ph al bl dE dn fm face way : Int → Int) (b k : Int) : Prop := ∃ dE0 dn0, DWP n m faces wm pt ph al bl dE0 dn0 fm face way b ∧ (∀ u, 0 ≤ u → (dn u ≠ 0 ↔ dn0 u ≠ 0 ∨ onw way k u)) ∧ (∀ e, 0 ≤ e → e < m → (dE e ≠ 0 ↔ dE0 e ≠ 0 ∨ ∃ j, 0 < j ∧ j < k ∧ JJ m pt ph al e (way (j - 1)) (way j))) ∧ k ≤ wm
def DWQ (m faces : Int) (pt ph al bl dE dn fm face : Int → Int) (b : Int) : Prop := DSB m pt ph al bl dE dn b ∧ FI m faces pt ph al bl dE fm face b ∧ czf faces m dE
theorem dwi_start {n m faces wm : Int} {pt ph al bl dE dn fm face way : Int → Int} {b k : Int} (h : DWP n m faces wm pt ph al bl dE dn fm face way b) (hk : k = 0) : DWI n m faces wm pt ph al bl dE dn fm face way b k := by
  have := h.2.2.2.1
  exact ⟨dE, dn, h, fun u _ => ⟨Or.inl, fun z => z.elim id (fun ⟨j, j0, j1, _⟩ => by omega)⟩, fun e _ _ => ⟨Or.inl, fun z => z.elim id (fun ⟨j, j0, j1, _⟩ => by omega)⟩, by omega⟩
theorem dwi_way {n m faces wm : Int} {pt ph al bl dE dn fm face way : Int → Int} {b k : Int} (h : DWI n m faces wm pt ph al bl dE dn fm face way b k) {j : Int} (j0 : 0 < j) (j1 : j < wm) : ∃ e, JJ m pt ph al e (way (j - 1)) (way j) := by
  obtain ⟨dE0, dn0, h, _⟩ := h
  obtain ⟨e, he, _⟩ := h.2.2.2.2.2.2.1 (j - 1) (by omega) (by omega)
  rw [show j - 1 + 1 = j by omega] at he
  exact ⟨e, he⟩
theorem dwi_next {n m faces wm : Int} {pt ph al bl dE dn dE' dn' fm face way : Int → Int} {b k k' : Int} (h : DWI n m faces wm pt ph al bl dE dn fm face way b k) (k0 : 0 ≤ k) (k1 : k < wm) (hk : k' = k + 1) (hn : ∀ u, 0 ≤ u → (dn' u ≠ 0 ↔ dn u ≠ 0 ∨ way k = u)) (he : ∀ e, 0 ≤ e → e < m → (dE' e ≠ 0 ↔ dE e ≠ 0 ∨ (0 < k ∧ JJ m pt ph al e (way (k - 1)) (way k)))) : DWI n m faces wm pt ph al bl dE' dn' fm face way b k' := by
  obtain ⟨dE0, dn0, h1, h2, h3, h4⟩ := h
  subst hk
  refine ⟨dE0, dn0, h1, fun u u0 => ?_, fun e e0 e1 => ?_, by omega⟩
  · rw [hn u u0, h2 u u0]
    constructor
    · rintro ((z | ⟨j, j0, j1, j2⟩) | z)
      · exact Or.inl z
      · exact Or.inr ⟨j, j0, by omega, j2⟩
      · exact Or.inr ⟨k, k0, by omega, z⟩
    · rintro (z | ⟨j, j0, j1, j2⟩)
      · exact Or.inl (Or.inl z)
      · by_cases q : j = k
        · exact Or.inr (q ▸ j2)
        · exact Or.inl (Or.inr ⟨j, j0, by omega, j2⟩)
  · rw [he e e0 e1, h3 e e0 e1]
    constructor
    · rintro ((z | ⟨j, j0, j1, j2⟩) | ⟨z, w⟩)
      · exact Or.inl z
      · exact Or.inr ⟨j, j0, by omega, j2⟩
      · exact Or.inr ⟨k, z, by omega, w⟩
    · rintro (z | ⟨j, j0, j1, j2⟩)
      · exact Or.inl (Or.inl z)
      · by_cases q : j = k
        · exact Or.inr ⟨by omega, q ▸ j2⟩
        · exact Or.inl (Or.inr ⟨j, j0, by omega, j2⟩)
theorem dwi_end {n m faces wm : Int} {pt ph al bl dE dn fm face way : Int → Int} {b k : Int} (h : DWI n m faces wm pt ph al bl dE dn fm face way b k) (hk : wm ≤ k) : DWQ m faces pt ph al bl dE dn fm face b := by
  obtain ⟨dE0, dn0, ⟨hg, p1, p2, p3, p4, p5, p6, ⟨nx, ρ, p7⟩, p7a, p7b⟩, h2, h3, h4⟩ := h
  have hkw : k = wm := by omega
  subst hkw
  have e : piA (dA m pt ph al bl dE0 b) way (k - 2) = dA m pt ph al bl dE b := by
    funext u v
    apply propext
    constructor
    · rintro (⟨e, j, hb, hd⟩ | ⟨i, i0, i1, hi⟩)
      · exact ⟨e, j, hb, (h3 e j.1 j.2.1).mpr (Or.inl hd)⟩
      · obtain ⟨e, j, hd⟩ := p6 i i0 (by omega)
        have hj : JJ m pt ph al e u v := by
          rcases hi with ⟨z1, z2⟩ | ⟨z1, z2⟩
          · rw [z1, z2]; exact j
          · rw [z1, z2]; exact JJ_sym _ _ _ j
        refine ⟨e, hj, (p1 e j.1 j.2.1 hd).2, (h3 e j.1 j.2.1).mpr (Or.inr ⟨i + 1, by omega, by omega, ?_⟩)⟩
        rw [show i + 1 - 1 = i by omega]; exact j
    · rintro ⟨e, j, hb, hd⟩
      rcases (h3 e j.1 j.2.1).mp hd with z | ⟨i, i0, i1, i2⟩
      · exact Or.inl ⟨e, j, hb, z⟩
      · refine Or.inr ⟨i - 1, by omega, by omega, ?_⟩
        rw [show i - 1 + 1 = i by omega]
        exact JJ_uni e _ _ _ _ i2 j
  refine ⟨⟨fun e e0 e1 he => ?_, fun e e0 e1 ha hb hd => ?_, ?_⟩, ⟨nx, ρ, e ▸ p7⟩, ?_⟩
  · exact p1 e e0 e1 (Classical.byContradiction (fun z => (h3 e e0 e1).mpr (Or.inl z) he))
  · have r := hg.1 e e0 e1
    rcases (h3 e e0 e1).mp hd with z | ⟨i, i0, i1, i2⟩
    · have := p2 e e0 e1 ha hb z
      exact ⟨(h2 _ r.1).mpr this.1, (h2 _ r.2.2.1).mpr this.2⟩
    · have z : onw way k (pt e) ∧ onw way k (ph e) := by
        rcases i2.2.2.2 with ⟨a, c⟩ | ⟨a, c⟩
        · exact ⟨⟨i - 1, by omega, by omega, a.symm⟩, ⟨i, by omega, by omega, c.symm⟩⟩
        · exact ⟨⟨i, by omega, by omega, a.symm⟩, ⟨i - 1, by omega, by omega, c.symm⟩⟩
      exact ⟨(h2 _ r.1).mpr (Or.inr z.1), (h2 _ r.2.2.1).mpr (Or.inr z.2)⟩
  · obtain ⟨e, j, hd⟩ := p6 0 (by omega) (by omega)
    exact ⟨e, j.1, j.2.1, j.2.2.1, (p1 e j.1 j.2.1 hd).2, (h3 e j.1 j.2.1).mpr (Or.inr ⟨1, by omega, by omega, by rw [show (1 : Int) - 1 = 0 by omega]; exact j⟩)⟩
  · obtain ⟨e, j, hd⟩ := p6 0 (by omega) (by omega)
    have := czlt (f := dE) (g := dE0) j.1 j.2.1 (fun i i0 i1 z => Classical.byContradiction (fun w => (h3 i i0 i1).mpr (Or.inl w) z)) hd ((h3 e j.1 j.2.1).mpr (Or.inr ⟨1, by omega, by omega, by rw [show (1 : Int) - 1 = 0 by omega]; exact j⟩))
    exact ⟨by omega, by omega⟩
def MIS (m : Int) (dE : Int → Int) (r : Int) : Prop := (r = 0 → ∀ e, 0 ≤ e → e < m → dE e ≠ 0) ∧ (r ≠ 0 → ∃ e, 0 ≤ e ∧ e < m ∧ dE e = 0)
def MIL (dE : Int → Int) (i : Int) : Prop := ∀ e, 0 ≤ e → e < i → dE e ≠ 0
