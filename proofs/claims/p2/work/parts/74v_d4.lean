/-! draws: its loops -/
def inE (m : Int) (al bl : Int → Int) (b e f : Int) : Prop := inB m al bl b f ∧ e < f
def D0 (m : Int) (al bl : Int → Int) (b l c e : Int) : Prop := ((c = 0 ∧ l = -1 ∧ ∀ f, ¬ inE m al bl b e f) ∨ (c = 1 ∧ inE m al bl b e l ∧ ∀ f, inE m al bl b e f → f = l) ∨ (2 ≤ c ∧ inE m al bl b e l ∧ ∃ f, inE m al bl b e f ∧ f ≠ l)) ∧ c + e + 1 ≤ m
def D0e (m : Int) (al bl : Int → Int) (b l c : Int) : Prop := D0 m al bl b l c (-1)
theorem d0_skip {m : Int} {al bl : Int → Int} {b l c e e' : Int} (h : D0 m al bl b l c e) (he : e' = e - 1) (hn : al e ≠ 1 ∨ bl e ≠ b) : D0 m al bl b l c e' := by
  have iff : ∀ f, inE m al bl b e' f ↔ inE m al bl b e f := fun f => ⟨fun z => ⟨z.1, by
    have h1 := z.2
    by_cases q : f = e
    · exfalso; rw [q] at z; rcases hn with w | w
      · exact w z.1.2.2.1
      · exact w z.1.2.2.2
    · omega⟩, fun z => ⟨z.1, by have := z.2; omega⟩⟩
  refine ⟨?_, by have := h.2; omega⟩
  rcases h.1 with ⟨a, x, y⟩ | ⟨a, x, y⟩ | ⟨a, x, f, y, z⟩
  · exact Or.inl ⟨a, x, fun f z => y f ((iff f).mp z)⟩
  · exact Or.inr (Or.inl ⟨a, (iff l).mpr x, fun f z => y f ((iff f).mp z)⟩)
  · exact Or.inr (Or.inr ⟨a, (iff l).mpr x, f, (iff f).mpr y, z⟩)
theorem d0_take {m : Int} {al bl : Int → Int} {b l c e e' c' : Int} (h : D0 m al bl b l c e) (he : e' = e - 1) (e0 : 0 ≤ e) (e1 : e < m) (h1 : al e = 1) (h2 : bl e = b) (hc : c' = c + 1) : D0 m al bl b e c' e' := by
  have me : inE m al bl b e' e := ⟨⟨e0, e1, h1, h2⟩, by omega⟩
  have up : ∀ f, inE m al bl b e f → inE m al bl b e' f := fun f z => ⟨z.1, by have := z.2; omega⟩
  have dn : ∀ f, inE m al bl b e' f → f ≠ e → inE m al bl b e f := fun f z q => ⟨z.1, by have := z.2; omega⟩
  refine ⟨?_, by have := h.2; omega⟩
  rcases h.1 with ⟨a, x, y⟩ | ⟨a, x, y⟩ | ⟨a, x, f, y, z⟩
  · exact Or.inr (Or.inl ⟨by omega, me, fun f z => Classical.byContradiction (fun q => y f (dn f z q))⟩)
  · exact Or.inr (Or.inr ⟨by omega, me, l, up l x, by have := x.2; omega⟩)
  · exact Or.inr (Or.inr ⟨by omega, me, l, up l x, by have := x.2; omega⟩)
def D1 (dn : Int → Int) (i : Int) : Prop := ∀ u, 0 ≤ u → u < i → dn u = 0
def D1n (n : Int) (dn : Int → Int) : Prop := D1 dn n
def D3 (al bl dE : Int → Int) (b i : Int) : Prop := ∀ e, 0 ≤ e → e < i → (dE e = 0 ↔ (al e = 1 ∧ bl e = b))
theorem rg0_of {n m : Int} {pt ph al bl dE dE' : Int → Int} {b l c i k v : Int} {many : Int} (hg : GOK n m pt ph) (hB : BK m pt ph al bl many) (b0 : 0 ≤ b) (b1 : b < many) (h0 : D0e m al bl b l c) (h3 : D3 al bl dE b i) (hi : m ≤ i) (hc : c ≠ 1) (hs : st1 dE dE' k v) (hk : k = l) (hv : v ≠ 0) : RG0 n m pt ph al bl dE' b l := by
  subst hk
  rcases h0.1 with ⟨a, x, y⟩ | ⟨a, x, y⟩ | ⟨a, x, f, y, z⟩
  · exfalso
    obtain ⟨e, e0, e1, e2, e3⟩ := hB.2.2.2 b b0 b1
    exact y e ⟨⟨e0, e1, e2, e3⟩, by omega⟩
  · exact absurd a hc
  · refine ⟨hg, hB.1, fun e e0 e1 => ?_, x.1, f, y.1, z⟩
    by_cases q : e = k
    · have := (hs e e0).1 q
      exact ⟨fun w => absurd (this.symm.trans w) hv, fun w => absurd q w.2.2⟩
    · rw [(hs e e0).2 q, h3 e e0 (by omega)]
      exact ⟨fun w => ⟨w.1, w.2, q⟩, fun w => ⟨w.1, w.2.1⟩⟩
theorem d0_l {n m : Int} {pt ph al bl : Int → Int} {b l c many : Int} (hB : BK m pt ph al bl many) (b0 : 0 ≤ b) (b1 : b < many) (h0 : D0e m al bl b l c) : 0 ≤ l ∧ l < m := by
  rcases h0.1 with ⟨a, x, y⟩ | ⟨a, x, y⟩ | ⟨a, x, f, y, z⟩
  · exfalso
    obtain ⟨e, e0, e1, e2, e3⟩ := hB.2.2.2 b b0 b1
    exact y e ⟨⟨e0, e1, e2, e3⟩, by omega⟩
  · exact ⟨x.1.1, x.1.2.1⟩
  · exact ⟨x.1.1, x.1.2.1⟩
theorem rg0_ua {n m : Int} {pt ph al bl dE : Int → Int} {b l : Int} (h : RG0 n m pt ph al bl dE b l) : UA m al dE := fun e e0 e1 z => ((h.2.2.1 e e0 e1).mp z).1
def RGS (n m wm : Int) (pt ph al bl dE dn way : Int → Int) (b l : Int) : Prop := RG0 n m pt ph al bl dE b l ∧ D1 dn n ∧ ∃ po, WAY n m (-1) pt ph al dE po dn way (ph l) (pt l) 0 wm ∧ 3 ≤ wm
theorem rgs_of {n m wm only : Int} {pt ph al bl dE po dn way : Int → Int} {b l x y z : Int} (h : RG0 n m pt ph al bl dE b l) (hd : D1n n dn) (hs : SHP n m only wm pt ph al dE po dn way x y z) (hx : x = ph l) (hy : y = pt l) (hz : z = 0) (ho : only = -1) : RGS n m wm pt ph al bl dE dn way b l := by
  subst hx; subst hy; subst hz; subst ho
  exact ⟨h, hd, po, ring_way h hs⟩
theorem rgs_bd {n m wm : Int} {pt ph al bl dE dn way : Int → Int} {b l : Int} (h : RGS n m wm pt ph al bl dE dn way b l) : 3 ≤ wm ∧ wm ≤ n ∧ 0 ≤ l ∧ l < m := by
  obtain ⟨h1, _, po, h2, h3⟩ := h
  exact ⟨h3, h2.2.1, h1.2.2.2.1.1, h1.2.2.2.1.2.1⟩
def R1 (n m wm : Int) (pt ph al bl dE dn way fm face : Int → Int) (b l k : Int) : Prop := RGS n m wm pt ph al bl dE dn way b l ∧ fm 0 = wm ∧ fm 1 = wm ∧ face 0 = pt l ∧ (∀ j, 0 ≤ j → j < k → face (j + 1) = way j) ∧ k ≤ wm - 1
def R2 (n m wm : Int) (pt ph al bl dE dn way fm face : Int → Int) (b l k : Int) : Prop := R1 n m wm pt ph al bl dE dn way fm face b l (wm - 1) ∧ face 60 = pt l ∧ ∀ j, 1 ≤ j → j < k → face (60 + j) = way (wm - 1 - j)
theorem r1_next {n m wm : Int} {pt ph al bl dE dn way fm face face' : Int → Int} {b l k k' i v : Int} (h : R1 n m wm pt ph al bl dE dn way fm face b l k) (hs : st1 face face' i v) (hi : i = k + 1) (k0 : 0 ≤ k) (k1 : k + 1 < wm) (hv : v = way k) (hk : k' = k + 1) : R1 n m wm pt ph al bl dE dn way fm face' b l k' := by
  obtain ⟨h1, h2, h3, h4, h5, h6⟩ := h
  refine ⟨h1, h2, h3, by rw [(hs 0 (by omega)).2 (by omega)]; exact h4, fun j j0 j1 => ?_, by omega⟩
  by_cases q : j = k
  · rw [(hs (j + 1) (by omega)).1 (by omega), hv, q]
  · rw [(hs (j + 1) (by omega)).2 (by omega)]; exact h5 j j0 (by omega)
theorem r2_of {n m wm : Int} {pt ph al bl dE dn way fm face face' : Int → Int} {b l k k' i v : Int} (h : R1 n m wm pt ph al bl dE dn way fm face b l k) (hk : wm ≤ k + 1) (hn : n ≤ 60) (hs : st1 face face' i v) (hi : i = 60) (hv : v = pt l) (hk' : k' = 1) : R2 n m wm pt ph al bl dE dn way fm face' b l k' := by
  have hb := rgs_bd h.1
  obtain ⟨h1, h2, h3, h4, h5, h6⟩ := h
  refine ⟨⟨h1, h2, h3, by rw [(hs 0 (by omega)).2 (by omega)]; exact h4, fun j j0 j1 => ?_, by omega⟩, by rw [(hs 60 (by omega)).1 (by omega), hv], fun j j0 j1 => by omega⟩
  rw [(hs (j + 1) (by omega)).2 (by omega)]; exact h5 j j0 (by omega)
theorem r2_next {n m wm : Int} {pt ph al bl dE dn way fm face face' : Int → Int} {b l k k' i v q : Int} (h : R2 n m wm pt ph al bl dE dn way fm face b l k) (hn : n ≤ 60) (hs : st1 face face' i v) (hi : i = 60 + k) (k0 : 1 ≤ k) (k1 : k < wm) (hv : v = face q) (hq : q = wm - k) (hk : k' = k + 1) : R2 n m wm pt ph al bl dE dn way fm face' b l k' := by
  have hb := rgs_bd h.1.1
  obtain ⟨⟨h1, h2, h3, h4, h5, h6⟩, h7, h8⟩ := h
  refine ⟨⟨h1, h2, h3, by rw [(hs 0 (by omega)).2 (by omega)]; exact h4, fun j j0 j1 => ?_, by omega⟩, by rw [(hs 60 (by omega)).2 (by omega)]; exact h7, fun j j0 j1 => ?_⟩
  · rw [(hs (j + 1) (by omega)).2 (by omega)]; exact h5 j j0 (by omega)
  · by_cases z : j = k
    · rw [(hs (60 + j) (by omega)).1 (by omega), hv, hq, show wm - k = wm - 1 - j + 1 by omega]; exact h5 (wm - 1 - j) (by omega) (by omega)
    · rw [(hs (60 + j) (by omega)).2 (by omega)]; exact h8 j j0 (by omega)
theorem r2_dwp {n m wm faces : Int} {pt ph al bl dE dn way fm face : Int → Int} {b l k : Int} (h : R2 n m wm pt ph al bl dE dn way fm face b l k) (hk : wm ≤ k) (hn : n ≤ 60) (hm : 0 ≤ m) (hm1 : m ≤ 80) (hf : faces = 2) : DWP n m faces wm pt ph al bl dE dn fm face way b := by
  have hb := rgs_bd h.1.1
  obtain ⟨⟨⟨⟨hg, hB, hd, hl, f, hf1, hf2⟩, hdn, po, ⟨w1, w2, w3, w4, w5, w6, w7, w8⟩, wm3⟩, h2, h3, h4, h5, h6⟩, h7, h8⟩ := h
  obtain ⟨l0, l1, l2, l3⟩ := hl
  subst hf
  have r := hg.1 l l0 l1
  have eA : dA m pt ph al bl dE b = (fun u v => (u = pt l ∧ v = ph l) ∨ (u = ph l ∧ v = pt l)) := by
    funext u v
    apply propext
    constructor
    · rintro ⟨e, je, eb, ed⟩
      have : e = l := Classical.byContradiction (fun q => ed ((hd e je.1 je.2.1).mpr ⟨je.2.2.1, eb, q⟩))
      subst this
      rcases je.2.2.2 with ⟨x, y⟩ | ⟨x, y⟩
      · exact Or.inl ⟨x.symm, y.symm⟩
      · exact Or.inr ⟨y.symm, x.symm⟩
    · rintro (⟨x, y⟩ | ⟨x, y⟩)
      · exact ⟨l, ⟨l0, l1, l2, Or.inl ⟨x.symm, y.symm⟩⟩, l3, fun z => ((hd l l0 l1).mp z).2.2 rfl⟩
      · exact ⟨l, ⟨l0, l1, l2, Or.inr ⟨y.symm, x.symm⟩⟩, l3, fun z => ((hd l l0 l1).mp z).2.2 rfl⟩
  refine ⟨hg, fun e e0 e1 z => ⟨((hd e e0 e1).mp z).1, ((hd e e0 e1).mp z).2.1⟩, fun e e0 e1 ha hb' hz => ?_, by omega, w2, w5, fun k k0 k1 => ?_, ⟨?_, by omega, ?_⟩⟩
  · have : e = l := Classical.byContradiction (fun q => hz ((hd e e0 e1).mpr ⟨ha, hb', q⟩))
    subst this
    exact ⟨Or.inr ⟨wm - 1, by omega, by omega, w4⟩, Or.inr ⟨0, by omega, by omega, w3⟩⟩
  · obtain ⟨e, je, he⟩ := w7 k k0 k1
    exact ⟨e, je, he.1⟩
  · rw [eA]
    refine ring_fix r.2.2.2.2 wm3 w3 w4 w6 h2 h3 ?_ ?_ ?_
    · show face (60 * 0 + 0) = pt l; rw [show (60 : Int) * 0 + 0 = 0 by omega]; exact h4
    · intro j j0 j1
      show face (60 * 0 + j) = way (j - 1)
      rw [show (60 : Int) * 0 + j = j - 1 + 1 by omega]; exact h5 (j - 1) (by omega) (by omega)
    · intro j j0 j1
      show face (60 * 1 + j) = way (wm - 1 - j)
      by_cases q : j = 0
      · rw [q, show (60 : Int) * 1 + 0 = 60 by omega, h7, show wm - 1 - 0 = wm - 1 by omega, w4]
      · rw [show (60 : Int) * 1 + j = 60 + j by omega]; exact h8 j (by omega) (by omega)
  · have := czb dE hm; omega
