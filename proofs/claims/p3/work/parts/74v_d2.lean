section
/-! drawWay, missing -/
def onw (way : Int → Int) (k u : Int) : Prop := ∃ j, 0 ≤ j ∧ j < k ∧ way j = u
def DWP (n m faces wm : Int) (pt ph al bl dE dn fm face way : Int → Int) (b : Int) : Prop := GOK n m pt ph ∧ (∀ e, 0 ≤ e → e < m → dE e = 0 → al e = 1 ∧ bl e = b) ∧ (∀ e, 0 ≤ e → e < m → al e = 1 → bl e = b → dE e ≠ 0 → (dn (pt e) ≠ 0 ∨ onw way wm (pt e)) ∧ (dn (ph e) ≠ 0 ∨ onw way wm (ph e))) ∧ 2 ≤ wm ∧ wm ≤ n ∧ (∀ k, 0 ≤ k → k < wm → 0 ≤ way k ∧ way k < n) ∧ (∀ k, 0 ≤ k → k + 1 < wm → ∃ e, JJ m pt ph al e (way k) (way (k + 1)) ∧ dE e = 0) ∧ SPQ m faces wm pt ph al bl dE fm face way b
def DWI (n m faces wm : Int) (pt ph al bl dE dn fm face way : Int → Int) (b k : Int) : Prop := ∃ dE0 dn0, DWP n m faces wm pt ph al bl dE0 dn0 fm face way b ∧ (∀ u, 0 ≤ u → (dn u ≠ 0 ↔ dn0 u ≠ 0 ∨ onw way k u)) ∧ (∀ e, 0 ≤ e → e < m → (dE e ≠ 0 ↔ dE0 e ≠ 0 ∨ ∃ j, 0 < j ∧ j < k ∧ JJ m pt ph al e (way (j - 1)) (way j))) ∧ k ≤ wm
def DWQ (m faces : Int) (pt ph al bl dE dn fm face : Int → Int) (b : Int) : Prop := DSB m pt ph al bl dE dn b ∧ FI m faces pt ph al bl dE fm face b ∧ czf faces m dE
theorem dwi_start {n m faces wm : Int} {pt ph al bl dE dn fm face way : Int → Int} {b k : Int} (h : DWP n m faces wm pt ph al bl dE dn fm face way b) (hk : k = 0) : DWI n m faces wm pt ph al bl dE dn fm face way b k := by
  have := h.2.2.2.1
  exact ⟨dE, dn, h, fun u _ => ⟨Or.inl, fun z => z.elim id (fun ⟨j, j0, j1, _⟩ => by omega)⟩, fun e _ _ => ⟨Or.inl, fun z => z.elim id (fun ⟨j, j0, j1, _⟩ => by omega)⟩, by omega⟩
theorem dwi_way {n m faces wm : Int} {pt ph al bl dE dn fm face way : Int → Int} {b k : Int} (h : DWI n m faces wm pt ph al bl dE dn fm face way b k) {j : Int} (j0 : 0 < j) (j1 : j < wm) : ∃ e, JJ m pt ph al e (way (j - 1)) (way j) := by
  obtain ⟨dE0, dn0, h, _⟩ := h
  obtain ⟨e, he, _⟩ := h.2.2.2.2.2.2.1 (j - 1) (by omega) (by omega)
  rw [show j - 1 + 1 = j by omega] at he
  exact ⟨e, he⟩
theorem dwi_next {n m faces wm : Int} {pt ph al bl dE dn dE_zq dn_zq fm face way : Int → Int} {b k k_zq : Int} (h : DWI n m faces wm pt ph al bl dE dn fm face way b k) (k0 : 0 ≤ k) (k1 : k < wm) (hk : k_zq = k + 1) (hn : ∀ u, 0 ≤ u → (dn_zq u ≠ 0 ↔ dn u ≠ 0 ∨ way k = u)) (he : ∀ e, 0 ≤ e → e < m → (dE_zq e ≠ 0 ↔ dE e ≠ 0 ∨ (0 < k ∧ JJ m pt ph al e (way (k - 1)) (way k)))) : DWI n m faces wm pt ph al bl dE_zq dn_zq fm face way b k_zq := by
  obtain ⟨dE0, dn0, h1, h2, h3, h4⟩ := h
  subst hk
  refine ⟨dE0, dn0, h1, fun u u0 => ?_, fun e e0 e1 => ?_, by omega⟩
  · rw [hn u u0, h2 u u0]
    constructor
    · rintro ((z | ⟨j, j0, j1, j2⟩) | z)
      · exact Or.inl z
      · exact Or.inr ⟨j, j0, by omega, j2⟩
      · exact Or.inr ⟨k, k0, by omega, z⟩
    · rintro (z | ⟨j, j0, j1, j2⟩)
      · exact Or.inl (Or.inl z)
      · by_cases q : j = k
        · exact Or.inr (q ▸ j2)
        · exact Or.inl (Or.inr ⟨j, j0, by omega, j2⟩)
  · rw [he e e0 e1, h3 e e0 e1]
    constructor
    · rintro ((z | ⟨j, j0, j1, j2⟩) | ⟨z, w⟩)
      · exact Or.inl z
      · exact Or.inr ⟨j, j0, by omega, j2⟩
      · exact Or.inr ⟨k, z, by omega, w⟩
    · rintro (z | ⟨j, j0, j1, j2⟩)
      · exact Or.inl (Or.inl z)
      · by_cases q : j = k
        · exact Or.inr ⟨by omega, q ▸ j2⟩
        · exact Or.inl (Or.inr ⟨j, j0, by omega, j2⟩)
theorem dwi_end {n m faces wm : Int} {pt ph al bl dE dn fm face way : Int → Int} {b k : Int} (h : DWI n m faces wm pt ph al bl dE dn fm face way b k) (hk : wm ≤ k) : DWQ m faces pt ph al bl dE dn fm face b := by
  obtain ⟨dE0, dn0, ⟨hg, p1, p2, p3, p4, p5, p6, ⟨nx, ρ, p7⟩, p7a, p7b⟩, h2, h3, h4⟩ := h
  have hkw : k = wm := by omega
  subst hkw
  have e : piA (dA m pt ph al bl dE0 b) way (k - 2) = dA m pt ph al bl dE b := by
    funext u v
    apply propext
    constructor
    · rintro (⟨e, j, hb, hd⟩ | ⟨i, i0, i1, hi⟩)
      · exact ⟨e, j, hb, (h3 e j.1 j.2.1).mpr (Or.inl hd)⟩
      · obtain ⟨e, j, hd⟩ := p6 i i0 (by omega)
        have hj : JJ m pt ph al e u v := by
          rcases hi with ⟨z1, z2⟩ | ⟨z1, z2⟩
          · rw [z1, z2]; exact j
          · rw [z1, z2]; exact JJ_sym _ _ _ j
        refine ⟨e, hj, (p1 e j.1 j.2.1 hd).2, (h3 e j.1 j.2.1).mpr (Or.inr ⟨i + 1, by omega, by omega, ?_⟩)⟩
        rw [show i + 1 - 1 = i by omega]; exact j
    · rintro ⟨e, j, hb, hd⟩
      rcases (h3 e j.1 j.2.1).mp hd with z | ⟨i, i0, i1, i2⟩
      · exact Or.inl ⟨e, j, hb, z⟩
      · refine Or.inr ⟨i - 1, by omega, by omega, ?_⟩
        rw [show i - 1 + 1 = i by omega]
        exact JJ_uni e _ _ _ _ i2 j
  refine ⟨⟨fun e e0 e1 he => ?_, fun e e0 e1 ha hb hd => ?_, ?_⟩, ⟨nx, ρ, e ▸ p7⟩, ?_⟩
  · exact p1 e e0 e1 (Classical.byContradiction (fun z => (h3 e e0 e1).mpr (Or.inl z) he))
  · have r := hg.1 e e0 e1
    rcases (h3 e e0 e1).mp hd with z | ⟨i, i0, i1, i2⟩
    · have := p2 e e0 e1 ha hb z
      exact ⟨(h2 _ r.1).mpr this.1, (h2 _ r.2.2.1).mpr this.2⟩
    · have z : onw way k (pt e) ∧ onw way k (ph e) := by
        rcases i2.2.2.2 with ⟨a, c⟩ | ⟨a, c⟩
        · exact ⟨⟨i - 1, by omega, by omega, a.symm⟩, ⟨i, by omega, by omega, c.symm⟩⟩
        · exact ⟨⟨i, by omega, by omega, a.symm⟩, ⟨i - 1, by omega, by omega, c.symm⟩⟩
      exact ⟨(h2 _ r.1).mpr (Or.inr z.1), (h2 _ r.2.2.1).mpr (Or.inr z.2)⟩
  · obtain ⟨e, j, hd⟩ := p6 0 (by omega) (by omega)
    exact ⟨e, j.1, j.2.1, j.2.2.1, (p1 e j.1 j.2.1 hd).2, (h3 e j.1 j.2.1).mpr (Or.inr ⟨1, by omega, by omega, by rw [show (1 : Int) - 1 = 0 by omega]; exact j⟩)⟩
  · obtain ⟨e, j, hd⟩ := p6 0 (by omega) (by omega)
    have := czlt (f := dE) (g := dE0) j.1 j.2.1 (fun i i0 i1 z => Classical.byContradiction (fun w => (h3 i i0 i1).mpr (Or.inl w) z)) hd ((h3 e j.1 j.2.1).mpr (Or.inr ⟨1, by omega, by omega, by rw [show (1 : Int) - 1 = 0 by omega]; exact j⟩))
    exact ⟨by omega, by omega⟩
def MIS (m : Int) (dE : Int → Int) (r : Int) : Prop := (r = 0 → ∀ e, 0 ≤ e → e < m → dE e ≠ 0) ∧ (r ≠ 0 → ∃ e, 0 ≤ e ∧ e < m ∧ dE e = 0)
def MIL (dE : Int → Int) (i : Int) : Prop := ∀ e, 0 ≤ e → e < i → dE e ≠ 0
end
section
/-! draws: the first ring -/
def inB (m : Int) (al bl : Int → Int) (b e : Int) : Prop := 0 ≤ e ∧ e < m ∧ al e = 1 ∧ bl e = b
def RG0 (n m : Int) (pt ph al bl dE : Int → Int) (b l : Int) : Prop := GOK n m pt ph ∧ isBl (JJ m pt ph al) bl ∧ (∀ e, 0 ≤ e → e < m → (dE e = 0 ↔ (al e = 1 ∧ bl e = b ∧ e ≠ l))) ∧ inB m al bl b l ∧ ∃ f, inB m al bl b f ∧ f ≠ l
theorem ring_way {n m wm : Int} {pt ph al bl dE po dn way : Int → Int} {b l : Int} (h : RG0 n m pt ph al bl dE b l) (hs : SHP n m (-1) wm pt ph al dE po dn way (ph l) (pt l) 0) : WAY n m (-1) pt ph al dE po dn way (ph l) (pt l) 0 wm ∧ 3 ≤ wm := by
  obtain ⟨hg, hB, hd, ⟨l0, l1, l2, l3⟩, f, ⟨f0, f1, f2, f3⟩, hfl⟩ := h
  have jl : JJ m pt ph al l (pt l) (ph l) := ⟨l0, l1, l2, Or.inl ⟨rfl, rfl⟩⟩
  have r := hg.1 l l0 l1
  have hw : WAY n m (-1) pt ph al dE po dn way (ph l) (pt l) 0 wm := by
    rcases hs with ⟨_, L, x1, x2, x3⟩ | z
    · exfalso
      have hr := ring_lem JJ_sym JJ_uni (JJ_irr hg) hB jl ⟨pt f, ph f, f0, f1, f2, Or.inl ⟨rfl, rfl⟩⟩ hfl (by rw [l3, f3])
      have hr_zq := rc_symm (fun a b_zq ⟨g, g1, g2, g3⟩ => ⟨g, JJ_sym _ _ _ g1, g2, g3⟩) hr
      refine x2 (hr_zq L (fun a c ⟨g, g1, g2, g3⟩ La => ?_) x1)
      have rr := JJ_rng hg g1
      refine x3 c a rr.2.2.1 rr.2.2.2 rr.1 rr.2.1 ⟨g, g1.1, g1.2.1, ⟨(hd g g1.1 g1.2.1).mpr ⟨g1.2.2.1, g2.trans l3, g3⟩, Or.inl (by omega)⟩, g1.2.2.2.symm⟩ ⟨Or.inl rfl, Or.inl rfl⟩ La
    · exact z
  refine ⟨hw, ?_⟩
  obtain ⟨w1, w2, w3, w4, w5, w6, w7, w8⟩ := hw
  by_cases q1 : wm = 1
  · exfalso; rw [q1] at w4; rw [show (1 : Int) - 1 = 0 by omega, w3] at w4; exact r.2.2.2.2 w4.symm
  · by_cases q2 : wm = 2
    · exfalso
      obtain ⟨e, je, he⟩ := w7 0 (by omega) (by omega)
      rw [w3, show (0 : Int) + 1 = wm - 1 by omega, w4] at je
      have := JJ_one hg (JJ_sym _ _ _ je) jl
      exact ((hd e je.1 je.2.1).mp he.1).2.2 this
    · omega
theorem one_mp {t h : Int} (hth : t ≠ h) : mp (fun u v => (u = t ∧ v = h) ∨ (u = h ∧ v = t)) (fun u _ => u) := by
  refine ⟨⟨fun u v z => z.elim (fun z => Or.inr ⟨z.2, z.1⟩) (fun z => Or.inl ⟨z.2, z.1⟩), fun u v z e => ?_⟩, fun u v z => z.elim (fun z => Or.inr ⟨z.2, z.1⟩) (fun z => Or.inl ⟨z.2, z.1⟩), fun u u_zq v a b e => e, fun v L hL u u_zq a b hu => ?_⟩
  · rcases z with ⟨a, b⟩ | ⟨a, b⟩
    · exact hth (a.symm.trans (e.trans b))
    · exact hth (b.symm.trans (e.symm.trans a))
  · have : u = u_zq := by
      rcases a with ⟨a1, a2⟩ | ⟨a1, a2⟩ <;> rcases b with ⟨b1, b2⟩ | ⟨b1, b2⟩
      · rw [a1, b1]
      · exact absurd (b2.symm.trans a2) hth
      · exact absurd (a2.symm.trans b2) hth
      · rw [a1, b1]
    rw [← this]; exact hu
theorem one_pls {t h : Int} (hth : t ≠ h) : pls (fun u v => (u = t ∧ v = h) ∨ (u = h ∧ v = t)) (fun u _ => u) (fun w x y => decide (w = t) && eI t h x y) := by
  intro u v a
  refine ⟨fun _ _ => false, fun _ _ _ => rfl, fun x y _ => ?_⟩
  have hsy : eI h t x y = eI t h x y := by
    unfold eI
    by_cases q : (x = t ∧ y = h) ∨ (x = h ∧ y = t)
    · rw [decide_eq_true q, decide_eq_true q.symm]
    · rw [decide_eq_false q, decide_eq_false (fun z => q z.symm)]
  have ht : decide (t = t) = true := decide_eq_true rfl
  have hh : decide (h = t) = false := decide_eq_false (fun z => hth z.symm)
  rcases a with ⟨rfl, rfl⟩ | ⟨rfl, rfl⟩
  · show (false ^^ false) = (((decide (u = u) && eI u v x y) ^^ (decide (v = u) && eI u v x y)) ^^ eI u v x y)
    rw [ht, hh]; generalize eI u v x y = z; revert z; decide
  · show (false ^^ false) = (((decide (u = v) && eI v u x y) ^^ (decide (v = v) && eI v u x y)) ^^ eI u v x y)
    rw [ht, hh, hsy]; generalize eI v u x y = z; revert z; decide
/-- a ring and its two rows -/
theorem ring_fix {t h wm : Int} {way : Int → Int} {L : Int → Int} {R : Int → Int → Int} (hth : t ≠ h) (w3 : 3 ≤ wm) (w0 : way 0 = h) (wl : way (wm - 1) = t) (wd : ∀ i j, 0 ≤ i → i < j → j < wm → way i ≠ way j)
    (hL0 : L 0 = wm) (hL1 : L 1 = wm) (h00 : R 0 0 = t) (h0 : ∀ j, 1 ≤ j → j < wm → R 0 j = way (j - 1)) (h1 : ∀ j, 0 ≤ j → j < wm → R 1 j = way (wm - 1 - j)) :
    ∃ nx ρ, FIX (piA (fun u v => (u = t ∧ v = h) ∨ (u = h ∧ v = t)) way (wm - 2)) nx ρ 2 L R := by
  have inj : ∀ a c, 0 ≤ a → a < wm → 0 ≤ c → c < wm → way a = way c → a = c := fun a c a0 a1 c0 c1 e => by
    rcases Int.lt_trichotomy a c with q | q | q
    · exact absurd e (wd a c a0 q c1)
    · exact q
    · exact absurd e.symm (wd c a c0 q a1)
  have e2 : wm - 2 + 1 = wm - 1 := by omega
  obtain ⟨nx_zq, ρ', a1, a2, a3, a4, a5, a6, a7, a8⟩ := path_I (A := fun u v => (u = t ∧ v = h) ∨ (u = h ∧ v = t)) (nx := fun u _ => u) (ρ := fun w x y => decide (w = t) && eI t h x y) (p := t) (p_zq := h) (w := way) (r := fun i => if i = 0 then h else t) (B := 1) (K := wm - 2) (one_mp hth) (one_pls hth) (by omega) (by omega) (Or.inl ⟨rfl, rfl⟩) rfl
    (fun i i0 i1 => by have : i = 0 := by omega
                       subst this; exact Or.inr ⟨rfl, rfl⟩) (fun i i0 i1 => by omega) (fun i j i0 i1 i2 => by
      have x1 : i = 0 := by omega
      have x2 : j = 1 := by omega
      subst x1; subst x2; exact fun z => hth z.symm) w0 (by rw [e2]; exact wl) rfl
    (fun i i0 i1 u z => by
      rcases z with ⟨_, z⟩ | ⟨_, z⟩
      · exact wd 0 i (by omega) (by omega) (by omega) (w0.trans z.symm)
      · exact wd i (wm - 1) (by omega) (by omega) (by omega) (z.trans wl.symm))
    (fun i j i0 i1 i2 => wd i j i0 i1 (by omega)) (fun z => by omega)
  rw [e2] at a5 a7
  simp only [w0, wl] at a4 a5 a6 a7
  -- the rows
  have i0 : ∀ k, 0 ≤ k → k < wm → R 0 k = way (if k = 0 then wm - 1 else k - 1) := by
    intro k k0 k1
    by_cases q : k = 0
    · rw [if_pos q, q, h00, wl]
    · rw [if_neg q]; exact h0 k (by omega) k1
  have row0 : RW (piA (fun u v => (u = t ∧ v = h) ∨ (u = h ∧ v = t)) way (wm - 2)) nx_zq (L 0) (R 0) := by
    rw [hL0]
    refine ⟨w3, fun k k0 k1 => ?_, fun k l k0 k1 k2 e => ?_⟩
    · by_cases q : k = 0
      · subst q
        rw [nr_lt (by omega : (0 : Int) + 1 < wm), nr_lt (by omega : (0 : Int) + 1 + 1 < wm), h00, h0 (0 + 1) (by omega) (by omega), h0 (0 + 1 + 1) (by omega) (by omega), show (0 : Int) + 1 - 1 = 0 by omega, w0, show (0 : Int) + 1 + 1 - 1 = 1 by omega]
        exact ⟨Or.inl (Or.inl ⟨rfl, rfl⟩), a4⟩
      · rw [h0 k (by omega) k1]
        by_cases q2 : k + 1 = wm
        · rw [nr_eq q2, nr_lt (by omega : (0 : Int) + 1 < wm), h00, h0 (0 + 1) (by omega) (by omega), show (0 : Int) + 1 - 1 = 0 by omega, w0, show k - 1 = wm - 2 by omega]
          refine ⟨Or.inr ⟨wm - 2, by omega, by omega, Or.inl ⟨rfl, by rw [e2]; exact wl.symm⟩⟩, a7⟩
        · rw [nr_lt (by omega : k + 1 < wm), h0 (k + 1) (by omega) (by omega), show k + 1 - 1 = k - 1 + 1 by omega]
          have hv : R 0 (nr wm (k + 1)) = way (k - 1 + 2) := by
            by_cases q3 : k + 1 + 1 = wm
            · rw [nr_eq q3, h00, ← wl]; congr 1; omega
            · rw [nr_lt (by omega), h0 _ (by omega) (by omega)]; congr 1; omega
          rw [hv]
          exact ⟨Or.inr ⟨k - 1, by omega, by omega, Or.inl ⟨rfl, rfl⟩⟩, (a8 (k - 1) (by omega) (by omega)).1⟩
    · rw [i0 k k0 (by omega), i0 l (by omega) k2] at e
      have := inj _ _ (by split <;> omega) (by split <;> omega) (by split <;> omega) (by split <;> omega) e
      revert this; split <;> split <;> omega
  have row1 : RW (piA (fun u v => (u = t ∧ v = h) ∨ (u = h ∧ v = t)) way (wm - 2)) nx_zq (L 1) (R 1) := by
    rw [hL1]
    refine ⟨w3, fun k k0 k1 => ?_, fun k l k0 k1 k2 e => ?_⟩
    · rw [h1 k k0 k1]
      by_cases q : k + 1 = wm
      · rw [nr_eq q, nr_lt (by omega : (0 : Int) + 1 < wm), h1 0 (by omega) (by omega), h1 (0 + 1) (by omega) (by omega), show wm - 1 - k = 0 by omega, w0, show wm - 1 - 0 = wm - 1 by omega, wl, show wm - 1 - (0 + 1) = wm - 2 by omega]
        exact ⟨Or.inl (Or.inr ⟨rfl, rfl⟩), a5⟩
      · rw [nr_lt (by omega : k + 1 < wm), h1 (k + 1) (by omega) (by omega)]
        by_cases q2 : k + 1 + 1 = wm
        · rw [nr_eq q2, h1 0 (by omega) (by omega), show wm - 1 - k = 1 by omega, show wm - 1 - (k + 1) = 0 by omega, w0, show wm - 1 - 0 = wm - 1 by omega, wl]
          exact ⟨Or.inr ⟨0, by omega, by omega, Or.inr ⟨rfl, w0.symm⟩⟩, a6⟩
        · rw [nr_lt (by omega), h1 _ (by omega) (by omega)]
          have := (a8 (wm - 3 - k) (by omega) (by omega)).2
          rw [show wm - 1 - k = wm - 3 - k + 2 by omega, show wm - 1 - (k + 1) = wm - 3 - k + 1 by omega, show wm - 1 - (k + 1 + 1) = wm - 3 - k by omega]
          refine ⟨Or.inr ⟨wm - 3 - k + 1, by omega, by omega, Or.inr ⟨?_, rfl⟩⟩, this⟩
          rw [show wm - 3 - k + 1 + 1 = wm - 3 - k + 2 by omega]
    · rw [h1 k k0 (by omega), h1 l (by omega) k2] at e
      have := inj _ _ (by omega) (by omega) (by omega) (by omega) e
      omega
  refine ⟨nx_zq, ρ', a1, a2, fun f f0 f1 => ?_, fun u v hA => ?_, ?_⟩
  · by_cases q : f = 0
    · rw [q]; exact row0
    · rw [show f = 1 by omega]; exact row1
  · rcases hA with (⟨x, y⟩ | ⟨x, y⟩) | ⟨i, i0_zq, i1, ⟨x, y⟩ | ⟨x, y⟩⟩
    · exact ⟨0, 0, by omega, by omega, by omega, by omega, by rw [h00, x], by rw [hL0, nr_lt (by omega), h0 _ (by omega) (by omega), show (0 : Int) + 1 - 1 = 0 by omega, w0, y]⟩
    · exact ⟨1, wm - 1, by omega, by omega, by omega, by omega, by rw [h1 _ (by omega) (by omega), show wm - 1 - (wm - 1) = 0 by omega, w0, x], by rw [hL1, nr_eq (by omega), h1 0 (by omega) (by omega), show wm - 1 - 0 = wm - 1 by omega, wl, y]⟩
    · refine ⟨0, i + 1, by omega, by omega, by omega, by omega, by rw [h0 _ (by omega) (by omega), x]; congr 1; omega, ?_⟩
      rw [hL0, y]
      by_cases q : i + 1 + 1 = wm
      · rw [nr_eq q, h00, ← wl]; congr 1; omega
      · rw [nr_lt (by omega), h0 _ (by omega) (by omega)]; congr 1; omega
    · refine ⟨1, wm - 2 - i, by omega, by omega, by omega, by omega, by rw [h1 _ (by omega) (by omega), x]; congr 1; omega, ?_⟩
      rw [hL1, y, nr_lt (by omega), h1 _ (by omega) (by omega)]; congr 1; omega
  · have x01 : ∀ k l, 0 ≤ k → k < wm → 0 ≤ l → l < wm → R 0 k = R 1 l → R 0 (nr wm k) = R 1 (nr wm l) → False := by
      intro k l k0 k1 l0 l1 e1 e2
      have z1 := nr_rng k0 k1
      have z2 := nr_rng l0 l1
      rw [i0 k k0 k1, h1 l l0 l1] at e1
      rw [i0 _ z1.1 z1.2, h1 _ z2.1 z2.2] at e2
      have y1 := inj _ _ (by split <;> omega) (by split <;> omega) (by omega) (by omega) e1
      have y2 := inj _ _ (by split <;> omega) (by split <;> omega) (by omega) (by omega) e2
      unfold nr at y2
      revert y1 y2
      split <;> split <;> (try split) <;> (try split) <;> omega
    intro f k g l f0 f1 k0 k1 g0 g1 l0 l1 e1 e2
    by_cases q : f = 0
    · by_cases q2 : g = 0
      · omega
      · have : g = 1 := by omega
        subst q; subst this
        rw [hL0] at k1 e2; rw [hL1] at l1 e2
        exact absurd e2 (fun z => x01 k l k0 k1 l0 l1 e1 z)
    · have hf : f = 1 := by omega
      by_cases q2 : g = 0
      · subst hf; subst q2
        rw [hL1] at k1 e2; rw [hL0] at l1 e2
        exact absurd e2 (fun z => x01 l k l0 l1 k0 k1 e1.symm z.symm)
      · omega
end
section
/-! draws: its loops -/
def inE (m : Int) (al bl : Int → Int) (b e f : Int) : Prop := inB m al bl b f ∧ e < f
def D0 (m : Int) (al bl : Int → Int) (b l c e : Int) : Prop := ((c = 0 ∧ l = -1 ∧ ∀ f, ¬ inE m al bl b e f) ∨ (c = 1 ∧ inE m al bl b e l ∧ ∀ f, inE m al bl b e f → f = l) ∨ (2 ≤ c ∧ inE m al bl b e l ∧ ∃ f, inE m al bl b e f ∧ f ≠ l)) ∧ c + e + 1 ≤ m
def D0e (m : Int) (al bl : Int → Int) (b l c : Int) : Prop := D0 m al bl b l c (-1)
theorem d0_skip {m : Int} {al bl : Int → Int} {b l c e e_zq : Int} (h : D0 m al bl b l c e) (he : e_zq = e - 1) (hn : al e ≠ 1 ∨ bl e ≠ b) : D0 m al bl b l c e_zq := by
  have iff : ∀ f, inE m al bl b e_zq f ↔ inE m al bl b e f := fun f => ⟨fun z => ⟨z.1, by
    have h1 := z.2
    by_cases q : f = e
    · exfalso; rw [q] at z; rcases hn with w | w
      · exact w z.1.2.2.1
      · exact w z.1.2.2.2
    · omega⟩, fun z => ⟨z.1, by have := z.2; omega⟩⟩
  refine ⟨?_, by have := h.2; omega⟩
  rcases h.1 with ⟨a, x, y⟩ | ⟨a, x, y⟩ | ⟨a, x, f, y, z⟩
  · exact Or.inl ⟨a, x, fun f z => y f ((iff f).mp z)⟩
  · exact Or.inr (Or.inl ⟨a, (iff l).mpr x, fun f z => y f ((iff f).mp z)⟩)
  · exact Or.inr (Or.inr ⟨a, (iff l).mpr x, f, (iff f).mpr y, z⟩)
theorem d0_take {m : Int} {al bl : Int → Int} {b l c e e_zq c_zq : Int} (h : D0 m al bl b l c e) (he : e_zq = e - 1) (e0 : 0 ≤ e) (e1 : e < m) (h1 : al e = 1) (h2 : bl e = b) (hc : c_zq = c + 1) : D0 m al bl b e c_zq e_zq := by
  have me : inE m al bl b e_zq e := ⟨⟨e0, e1, h1, h2⟩, by omega⟩
  have up : ∀ f, inE m al bl b e f → inE m al bl b e_zq f := fun f z => ⟨z.1, by have := z.2; omega⟩
  have dn : ∀ f, inE m al bl b e_zq f → f ≠ e → inE m al bl b e f := fun f z q => ⟨z.1, by have := z.2; omega⟩
  refine ⟨?_, by have := h.2; omega⟩
  rcases h.1 with ⟨a, x, y⟩ | ⟨a, x, y⟩ | ⟨a, x, f, y, z⟩
  · exact Or.inr (Or.inl ⟨by omega, me, fun f z => Classical.byContradiction (fun q => y f (dn f z q))⟩)
  · exact Or.inr (Or.inr ⟨by omega, me, l, up l x, by have := x.2; omega⟩)
  · exact Or.inr (Or.inr ⟨by omega, me, l, up l x, by have := x.2; omega⟩)
def D1 (dn : Int → Int) (i : Int) : Prop := ∀ u, 0 ≤ u → u < i → dn u = 0
def D1n (n : Int) (dn : Int → Int) : Prop := D1 dn n
def D3 (al bl dE : Int → Int) (b i : Int) : Prop := ∀ e, 0 ≤ e → e < i → (dE e = 0 ↔ (al e = 1 ∧ bl e = b))
theorem rg0_of {n m : Int} {pt ph al bl dE dE_zq : Int → Int} {b l c i k v : Int} {many : Int} (hg : GOK n m pt ph) (hB : BK m pt ph al bl many) (b0 : 0 ≤ b) (b1 : b < many) (h0 : D0e m al bl b l c) (h3 : D3 al bl dE b i) (hi : m ≤ i) (hc : c ≠ 1) (hs : st1 dE dE_zq k v) (hk : k = l) (hv : v ≠ 0) : RG0 n m pt ph al bl dE_zq b l := by
  subst hk
  rcases h0.1 with ⟨a, x, y⟩ | ⟨a, x, y⟩ | ⟨a, x, f, y, z⟩
  · exfalso
    obtain ⟨e, e0, e1, e2, e3⟩ := hB.2.2.2 b b0 b1
    exact y e ⟨⟨e0, e1, e2, e3⟩, by omega⟩
  · exact absurd a hc
  · refine ⟨hg, hB.1, fun e e0 e1 => ?_, x.1, f, y.1, z⟩
    by_cases q : e = k
    · have := (hs e e0).1 q
      exact ⟨fun w => absurd (this.symm.trans w) hv, fun w => absurd q w.2.2⟩
    · rw [(hs e e0).2 q, h3 e e0 (by omega)]
      exact ⟨fun w => ⟨w.1, w.2, q⟩, fun w => ⟨w.1, w.2.1⟩⟩
theorem d0_l {n m : Int} {pt ph al bl : Int → Int} {b l c many : Int} (hB : BK m pt ph al bl many) (b0 : 0 ≤ b) (b1 : b < many) (h0 : D0e m al bl b l c) : 0 ≤ l ∧ l < m := by
  rcases h0.1 with ⟨a, x, y⟩ | ⟨a, x, y⟩ | ⟨a, x, f, y, z⟩
  · exfalso
    obtain ⟨e, e0, e1, e2, e3⟩ := hB.2.2.2 b b0 b1
    exact y e ⟨⟨e0, e1, e2, e3⟩, by omega⟩
  · exact ⟨x.1.1, x.1.2.1⟩
  · exact ⟨x.1.1, x.1.2.1⟩
theorem rg0_ua {n m : Int} {pt ph al bl dE : Int → Int} {b l : Int} (h : RG0 n m pt ph al bl dE b l) : UA m al dE := fun e e0 e1 z => ((h.2.2.1 e e0 e1).mp z).1
def RGS (n m wm : Int) (pt ph al bl dE dn way : Int → Int) (b l : Int) : Prop := RG0 n m pt ph al bl dE b l ∧ D1 dn n ∧ ∃ po, WAY n m (-1) pt ph al dE po dn way (ph l) (pt l) 0 wm ∧ 3 ≤ wm
theorem rgs_of {n m wm only : Int} {pt ph al bl dE po dn way : Int → Int} {b l x y z : Int} (h : RG0 n m pt ph al bl dE b l) (hd : D1n n dn) (hs : SHP n m only wm pt ph al dE po dn way x y z) (hx : x = ph l) (hy : y = pt l) (hz : z = 0) (ho : only = -1) : RGS n m wm pt ph al bl dE dn way b l := by
  subst hx; subst hy; subst hz; subst ho
  exact ⟨h, hd, po, ring_way h hs⟩
theorem rgs_bd {n m wm : Int} {pt ph al bl dE dn way : Int → Int} {b l : Int} (h : RGS n m wm pt ph al bl dE dn way b l) : 3 ≤ wm ∧ wm ≤ n ∧ 0 ≤ l ∧ l < m := by
  obtain ⟨h1, _, po, h2, h3⟩ := h
  exact ⟨h3, h2.2.1, h1.2.2.2.1.1, h1.2.2.2.1.2.1⟩
def R1 (n m wm : Int) (pt ph al bl dE dn way fm face : Int → Int) (b l k : Int) : Prop := RGS n m wm pt ph al bl dE dn way b l ∧ fm 0 = wm ∧ fm 1 = wm ∧ face 0 = pt l ∧ (∀ j, 0 ≤ j → j < k → face (j + 1) = way j) ∧ k ≤ wm - 1
def R2 (n m wm : Int) (pt ph al bl dE dn way fm face : Int → Int) (b l k : Int) : Prop := R1 n m wm pt ph al bl dE dn way fm face b l (wm - 1) ∧ face 60 = pt l ∧ ∀ j, 1 ≤ j → j < k → face (60 + j) = way (wm - 1 - j)
theorem r1_next {n m wm : Int} {pt ph al bl dE dn way fm face face_zq : Int → Int} {b l k k_zq i v : Int} (h : R1 n m wm pt ph al bl dE dn way fm face b l k) (hs : st1 face face_zq i v) (hi : i = k + 1) (k0 : 0 ≤ k) (k1 : k + 1 < wm) (hv : v = way k) (hk : k_zq = k + 1) : R1 n m wm pt ph al bl dE dn way fm face_zq b l k_zq := by
  obtain ⟨h1, h2, h3, h4, h5, h6⟩ := h
  refine ⟨h1, h2, h3, by rw [(hs 0 (by omega)).2 (by omega)]; exact h4, fun j j0 j1 => ?_, by omega⟩
  by_cases q : j = k
  · rw [(hs (j + 1) (by omega)).1 (by omega), hv, q]
  · rw [(hs (j + 1) (by omega)).2 (by omega)]; exact h5 j j0 (by omega)
theorem r2_of {n m wm : Int} {pt ph al bl dE dn way fm face face_zq : Int → Int} {b l k k_zq i v : Int} (h : R1 n m wm pt ph al bl dE dn way fm face b l k) (hk : wm ≤ k + 1) (hn : n ≤ 60) (hs : st1 face face_zq i v) (hi : i = 60) (hv : v = pt l) (hk_zq : k_zq = 1) : R2 n m wm pt ph al bl dE dn way fm face_zq b l k_zq := by
  have hb := rgs_bd h.1
  obtain ⟨h1, h2, h3, h4, h5, h6⟩ := h
  refine ⟨⟨h1, h2, h3, by rw [(hs 0 (by omega)).2 (by omega)]; exact h4, fun j j0 j1 => ?_, by omega⟩, by rw [(hs 60 (by omega)).1 (by omega), hv], fun j j0 j1 => by omega⟩
  rw [(hs (j + 1) (by omega)).2 (by omega)]; exact h5 j j0 (by omega)
theorem r2_next {n m wm : Int} {pt ph al bl dE dn way fm face face_zq : Int → Int} {b l k k_zq i v q : Int} (h : R2 n m wm pt ph al bl dE dn way fm face b l k) (hn : n ≤ 60) (hs : st1 face face_zq i v) (hi : i = 60 + k) (k0 : 1 ≤ k) (k1 : k < wm) (hv : v = face q) (hq : q = wm - k) (hk : k_zq = k + 1) : R2 n m wm pt ph al bl dE dn way fm face_zq b l k_zq := by
  have hb := rgs_bd h.1.1
  obtain ⟨⟨h1, h2, h3, h4, h5, h6⟩, h7, h8⟩ := h
  refine ⟨⟨h1, h2, h3, by rw [(hs 0 (by omega)).2 (by omega)]; exact h4, fun j j0 j1 => ?_, by omega⟩, by rw [(hs 60 (by omega)).2 (by omega)]; exact h7, fun j j0 j1 => ?_⟩
  · rw [(hs (j + 1) (by omega)).2 (by omega)]; exact h5 j j0 (by omega)
  · by_cases z : j = k
    · rw [(hs (60 + j) (by omega)).1 (by omega), hv, hq, show wm - k = wm - 1 - j + 1 by omega]; exact h5 (wm - 1 - j) (by omega) (by omega)
    · rw [(hs (60 + j) (by omega)).2 (by omega)]; exact h8 j j0 (by omega)
theorem r2_dwp {n m wm faces : Int} {pt ph al bl dE dn way fm face : Int → Int} {b l k : Int} (h : R2 n m wm pt ph al bl dE dn way fm face b l k) (hk : wm ≤ k) (hn : n ≤ 60) (hm : 0 ≤ m) (hm1 : m ≤ 80) (hf : faces = 2) : DWP n m faces wm pt ph al bl dE dn fm face way b := by
  have hb := rgs_bd h.1.1
  obtain ⟨⟨⟨⟨hg, hB, hd, hl, f, hf1, hf2⟩, hdn, po, ⟨w1, w2, w3, w4, w5, w6, w7, w8⟩, wm3⟩, h2, h3, h4, h5, h6⟩, h7, h8⟩ := h
  obtain ⟨l0, l1, l2, l3⟩ := hl
  subst hf
  have r := hg.1 l l0 l1
  have eA : dA m pt ph al bl dE b = (fun u v => (u = pt l ∧ v = ph l) ∨ (u = ph l ∧ v = pt l)) := by
    funext u v
    apply propext
    constructor
    · rintro ⟨e, je, eb, ed⟩
      have : e = l := Classical.byContradiction (fun q => ed ((hd e je.1 je.2.1).mpr ⟨je.2.2.1, eb, q⟩))
      subst this
      rcases je.2.2.2 with ⟨x, y⟩ | ⟨x, y⟩
      · exact Or.inl ⟨x.symm, y.symm⟩
      · exact Or.inr ⟨y.symm, x.symm⟩
    · rintro (⟨x, y⟩ | ⟨x, y⟩)
      · exact ⟨l, ⟨l0, l1, l2, Or.inl ⟨x.symm, y.symm⟩⟩, l3, fun z => ((hd l l0 l1).mp z).2.2 rfl⟩
      · exact ⟨l, ⟨l0, l1, l2, Or.inr ⟨y.symm, x.symm⟩⟩, l3, fun z => ((hd l l0 l1).mp z).2.2 rfl⟩
  refine ⟨hg, fun e e0 e1 z => ⟨((hd e e0 e1).mp z).1, ((hd e e0 e1).mp z).2.1⟩, fun e e0 e1 ha hb_zq hz => ?_, by omega, w2, w5, fun k k0 k1 => ?_, ⟨?_, by omega, ?_⟩⟩
  · have : e = l := Classical.byContradiction (fun q => hz ((hd e e0 e1).mpr ⟨ha, hb_zq, q⟩))
    subst this
    exact ⟨Or.inr ⟨wm - 1, by omega, by omega, w4⟩, Or.inr ⟨0, by omega, by omega, w3⟩⟩
  · obtain ⟨e, je, he⟩ := w7 k k0 k1
    exact ⟨e, je, he.1⟩
  · rw [eA]
    refine ring_fix r.2.2.2.2 wm3 w3 w4 w6 h2 h3 ?_ ?_ ?_
    · show face (60 * 0 + 0) = pt l; rw [show (60 : Int) * 0 + 0 = 0 by omega]; exact h4
    · intro j j0 j1
      show face (60 * 0 + j) = way (j - 1)
      rw [show (60 : Int) * 0 + j = j - 1 + 1 by omega]; exact h5 (j - 1) (by omega) (by omega)
    · intro j j0 j1
      show face (60 * 1 + j) = way (wm - 1 - j)
      by_cases q : j = 0
      · rw [q, show (60 : Int) * 1 + 0 = 60 by omega, h7, show wm - 1 - 0 = wm - 1 by omega, w4]
      · rw [show (60 : Int) * 1 + j = 60 + j by omega]; exact h8 j (by omega) (by omega)
  · have := czb dE hm; omega
end
section
/-! draws: a turn of its loop, and its answer -/
def CZF (m faces : Int) (dE : Int → Int) : Prop := czf faces m dE
def bA (m : Int) (pt ph al bl : Int → Int) (b u v : Int) : Prop := ∃ e, JJ m pt ph al e u v ∧ bl e = b
def DRQ (m faces : Int) (pt ph al bl fm face : Int → Int) (b r : Int) : Prop := r ≠ 0 → (faces = 0 ∧ ∃ e, inB m al bl b e ∧ ∀ f, inB m al bl b f → f = e) ∨ (2 ≤ faces ∧ ∃ nx ρ, FIX (bA m pt ph al bl b) nx ρ faces fm (rwf face))
theorem wop_wm {n m wm : Int} {pt ph al dE po dn ends way : Int → Int} {p : Int} (h : WOP n m wm pt ph al dE po dn ends way p) : 2 ≤ wm ∧ wm ≤ n := by
  obtain ⟨a, ha, y, hy, hby, w1, w2, w3, w4, _⟩ := h
  refine ⟨?_, w2⟩
  by_cases q : wm = 1
  · exfalso; rw [q, show (1 : Int) - 1 = 0 by omega, w3] at w4; exact hy w4.symm
  · omega
theorem spr_of {n m faces wm : Int} {pt ph al bl dE po dn ends fn fm face way : Int → Int} {b f p : Int} (hg : GOK n m pt ph) (hn : n ≤ 32) (hF : FI m faces pt ph al bl dE fm face b) (hD : DSB m pt ph al bl dE dn b) (hz : CZF m faces dE) (hw : WOP n m wm pt ph al dE po dn ends way p) (hf : FFT faces ends fn p f) (hc : FCF faces fm face fn) (f0 : 0 ≤ f) : SPR n m faces wm pt ph al bl dE fm face way b f := by
  have h2 := wop_wm hw
  obtain ⟨a, ha, y, hy, hby, w1, w2, w3, w4, w5, w6, w7, w8⟩ := hw
  have hft : f < faces ∧ fit ends fn p f := by
    rcases hf with ⟨z, _⟩ | ⟨_, z1, z2⟩
    · omega
    · exact ⟨z1, z2⟩
  have ra := w5 0 (by omega) (by omega)
  have ry := w5 (wm - 1) (by omega) (by omega)
  rw [w3] at ra
  rw [w4] at ry
  refine ⟨hg, hF, f0, hft.1, ⟨h2.1, h2.2, w5, w6, fun i i0 i1 u hu => ?_, fun z hu => ?_, hz⟩, ?_, ?_⟩
  · obtain ⟨e, je, eb, ed⟩ := hu
    have hd := hD.2.1 e je.1 je.2.1 je.2.2.1 eb ed
    rcases w8 i (by omega) (by omega) with q | q
    · omega
    · rcases je.2.2.2 with ⟨_, x⟩ | ⟨x, _⟩
      · rw [x] at hd; exact hd.2 q
      · rw [x] at hd; exact hd.1 q
  · obtain ⟨e, je, eb, ed⟩ := hu
    obtain ⟨e_zq, je_zq, he_zq⟩ := w7 0 (by omega) (by omega)
    have := JJ_one hg je_zq je
    rw [this] at he_zq
    exact ed he_zq.1
  · obtain ⟨k, k0, k1, k2⟩ := (hc f a f0 hft.1 ra.1 (by omega)).mp (hft.2 a ra.1 (by omega) ha)
    exact ⟨k, k0, k1, by rw [w3]; exact k2⟩
  · obtain ⟨k, k0, k1, k2⟩ := (hc f y f0 hft.1 ry.1 (by omega)).mp (hft.2 y ry.1 (by omega) hby)
    exact ⟨k, k0, k1, by rw [w4]; exact k2⟩
theorem dwp_of {n m faces wm : Int} {pt ph al bl dE po dn ends fm face way : Int → Int} {b p : Int} (hg : GOK n m pt ph) (hD : DSB m pt ph al bl dE dn b) (hw : WOP n m wm pt ph al dE po dn ends way p) (hq : SPQ m faces wm pt ph al bl dE fm face way b) : DWP n m faces wm pt ph al bl dE dn fm face way b := by
  have h2 := wop_wm hw
  obtain ⟨a, ha, y, hy, hby, w1, w2, w3, w4, w5, w6, w7, w8⟩ := hw
  exact ⟨hg, hD.1, fun e e0 e1 x1 x2 x3 => ⟨Or.inl (hD.2.1 e e0 e1 x1 x2 x3).1, Or.inl (hD.2.1 e e0 e1 x1 x2 x3).2⟩, h2.1, h2.2, w5, fun k k0 k1 => by
    obtain ⟨e, je, he⟩ := w7 k k0 k1
    exact ⟨e, je, he.1⟩, hq⟩
theorem drq_end {m faces : Int} {pt ph al bl dE fm face : Int → Int} {b r s : Int} (hF : FI m faces pt ph al bl dE fm face b) (hz : CZF m faces dE) (hm : MIS m dE s) (hs : s = 0) : DRQ m faces pt ph al bl fm face b r := by
  intro _
  obtain ⟨nx, ρ, h⟩ := hF
  refine Or.inr ⟨hz.1, nx, ρ, ?_⟩
  have e : dA m pt ph al bl dE b = bA m pt ph al bl b := by
    funext u v
    apply propext
    exact ⟨fun ⟨e, je, eb, _⟩ => ⟨e, je, eb⟩, fun ⟨e, je, eb⟩ => ⟨e, je, eb, hm.1 hs e je.1 je.2.1⟩⟩
  rw [← e]; exact h
theorem drq_one {m faces : Int} {pt ph al bl fm face : Int → Int} {b r l c : Int} (h0 : D0e m al bl b l c) (hc : c = 1) (hf : faces = 0) : DRQ m faces pt ph al bl fm face b r := by
  intro _
  refine Or.inl ⟨hf, ?_⟩
  rcases h0.1 with ⟨a, x, y⟩ | ⟨a, x, y⟩ | ⟨a, x, f, y, z⟩
  · omega
  · exact ⟨l, x.1, fun f z => y f ⟨z, by have := z.1; omega⟩⟩
  · omega
theorem czf_bd {m faces : Int} {dE : Int → Int} (h : CZF m faces dE) (hm : 0 ≤ m) : 2 ≤ faces ∧ faces ≤ 82 := by
  have := czb dE hm
  have := h.1
  have := h.2
  omega
theorem ch1_fft {m faces : Int} {po ends fn : Int → Int} {p f : Int} (h : CH1 m faces po ends fn p) (hp : 0 ≤ p) (hf : FFT faces ends fn p f) : 0 ≤ f ∧ f < faces := by
  rcases hf with ⟨z, w⟩ | ⟨z1, z2, _⟩
  · rcases h with q | ⟨_, _, _, g, g0, g1, g2⟩
    · omega
    · exact absurd g2 (w g g0 g1)
  · exact ⟨z1, z2⟩
theorem d0_c {m : Int} {al bl : Int → Int} {b l c e : Int} (h : D0 m al bl b l c e) : 0 ≤ c ∧ c + e + 1 ≤ m := by
  refine ⟨?_, h.2⟩
  rcases h.1 with ⟨a, _⟩ | ⟨a, _⟩ | ⟨a, _⟩ <;> omega
theorem wpr_ch {n m faces : Int} {pt ph al bl dE po dn ends fn : Int → Int} {b p many : Int} (hg : GOK n m pt ph) (hn : n ≤ 32) (hB : BK m pt ph al bl many) (hD : DSB m pt ph al bl dE dn b) (hP : PCS m pt ph dE dn po) (hE : END m pt ph dE dn po ends) (hc : CH1 m faces po ends fn p) (p0 : 0 ≤ p) : WPR n m pt ph dE po dn ends p := by
  rcases hc with q | ⟨_, x, y, _⟩
  · omega
  · exact wpr_of hg hn hB.1 hD hP hE p0 x y
end
section
/-! blocks hang together, and meet the rest in one node of each part of it -/
theorem blk_con {J : pj_T} {bl : Int → Int} (hs : jsym J) (hu : juni J) (hB : isBl J bl) {b i j e f x y : Int} (he : J e i x) (hf : J f j y) (be : bl e = b) (bf : bl f = b) : rc (fun u v => ∃ g, J g u v ∧ bl g = b) i j := by
  have st : ∀ {g u v}, J g u v → bl g = b → rc (fun u v => ∃ g, J g u v ∧ bl g = b) u v := fun h1 h2 => rc_step ⟨_, h1, h2⟩
  have key := hB.2 (fun g => bl g = b → ∀ u v, J g u v → rc (fun u v => ∃ g, J g u v ∧ bl g = b) i u) (fun g h ⟨v, p, q, h1, h2, h3⟩ cg bh u w hw => ?_) e f ⟨i, x, he⟩ ⟨j, y, hf⟩ (be.trans bf.symm) (fun _ u v hv => ?_)
  · exact key bf j y hf
  · have bg : bl g = b := (hB.1 g h ⟨v, p, q, h1, h2, h3⟩).trans bh
    have rv := cg bg v p h1
    rcases hu h v q u w h2 hw with ⟨a, _⟩ | ⟨a, _⟩
    · rw [a]; exact rv
    · rw [a]; exact rc_trans rv (st h2 bh)
  · rcases hu e i x u v he hv with ⟨a, _⟩ | ⟨a, _⟩
    · rw [a]; exact rc_refl _ _
    · rw [a]; exact st he be
/-- a way into i from j: its last step, away from i before -/
theorem last_in {J : pj_T} {R : Int → Int → Prop} (hR : ∀ a b, R a b → ∃ g, J g a b) {i j : Int} (hij : j ≠ i) (h : rc R j i) : ∃ x, x ≠ i ∧ R x i ∧ cnA J i j x := by
  apply Classical.byContradiction
  intro hn
  have := h (fun x => x ≠ i ∧ cnA J i j x) (fun a c hac ha => ?_) ⟨hij, rc_refl _ _⟩
  · exact this.1 rfl
  · by_cases q : c = i
    · subst q; exact absurd ⟨a, ha.1, hac, ha.2⟩ hn
    · obtain ⟨g, hg⟩ := hR a c hac
      exact ⟨q, rc_trans ha.2 (rc_step ⟨⟨g, hg⟩, ha.1, q⟩)⟩
theorem blk_meet {J : pj_T} {bl : Int → Int} (hs : jsym J) (hu : juni J) (hB : isBl J bl) {b i j e f x y : Int} (he : J e i x) (hf : J f j y) (be : bl e = b) (bf : bl f = b) (h : rc (fun u v => ∃ g, J g u v ∧ bl g ≠ b) i j) : i = j := by
  apply Classical.byContradiction
  intro hij
  have hij_zq : j ≠ i := fun z => hij z.symm
  have h1 := rc_symm (fun a c ⟨g, g1, g2⟩ => ⟨g, hs _ _ _ g1, g2⟩) h
  have h2 := rc_symm (fun a c ⟨g, g1, g2⟩ => ⟨g, hs _ _ _ g1, g2⟩) (blk_con hs hu hB he hf be bf)
  obtain ⟨p, p1, ⟨g, g1, g2⟩, p3⟩ := last_in (J := J) (fun a c ⟨g, z, _⟩ => ⟨g, z⟩) hij_zq h1
  obtain ⟨q, q1, ⟨k, k1, k2⟩, q3⟩ := last_in (J := J) (fun a c ⟨g, z, _⟩ => ⟨g, z⟩) hij_zq h2
  have hc : cnA J i p q := rc_trans (rc_symm (sv_sym hs i) p3) q3
  exact g2 ((hB.1 g k ⟨i, p, q, hs _ _ _ g1, hs _ _ _ k1, hc⟩).trans k2)
/-! behind -/
def FMB (faces : Int) (fm : Int → Int) : Prop := ∀ f, 0 ≤ f → f < faces → 3 ≤ fm f ∧ fm f ≤ 25
def bhd (fm face : Int → Int) (u i r f k : Int) : Prop := rwf face f k = u ∧ rwf face f (nr (fm f) k) = i ∧ rwf face f (nr (fm f) (nr (fm f) k)) = r
def bh2 (fm face : Int → Int) (u i f k : Int) : Prop := rwf face f k = u ∧ rwf face f (nr (fm f) k) = i
def BHP (faces : Int) (fm face : Int → Int) (u i r : Int) : Prop := ∃ f k, 0 ≤ f ∧ f < faces ∧ 0 ≤ k ∧ k < fm f ∧ bhd fm face u i r f k
def BHE (faces : Int) (fm face : Int → Int) (u i : Int) : Prop := ∃ f k, 0 ≤ f ∧ f < faces ∧ 0 ≤ k ∧ k < fm f ∧ bh2 fm face u i f k
def BH1 (fm face : Int → Int) (u i F : Int) : Prop := ∀ f k, 0 ≤ f → f < F → 0 ≤ k → k < fm f → ¬ bh2 fm face u i f k
def BH2 (fm face : Int → Int) (u i F K : Int) : Prop := BH1 fm face u i F ∧ ∀ k, 0 ≤ k → k < K → ¬ bh2 fm face u i F k
theorem nr_m1 {L k : Int} (h0 : 0 ≤ k) (h1 : k < L) : (k + 1) % L = nr L k := by
  unfold nr
  split
  · next h => rw [h, Int.emod_self]
  · exact Int.emod_eq_of_lt (by omega) (by omega)
theorem nr_m2 {L k : Int} (h0 : 0 ≤ k) (h1 : k < L) (hL : 2 ≤ L) : (k + 2) % L = nr L (nr L k) := by
  unfold nr
  by_cases q : k + 1 = L
  · rw [if_pos q, if_neg (by omega), show k + 2 = 1 + L by omega, Int.add_emod_right, Int.emod_eq_of_lt (by omega) (by omega)]; omega
  · rw [if_neg q]
    by_cases q2 : k + 1 + 1 = L
    · rw [if_pos q2, show k + 2 = L by omega, Int.emod_self]
    · rw [if_neg q2, Int.emod_eq_of_lt (by omega) (by omega)]; omega
end
section
/-! turnRound: the edges of a block around a node -/
theorem acr_is {m : Int} {pt ph al : Int → Int} {e i x : Int} (hi : i ≠ x) (h : JJ m pt ph al e i x) : acr pt ph e i = x := by
  unfold acr
  rcases h.2.2.2 with ⟨a, b⟩ | ⟨a, b⟩
  · rw [if_pos a]; exact b
  · rw [if_neg (fun z => hi (z.symm.trans a))]; exact a
theorem JJ_same {m : Int} {pt ph al : Int → Int} {e i x y : Int} (hi : jirr (JJ m pt ph al)) (h : JJ m pt ph al e i x) (k : JJ m pt ph al e i y) : x = y := by
  rcases JJ_uni e i x i y h k with ⟨_, a⟩ | ⟨a, _⟩
  · exact a.symm
  · exact absurd a (hi e i x h)
def DRB (m faces : Int) (pt ph al bl fm face : Int → Int) (b : Int) : Prop := (faces = 0 ∧ ∃ e, inB m al bl b e ∧ ∀ f, inB m al bl b f → f = e) ∨ (2 ≤ faces ∧ ∃ nx ρ, FIX (bA m pt ph al bl b) nx ρ faces fm (rwf face))
def STP (m faces : Int) (pt ph al fm face : Int → Int) (i e e_zq : Int) : Prop := ∃ r, BHP faces fm face (acr pt ph e i) i r ∧ JJ m pt ph al e_zq i r
theorem bhp_nx {A : pa_T} {nx : Int → Int → Int} {ρ : Int → Int → Int → Bool} {faces : Int} {fm face : Int → Int} {u i r : Int} (hF : FIX A nx ρ faces fm (rwf face)) (h : BHP faces fm face u i r) : A u i ∧ r = nx u i := by
  obtain ⟨f, k, f0, f1, k0, k1, h1, h2, h3⟩ := h
  have := (hF.2.2.1 f f0 f1).2.1 k k0 k1
  rw [h1, h2, h3] at this
  exact ⟨this.1, this.2.symm⟩
theorem stp_inj {n m faces : Int} {pt ph al bl fm face : Int → Int} {b i e1 e2 e_zq x1 x2 : Int} {nx : Int → Int → Int} {ρ : Int → Int → Int → Bool} (hg : GOK n m pt ph) (hF : FIX (bA m pt ph al bl b) nx ρ faces fm (rwf face)) (h1 : JJ m pt ph al e1 i x1) (h2 : JJ m pt ph al e2 i x2) (s1 : STP m faces pt ph al fm face i e1 e_zq) (s2 : STP m faces pt ph al fm face i e2 e_zq) : e1 = e2 := by
  obtain ⟨r1, a1, j1⟩ := s1
  obtain ⟨r2, a2, j2⟩ := s2
  have hi := JJ_irr (al := al) hg
  have hr := JJ_same hi j1 j2
  rw [acr_is (hi _ _ _ h1) h1] at a1
  rw [acr_is (hi _ _ _ h2) h2] at a2
  have b1 := bhp_nx hF a1
  have b2 := bhp_nx hF a2
  have := hF.1.2.2.1 x1 x2 i b1.1 b2.1 (b1.2.symm.trans (hr.trans b2.2))
  rw [this] at h1
  exact JJ_one hg h1 h2
theorem bhe_of {n m faces : Int} {pt ph al bl fm face : Int → Int} {b i e x : Int} {nx : Int → Int → Int} {ρ : Int → Int → Int → Bool} (hg : GOK n m pt ph) (hF : FIX (bA m pt ph al bl b) nx ρ faces fm (rwf face)) (h : JJ m pt ph al e i x) (hb : bl e = b) : BHE faces fm face (acr pt ph e i) i := by
  rw [acr_is (JJ_irr (al := al) hg _ _ _ h) h]
  obtain ⟨f, k, f0, f1, k0, k1, e1, e2⟩ := hF.2.2.2.1 x i ⟨e, JJ_sym _ _ _ h, hb⟩
  exact ⟨f, k, f0, f1, k0, k1, e1, e2⟩
theorem stp_blk {n m faces : Int} {pt ph al bl fm face : Int → Int} {b i e e_zq x r : Int} {nx : Int → Int → Int} {ρ : Int → Int → Int → Bool} (hg : GOK n m pt ph) (hF : FIX (bA m pt ph al bl b) nx ρ faces fm (rwf face)) (h : JJ m pt ph al e i x) (hr : BHP faces fm face (acr pt ph e i) i r) : ∃ e_zq, JJ m pt ph al e_zq i r ∧ bl e_zq = b := by
  rw [acr_is (JJ_irr (al := al) hg _ _ _ h) h] at hr
  have b1 := bhp_nx hF hr
  have := hF.1.2.1 x i b1.1
  rw [← b1.2] at this
  exact this
/-- around a node: closed under steps is all -/
theorem stp_all {n m faces : Int} {pt ph al bl fm face : Int → Int} {b i e x : Int} {nx : Int → Int → Int} {ρ : Int → Int → Int → Bool} (hg : GOK n m pt ph) (hF : FIX (bA m pt ph al bl b) nx ρ faces fm (rwf face)) (P : Int → Prop) (hP : ∀ e1 x1, JJ m pt ph al e1 i x1 → bl e1 = b → P e1 → ∃ e2, STP m faces pt ph al fm face i e1 e2 ∧ P e2) (h : JJ m pt ph al e i x) (hb : bl e = b) (he : P e) {f y : Int} (hf : JJ m pt ph al f i y) (bf : bl f = b) : P f := by
  have hi := JJ_irr (al := al) hg
  have := hF.1.2.2.2 i (fun u => ∃ e1, JJ m pt ph al e1 i u ∧ bl e1 = b ∧ P e1) (fun u hu ⟨e1, j1, b1, p1⟩ => ?_) x y ⟨e, JJ_sym _ _ _ h, hb⟩ ⟨f, JJ_sym _ _ _ hf, bf⟩ ⟨e, h, hb, he⟩
  · obtain ⟨e1, j1, b1, p1⟩ := this
    rw [← JJ_one hg j1 hf]; exact p1
  · obtain ⟨e2, ⟨r, s1, s2⟩, p2⟩ := hP e1 u j1 b1 p1
    rw [acr_is (hi _ _ _ j1) j1] at s1
    have z := bhp_nx hF s1
    have bb := hF.1.2.1 u i z.1
    obtain ⟨e3, j3, b3⟩ := bb
    rw [← z.2] at j3 ⊢
    have := JJ_one hg j3 s2
    rw [this] at b3
    exact ⟨e2, s2, b3, p2⟩
theorem fmb_of {n m faces : Int} {pt ph al bl fm face : Int → Int} {b : Int} (hg : GOK n m pt ph) (hn : n ≤ 25) (h : DRB m faces pt ph al bl fm face b) : FMB faces fm := by
  intro f f0 f1
  rcases h with ⟨z, _⟩ | ⟨_, nx, ρ, hF⟩
  · omega
  · have e : bA m pt ph al bl b = dA m pt ph al bl (fun _ => 1) b := by
      funext u v
      apply propext
      exact ⟨fun ⟨e, j, z⟩ => ⟨e, j, z, fun w => absurd w (by decide : (1 : Int) ≠ 0)⟩, fun ⟨e, j, z, _⟩ => ⟨e, j, z⟩⟩
    rw [e] at hF
    have := row_len hg (hF.2.2.1 f f0 f1)
    omega
end
section
/-! turnRound: its loop -/
def rt (rot : Int → Int) (i k : Int) : Int := rot (80 * i + k)
def lA (m : Int) (pt ph al bl : Int → Int) (b u v : Int) : Prop := ∃ e, JJ m pt ph al e u v ∧ bl e < b
def EMR (n m : Int) (pt ph al bl rm rot : Int → Int) (b : Int) : Prop := ∀ i, 0 ≤ i → i < n → (0 ≤ rm i ∧ rm i ≤ 80) ∧ (∀ k, 0 ≤ k → k < rm i → ∃ x, JJ m pt ph al (rt rot i k) i x ∧ bl (rt rot i k) < b) ∧ (∀ k l, 0 ≤ k → k < l → l < rm i → rt rot i k ≠ rt rot i l) ∧ ∀ e x, JJ m pt ph al e i x → bl e < b → ∃ k, 0 ≤ k ∧ k < rm i ∧ rt rot i k = e
def EMI (n m : Int) (pt ph al bl rm rot : Int → Int) (b : Int) : Prop := EMR n m pt ph al bl rm rot b ∧ ∃ nx ρ, mp (lA m pt ph al bl b) nx ∧ pls (lA m pt ph al bl b) nx ρ ∧ ∀ i, 0 ≤ i → i < n → ∀ k, 0 ≤ k → k < rm i → nx (acr pt ph (rt rot i k) i) i = acr pt ph (rt rot i (nr (rm i) k)) i
def CYC (m faces : Int) (pt ph al bl fm face C : Int → Int) (b i c : Int) : Prop := 0 ≤ c ∧ (∀ t, 0 ≤ t → t < c → ∃ x, JJ m pt ph al (C t) i x ∧ bl (C t) = b) ∧ (∀ s t, 0 ≤ s → s < t → t < c → C s ≠ C t) ∧ (∀ e x, JJ m pt ph al e i x → bl e = b → ∃ t, 0 ≤ t ∧ t < c ∧ C t = e) ∧ (2 ≤ faces → ∀ t, 0 ≤ t → t < c → STP m faces pt ph al fm face i (C t) (C (nr c t)))
def EXT (m faces : Int) (pt ph al bl fm face rm0 rot0 rm rot : Int → Int) (b i : Int) : Prop := ∃ c, (rm i = rm0 i + c ∧ 0 ≤ rm0 i ∧ rm i ≤ 80) ∧ (∀ k, 0 ≤ k → k < rm0 i → rt rot i k = rt rot0 i k) ∧ CYC m faces pt ph al bl fm face (fun t => rt rot i (rm0 i + t)) b i c
def KEP (rm0 rot0 rm rot : Int → Int) (i : Int) : Prop := (rm i = rm0 i ∧ rm i ≤ 80) ∧ ∀ k, 0 ≤ k → k < rm0 i → rt rot i k = rt rot0 i k
def MID (n m faces : Int) (pt ph al bl fm face rm rot : Int → Int) (b i0 : Int) : Prop := ∃ rm0 rot0, EMI n m pt ph al bl rm0 rot0 b ∧ (∀ i, 0 ≤ i → i < i0 → i < n → EXT m faces pt ph al bl fm face rm0 rot0 rm rot b i) ∧ ∀ i, 0 ≤ i → i0 ≤ i → i < n → KEP rm0 rot0 rm rot i
def MIE (n m faces : Int) (pt ph al bl fm face rm rot : Int → Int) (b i : Int) : Prop := MID n m faces pt ph al bl fm face rm rot b (i + 1)
/-- c edges of the block are written, a way of steps from fi -/
def trc (m faces : Int) (pt ph al bl fm face C : Int → Int) (b i fi c : Int) : Prop := 0 ≤ c ∧ (∀ t, 0 ≤ t → t < c → ∃ x, JJ m pt ph al (C t) i x ∧ bl (C t) = b) ∧ (∀ s t, 0 ≤ s → s < t → t < c → C s ≠ C t) ∧ (∀ t, 0 ≤ t → t + 1 < c → 2 ≤ faces ∧ STP m faces pt ph al fm face i (C t) (C (t + 1))) ∧ (0 < c → C 0 = fi)
def TRI (n m faces : Int) (pt ph al bl fm face rm rot : Int → Int) (b i fi e : Int) : Prop := ∃ rm0 rot0 c, EMI n m pt ph al bl rm0 rot0 b ∧ (∀ j, 0 ≤ j → j < i → j < n → EXT m faces pt ph al bl fm face rm0 rot0 rm rot b j) ∧ (∀ j, 0 ≤ j → i < j → j < n → KEP rm0 rot0 rm rot j) ∧ rm i = rm0 i + c ∧ (∀ k, 0 ≤ k → k < rm0 i → rt rot i k = rt rot0 i k) ∧ trc m faces pt ph al bl fm face (fun t => rt rot i (rm0 i + t)) b i fi c ∧ (c = 0 → e = fi) ∧ (0 < c → 2 ≤ faces ∧ STP m faces pt ph al fm face i (rt rot i (rm0 i + (c - 1))) e) ∧ (∀ t, 0 ≤ t → t < c → rt rot i (rm0 i + t) ≠ e) ∧ ∃ x, JJ m pt ph al e i x ∧ bl e = b
def TRA (n m faces : Int) (pt ph al bl fm face rm rot : Int → Int) (b i fi e : Int) : Prop := ∃ rm0 rot0 c, EMI n m pt ph al bl rm0 rot0 b ∧ (∀ j, 0 ≤ j → j < i → j < n → EXT m faces pt ph al bl fm face rm0 rot0 rm rot b j) ∧ (∀ j, 0 ≤ j → i < j → j < n → KEP rm0 rot0 rm rot j) ∧ rm i = rm0 i + c ∧ (∀ k, 0 ≤ k → k < rm0 i → rt rot i k = rt rot0 i k) ∧ trc m faces pt ph al bl fm face (fun t => rt rot i (rm0 i + t)) b i fi c ∧ 0 < c ∧ rt rot i (rm0 i + (c - 1)) = e ∧ rm i ≤ 80
/-- the row has room -/
theorem tri_len {n m faces : Int} {pt ph al bl fm face rm rot : Int → Int} {b i fi e : Int} (h : TRI n m faces pt ph al bl fm face rm rot b i fi e) (i0 : 0 ≤ i) (i1 : i < n) : 0 ≤ rm i ∧ rm i + 1 ≤ m := by
  obtain ⟨rm0, rot0, c, ⟨hE, _⟩, _, _, h1, h2, ⟨c0, t1, t2, _⟩, _, _, h3, x, jx, bx⟩ := h
  obtain ⟨r0, r1, r2, _⟩ := hE i i0 i1
  refine ⟨by omega, ?_⟩
  -- the places 0 .. rm i: the old ones, the new ones, e
  have val : ∀ k : Int, 0 ≤ k → k ≤ rm i → ∃ g, 0 ≤ g ∧ g < m ∧ ((k < rm i ∧ rt rot i k = g) ∨ (k = rm i ∧ g = e)) := by
    intro k k0 k1
    by_cases q : k = rm i
    · exact ⟨e, jx.1, jx.2.1, Or.inr ⟨q, rfl⟩⟩
    · refine ⟨rt rot i k, ?_, ?_, Or.inl ⟨by omega, rfl⟩⟩
      · by_cases q2 : k < rm0 i
        · rw [h2 k k0 q2]; obtain ⟨y, jy, _⟩ := r1 k k0 q2; exact jy.1
        · obtain ⟨y, jy, _⟩ := t1 (k - rm0 i) (by omega) (by omega)
          simp only [show rm0 i + (k - rm0 i) = k by omega] at jy; exact jy.1
      · by_cases q2 : k < rm0 i
        · rw [h2 k k0 q2]; obtain ⟨y, jy, _⟩ := r1 k k0 q2; exact jy.2.1
        · obtain ⟨y, jy, _⟩ := t1 (k - rm0 i) (by omega) (by omega)
          simp only [show rm0 i + (k - rm0 i) = k by omega] at jy; exact jy.2.1
  have bb : ∀ k, 0 ≤ k → k < rm i → (k < rm0 i ∧ bl (rt rot i k) < b) ∨ (rm0 i ≤ k ∧ bl (rt rot i k) = b) := by
    intro k k0 k1
    by_cases q2 : k < rm0 i
    · rw [h2 k k0 q2]; obtain ⟨y, _, jy⟩ := r1 k k0 q2; exact Or.inl ⟨q2, jy⟩
    · obtain ⟨y, _, jy⟩ := t1 (k - rm0 i) (by omega) (by omega)
      simp only [show rm0 i + (k - rm0 i) = k by omega] at jy; exact Or.inr ⟨by omega, jy⟩
  have ds : ∀ k l, 0 ≤ k → k < l → l < rm i → rt rot i k ≠ rt rot i l := by
    intro k l k0 k1 k2 z
    have hk := bb k k0 (by omega)
    have hl := bb l (by omega) k2
    rw [z] at hk
    by_cases q : l < rm0 i
    · rw [h2 k k0 (by omega), h2 l (by omega) q] at z; exact r2 k l k0 k1 q z
    · by_cases q2 : k < rm0 i
      · omega
      · have := t2 (k - rm0 i) (l - rm0 i) (by omega) (by omega) (by omega)
        simp only [show rm0 i + (k - rm0 i) = k by omega, show rm0 i + (l - rm0 i) = l by omega] at this
        exact this z
  have de : ∀ k, 0 ≤ k → k < rm i → rt rot i k ≠ e := by
    intro k k0 k1 z
    have hk := bb k k0 k1
    rw [z] at hk
    by_cases q2 : k < rm0 i
    · omega
    · have := h3 (k - rm0 i) (by omega) (by omega)
      rw [show rm0 i + (k - rm0 i) = k by omega] at this
      exact this z
  have := php (rm i + 1).toNat m.toNat (fun t => (if (t : Int) < rm i then rt rot i t else e).toNat) (fun t ht => ?_) (fun s t hs ht z => ?_)
  · have := jx.1; have := jx.2.1; omega
  · show (if (t : Int) < rm i then rt rot i t else e).toNat < m.toNat
    obtain ⟨g, g0, g1, g2⟩ := val t (by omega) (by omega)
    split
    · rcases g2 with ⟨_, z⟩ | ⟨z, _⟩ <;> omega
    · have := jx.1; have := jx.2.1; omega
  · have z_zq : (if (s : Int) < rm i then rt rot i s else e).toNat = (if (t : Int) < rm i then rt rot i t else e).toNat := z
    have pos : ∀ k : Int, 0 ≤ k → k < rm i → 0 ≤ rt rot i k := fun k k0 k1 => by
      obtain ⟨g, g0, g1, g2⟩ := val k k0 (by omega)
      rcases g2 with ⟨_, z⟩ | ⟨z, _⟩ <;> omega
    have ep := jx.1
    by_cases qs : (s : Int) < rm i <;> by_cases qt : (t : Int) < rm i
    · rw [if_pos qs, if_pos qt] at z_zq
      have p1 := pos s (by omega) qs
      have p2 := pos t (by omega) qt
      rcases Nat.lt_trichotomy s t with q | q | q
      · exact absurd (by omega) (ds s t (by omega) (by omega) qt)
      · exact q
      · exact absurd (by omega) (ds t s (by omega) (by omega) qs)
    · rw [if_pos qs, if_neg qt] at z_zq
      have p1 := pos s (by omega) qs
      exact absurd (by omega) (de s (by omega) qs)
    · rw [if_neg qs, if_pos qt] at z_zq
      have p1 := pos t (by omega) qt
      exact absurd (by omega) (de t (by omega) qt)
    · omega
theorem tr_rows {rot rot_zq rm rm_zq : Int → Int} {i p v q w : Int} (hs : st1 rot rot_zq p v) (hp : p = 80 * i + rm i) (hr : st1 rm rm_zq q w) (hq : q = i) (i0 : 0 ≤ i) (r0 : 0 ≤ rm i) (r1 : rm i < 80) : rt rot_zq i (rm i) = v ∧ (∀ k, 0 ≤ k → k ≠ rm i → rt rot_zq i k = rt rot i k) ∧ (∀ j k, 0 ≤ j → j ≠ i → 0 ≤ k → k < 80 → rt rot_zq j k = rt rot j k) ∧ rm_zq i = w ∧ ∀ j, 0 ≤ j → j ≠ i → rm_zq j = rm j := by
  subst hp; subst hq
  exact ⟨(hs _ (by omega)).1 rfl, fun k k0 k1 => (hs _ (by omega)).2 (by omega), fun j k j0 j1 k0 k1 => (hs _ (by omega)).2 (by omega), (hr _ i0).1 rfl, fun j j0 j1 => (hr j j0).2 j1⟩
theorem ext_keep {m faces : Int} {pt ph al bl fm face rm0 rot0 rm rot rm_zq rot_zq : Int → Int} {b j : Int} (h : EXT m faces pt ph al bl fm face rm0 rot0 rm rot b j) (h1 : rm_zq j = rm j) (h2 : ∀ k, 0 ≤ k → k < 80 → rt rot_zq j k = rt rot j k) : EXT m faces pt ph al bl fm face rm0 rot0 rm_zq rot_zq b j := by
  obtain ⟨c, ⟨e1, e2, e3⟩, e4, c0, c1, c2, c3, c4⟩ := h
  have g : ∀ t, 0 ≤ t → t < c → rt rot_zq j (rm0 j + t) = rt rot j (rm0 j + t) := fun t t0 t1 => h2 _ (by omega) (by omega)
  refine ⟨c, ⟨by omega, e2, by omega⟩, fun k k0 k1 => by rw [h2 k k0 (by omega)]; exact e4 k k0 k1, c0, fun t t0 t1 => ?_, fun s t s0 s1 t1 => ?_, fun e x je be => ?_, fun hf t t0 t1 => ?_⟩
  · simp only [g t t0 t1]; exact c1 t t0 t1
  · simp only [g s s0 (by omega), g t (by omega) t1]; exact c2 s t s0 s1 t1
  · obtain ⟨t, t0, t1, t2⟩ := c3 e x je be
    exact ⟨t, t0, t1, by simp only [g t t0 t1]; exact t2⟩
  · have z := nr_rng t0 t1
    simp only [g t t0 t1, g _ z.1 z.2]; exact c4 hf t t0 t1
theorem kep_keep {rm0 rot0 rm rot rm_zq rot_zq : Int → Int} {j : Int} (h : KEP rm0 rot0 rm rot j) (h1 : rm_zq j = rm j) (h2 : ∀ k, 0 ≤ k → k < 80 → rt rot_zq j k = rt rot j k) : KEP rm0 rot0 rm_zq rot_zq j :=
  ⟨⟨by rw [h1]; exact h.1.1, by rw [h1]; exact h.1.2⟩, fun k k0 k1 => by rw [h2 k k0 (by have := h.1.1; have := h.1.2; omega)]; exact h.2 k k0 k1⟩
theorem tri_app {n m faces : Int} {pt ph al bl fm face rm rot rm_zq rot_zq : Int → Int} {b i fi e p v q w : Int} (h : TRI n m faces pt ph al bl fm face rm rot b i fi e) (i0 : 0 ≤ i) (i1 : i < n) (hm : m ≤ 80) (hs : st1 rot rot_zq p v) (hp : p = 80 * i + rm i) (hv : v = e) (hr : st1 rm rm_zq q w) (hq : q = i) (hw : w = rm i + 1) : TRA n m faces pt ph al bl fm face rm_zq rot_zq b i fi e := by
  have hl := tri_len h i0 i1
  obtain ⟨rm0, rot0, c, hE, hx, hk, h1, h2, ⟨c0, t1, t2, t3, t4⟩, h3, h4, h5, h6⟩ := h
  have r0 := (hE.1 i i0 i1).1.1
  obtain ⟨z1, z2, z3, z4, z5⟩ := tr_rows hs hp hr hq i0 hl.1 (by omega)
  have g : ∀ t, 0 ≤ t → t < c → rt rot_zq i (rm0 i + t) = rt rot i (rm0 i + t) := fun t t0 t1 => z2 _ (by omega) (by omega)
  have gc : rt rot_zq i (rm0 i + c) = e := by rw [← h1, z1, hv]
  refine ⟨rm0, rot0, c + 1, hE, fun j j0 j1 j2 => ext_keep (hx j j0 j1 j2) (z5 j j0 (by omega)) (fun k k0 k1 => z3 j k j0 (by omega) k0 k1), fun j j0 j1 j2 => kep_keep (hk j j0 j1 j2) (z5 j j0 (by omega)) (fun k k0 k1 => z3 j k j0 (by omega) k0 k1), by omega, fun k k0 k1 => by rw [z2 k k0 (by omega)]; exact h2 k k0 k1, ⟨by omega, fun t t0 tc => ?_, fun s t s0 s1 tc => ?_, fun t t0 tc => ?_, fun _ => ?_⟩, by omega, by rw [show c + 1 - 1 = c by omega]; exact gc, by omega⟩
  · by_cases y : t = c
    · subst y; simp only [gc]; exact h6
    · simp only [g t t0 (by omega)]; exact t1 t t0 (by omega)
  · by_cases y : t = c
    · subst y; simp only [gc, g s s0 s1]; exact h5 s s0 s1
    · simp only [g t (by omega) (by omega), g s s0 (by omega)]; exact t2 s t s0 s1 (by omega)
  · by_cases y : t + 1 = c
    · simp only [g t t0 (by omega), show rm0 i + (t + 1) = rm0 i + c by omega, gc]
      have := h4 (by omega)
      rw [show c - 1 = t by omega] at this; exact this
    · simp only [g t t0 (by omega), g (t + 1) (by omega) (by omega)]; exact t3 t t0 (by omega)
  · by_cases y : c = 0
    · subst y; simp only [gc]; exact h3 rfl
    · simp only [g 0 (by omega) (by omega)]; exact t4 (by omega)
theorem tra_next {n m faces : Int} {pt ph al bl fm face rm rot : Int → Int} {b i fi e e_zq x : Int} (hg : GOK n m pt ph) (hD : DRB m faces pt ph al bl fm face b) (h : TRA n m faces pt ph al bl fm face rm rot b i fi e) (hf : 0 < faces) (hst : STP m faces pt ph al fm face i e e_zq) (hj : JJ m pt ph al e_zq i x) (hb : bl e_zq = b) (hne : e_zq ≠ fi) : TRI n m faces pt ph al bl fm face rm rot b i fi e_zq := by
  obtain ⟨rm0, rot0, c, hE, hx, hk, h1, h2, ⟨c0, t1, t2, t3, t4⟩, h3, h4, h5⟩ := h
  rcases hD with ⟨z, _⟩ | ⟨hf2, nx, ρ, hF⟩
  · omega
  · refine ⟨rm0, rot0, c, hE, hx, hk, h1, h2, ⟨c0, t1, t2, t3, t4⟩, fun z => by omega, fun _ => ⟨hf2, by rw [h4]; exact hst⟩, fun t t0 tc z => ?_, x, hj, hb⟩
    by_cases y : t = 0
    · subst y; exact hne (z.symm.trans (t4 h3))
    · have s1 := (t3 (t - 1) (by omega) (by omega)).2
      simp only [show t - 1 + 1 = t by omega, z] at s1
      obtain ⟨y1, j1, _⟩ := t1 (t - 1) (by omega) (by omega)
      obtain ⟨y2, j2, _⟩ := t1 (c - 1) (by omega) (by omega)
      have j2_zq : JJ m pt ph al e i y2 := by rw [← h4]; exact j2
      have := stp_inj hg hF j1 j2_zq s1 hst
      rw [← h4] at this
      exact t2 (t - 1) (c - 1) (by omega) (by omega) (by omega) this
theorem tra_end {n m faces : Int} {pt ph al bl fm face rm rot : Int → Int} {b i fi e : Int} (hg : GOK n m pt ph) (i0 : 0 ≤ i) (i1 : i < n) (hD : DRB m faces pt ph al bl fm face b) (h : TRA n m faces pt ph al bl fm face rm rot b i fi e) (hst : faces = 0 ∨ STP m faces pt ph al fm face i e fi) : MIE n m faces pt ph al bl fm face rm rot b i := by
  obtain ⟨rm0, rot0, c, hE, hx, hk, h1, h2, ⟨c0, t1, t2, t3, t4⟩, h3, h4, h5⟩ := h
  have r0 := (hE.1 i i0 i1).1.1
  refine ⟨rm0, rot0, hE, fun j j0 j1 j2 => ?_, fun j j0 j1 j2 => hk j j0 (by omega) j2⟩
  by_cases q : j = i
  · subst q
    refine ⟨c, ⟨h1, r0, h5⟩, h2, c0, t1, t2, fun f x jf bf => ?_, fun hf t t0 tc => ?_⟩
    · rcases hD with ⟨z, g, hg1, hg2⟩ | ⟨hf2, nx, ρ, hF⟩
      · obtain ⟨y, jy, by_zq⟩ := t1 0 (by omega) (by omega)
        exact ⟨0, by omega, by omega, (hg2 _ ⟨jy.1, jy.2.1, jy.2.2.1, by_zq⟩).trans (hg2 f ⟨jf.1, jf.2.1, jf.2.2.1, bf⟩).symm⟩
      · obtain ⟨y, jy, by_zq⟩ := t1 0 (by omega) (by omega)
        refine stp_all hg hF (fun g => ∃ t, 0 ≤ t ∧ t < c ∧ rt rot j (rm0 j + t) = g) (fun g1 x1 k1 k2 ⟨t, t0, tc, t5⟩ => ?_) jy by_zq ⟨0, by omega, by omega, rfl⟩ jf bf
        by_cases y2 : t + 1 = c
        · rcases hst with w | w
          · omega
          · refine ⟨fi, ?_, 0, by omega, by omega, t4 h3⟩
            rw [← t5, show t = c - 1 by omega, h4]; exact w
        · exact ⟨rt rot j (rm0 j + (t + 1)), by rw [← t5]; exact (t3 t t0 (by omega)).2, t + 1, by omega, by omega, rfl⟩
    · by_cases y2 : t + 1 = c
      · rw [nr_eq y2]
        rcases hst with w | w
        · omega
        · have e0 : rt rot j (rm0 j + 0) = fi := t4 h3
          simp only [e0, show t = c - 1 by omega, h4]; exact w
      · rw [nr_lt (by omega)]; exact (t3 t t0 (by omega)).2
  · exact hx j j0 (by omega) j2
end
section
/-! turnRound: begin and end -/
def TF (m : Int) (pt ph al bl : Int → Int) (i b fi e : Int) : Prop := ((fi = -1 ∧ ∀ f, e < f → (∀ x, ¬ (JJ m pt ph al f i x ∧ bl f = b))) ∨ ∃ x, JJ m pt ph al fi i x ∧ bl fi = b) ∧ e < m
def TRN (n m faces : Int) (pt ph al bl fm face rm rot : Int → Int) (b i fi e : Int) : Prop := (e = fi → MIE n m faces pt ph al bl fm face rm rot b i) ∧ (e ≠ fi → TRI n m faces pt ph al bl fm face rm rot b i fi e)
theorem tf_skip {m : Int} {pt ph al bl : Int → Int} {i b fi e e_zq r : Int} (h : TF m pt ph al bl i b fi e) (he : e_zq = e - 1) (hn : (ATP pt ph al e i r ∧ r = 0) ∨ bl e ≠ b) : TF m pt ph al bl i b fi e_zq := by
  refine ⟨?_, by have := h.2; omega⟩
  rcases h.1 with ⟨a, z⟩ | z
  · refine Or.inl ⟨a, fun f hf x w => ?_⟩
    by_cases q : f = e
    · subst q
      rcases hn with ⟨y1, y2⟩ | y
      · exact (y1.mpr ⟨w.1.2.2.1, by rcases w.1.2.2.2 with ⟨u, _⟩ | ⟨_, u⟩; exact Or.inl u; exact Or.inr u⟩) y2
      · exact y w.2
    · exact z f (by omega) x w
  · exact Or.inr z
theorem tf_take {m : Int} {pt ph al bl : Int → Int} {i b fi e e_zq r : Int} (h : TF m pt ph al bl i b fi e) (he : e_zq = e - 1) (e0 : 0 ≤ e) (hn : ATP pt ph al e i r) (hr : r ≠ 0) (hb : bl e = b) : TF m pt ph al bl i b e e_zq := by
  refine ⟨Or.inr ⟨_, acr_J e0 h.2 (hn.mp hr), hb⟩, by have := h.2; omega⟩
theorem mie_none {n m faces : Int} {pt ph al bl fm face rm rot : Int → Int} {b i fi e : Int} (h : MID n m faces pt ph al bl fm face rm rot b i) (i0 : 0 ≤ i) (i1 : i < n) (hf : TF m pt ph al bl i b fi e) (hfi : fi < 0) (he : e < 0) : MIE n m faces pt ph al bl fm face rm rot b i := by
  obtain ⟨rm0, rot0, hE, hx, hk⟩ := h
  have r0 := (hE.1 i i0 i1).1.1
  refine ⟨rm0, rot0, hE, fun j j0 j1 j2 => ?_, fun j j0 j1 j2 => hk j j0 (by omega) j2⟩
  by_cases q : j = i
  · subst q
    have k := hk j j0 (Int.le_refl _) i1
    refine ⟨0, ⟨by have := k.1.1; omega, r0, k.1.2⟩, k.2, by omega, fun t t0 t1 => by omega, fun s t s0 s1 t1 => by omega, fun f x jf bf => ?_, fun _ t t0 t1 => by omega⟩
    rcases hf.1 with ⟨_, z⟩ | ⟨x, jx, _⟩
    · exact absurd ⟨jf, bf⟩ (z f (by have := jf.1; omega) x)
    · have := jx.1; omega
  · exact hx j j0 (by omega) j2
theorem tri_start {n m faces : Int} {pt ph al bl fm face rm rot : Int → Int} {b i fi e : Int} (h : MID n m faces pt ph al bl fm face rm rot b i) (i0 : 0 ≤ i) (i1 : i < n) (hf : TF m pt ph al bl i b fi e) (hfi : 0 ≤ fi) : TRI n m faces pt ph al bl fm face rm rot b i fi fi := by
  obtain ⟨rm0, rot0, hE, hx, hk⟩ := h
  have k := hk i i0 (Int.le_refl _) i1
  refine ⟨rm0, rot0, 0, hE, hx, fun j j0 j1 j2 => hk j j0 (by omega) j2, by have := k.1.1; omega, k.2, ⟨by omega, fun t t0 t1 => by omega, fun s t s0 s1 t1 => by omega, fun t t0 t1 => by omega, fun z => by omega⟩, fun _ => rfl, fun z => by omega, fun t t0 t1 => by omega, ?_⟩
  rcases hf.1 with ⟨z, _⟩ | z
  · omega
  · exact z
theorem trn_0 {n m faces : Int} {pt ph al bl fm face rm rot : Int → Int} {b i fi e : Int} (hg : GOK n m pt ph) (i0 : 0 ≤ i) (i1 : i < n) (hD : DRB m faces pt ph al bl fm face b) (h : TRA n m faces pt ph al bl fm face rm rot b i fi e) (hf : faces ≤ 0) : TRN n m faces pt ph al bl fm face rm rot b i fi e := by
  have hf0 : faces = 0 := by
    rcases hD with ⟨z, _⟩ | ⟨z, _⟩ <;> omega
  have he : e = fi := by
    obtain ⟨rm0, rot0, c, _, _, _, _, _, ⟨c0, t1, t2, t3, t4⟩, h3, h4, _⟩ := h
    by_cases q : c = 1
    · subst q; rw [← h4]; exact t4 h3
    · have := (t3 0 (by omega) (by omega)).1; omega
  exact ⟨fun _ => tra_end hg i0 i1 hD h (Or.inl hf0), fun z => absurd he z⟩
theorem tra_blk {n m faces : Int} {pt ph al bl fm face rm rot : Int → Int} {b i fi e : Int} (h : TRA n m faces pt ph al bl fm face rm rot b i fi e) : ∃ x, JJ m pt ph al e i x ∧ bl e = b := by
  obtain ⟨rm0, rot0, c, _, _, _, _, _, ⟨c0, t1, t2, t3, t4⟩, h3, h4, _⟩ := h
  have := t1 (c - 1) (by omega) (by omega)
  simp only [h4] at this; exact this
theorem tra_bhe {n m faces : Int} {pt ph al bl fm face rm rot : Int → Int} {b i fi e u : Int} (hg : GOK n m pt ph) (hD : DRB m faces pt ph al bl fm face b) (h : TRA n m faces pt ph al bl fm face rm rot b i fi e) (hf : 0 < faces) (hu : ACR pt ph e i u) : BHE faces fm face u i := by
  obtain ⟨x, jx, bx⟩ := tra_blk h
  rcases hD with ⟨z, _⟩ | ⟨_, nx, ρ, hF⟩
  · omega
  · rw [show u = acr pt ph e i from hu]; exact bhe_of hg hF jx bx
theorem tra_edge {n m faces : Int} {pt ph al bl fm face rm rot : Int → Int} {b i fi e u r e_zq : Int} (hg : GOK n m pt ph) (hD : DRB m faces pt ph al bl fm face b) (h : TRA n m faces pt ph al bl fm face rm rot b i fi e) (hf : 0 < faces) (hu : ACR pt ph e i u) (hr : BHP faces fm face u i r) (he : EOF m pt ph al i r e_zq) : JJ m pt ph al e_zq i r ∧ bl e_zq = b ∧ STP m faces pt ph al fm face i e e_zq := by
  obtain ⟨x, jx, bx⟩ := tra_blk h
  rw [show u = acr pt ph e i from hu] at hr
  rcases hD with ⟨z, _⟩ | ⟨_, nx, ρ, hF⟩
  · omega
  · obtain ⟨g, g1, g2⟩ := stp_blk (e_zq := 0) hg hF jx hr
    rcases he with ⟨_, z⟩ | z
    · exact absurd g1 (z g)
    · have := JJ_one hg g1 z
      exact ⟨z, by rw [← this]; exact g2, r, hr, z⟩
theorem trn_1 {n m faces : Int} {pt ph al bl fm face rm rot : Int → Int} {b i fi e u r e_zq : Int} (hg : GOK n m pt ph) (i0 : 0 ≤ i) (i1 : i < n) (hD : DRB m faces pt ph al bl fm face b) (h : TRA n m faces pt ph al bl fm face rm rot b i fi e) (hf : 0 < faces) (hu : ACR pt ph e i u) (hr : BHP faces fm face u i r) (he : EOF m pt ph al i r e_zq) : TRN n m faces pt ph al bl fm face rm rot b i fi e_zq := by
  obtain ⟨x1, x2, x3⟩ := tra_edge hg hD h hf hu hr he
  exact ⟨fun z => tra_end hg i0 i1 hD h (Or.inr (z ▸ x3)), fun z => tra_next hg hD h hf x3 x1 x2 z⟩
end
section
/-! embed: one more block is glued to the rows -/
theorem acr_inj {n m : Int} {pt ph al : Int → Int} {e f i x y : Int} (hg : GOK n m pt ph) (h : JJ m pt ph al e i x) (k : JJ m pt ph al f i y) (he : acr pt ph e i = acr pt ph f i) : e = f := by
  have hi := JJ_irr (al := al) hg
  rw [acr_is (hi _ _ _ h) h, acr_is (hi _ _ _ k) k] at he
  rw [he] at h
  exact JJ_one hg h k
theorem drb_nx {n m faces : Int} {pt ph al bl fm face : Int → Int} {b : Int} (hg : GOK n m pt ph) (hD : DRB m faces pt ph al bl fm face b) : ∃ nx ρ, mp (bA m pt ph al bl b) nx ∧ pls (bA m pt ph al bl b) nx ρ ∧ ∀ C i c, CYC m faces pt ph al bl fm face C b i c → ∀ t, 0 ≤ t → t < c → nx (acr pt ph (C t) i) i = acr pt ph (C (nr c t)) i := by
  have hi := JJ_irr (al := al) hg
  rcases hD with ⟨hf, l, ⟨l0, l1, l2, l3⟩, hu⟩ | ⟨hf, nx, ρ, hF⟩
  · have r := hg.1 l l0 l1
    have e : bA m pt ph al bl b = (fun u v => (u = pt l ∧ v = ph l) ∨ (u = ph l ∧ v = pt l)) := by
      funext u v
      apply propext
      constructor
      · rintro ⟨g, j, gb⟩
        have := hu g ⟨j.1, j.2.1, j.2.2.1, gb⟩
        subst this
        rcases j.2.2.2 with ⟨x, y⟩ | ⟨x, y⟩
        · exact Or.inl ⟨x.symm, y.symm⟩
        · exact Or.inr ⟨y.symm, x.symm⟩
      · rintro (⟨x, y⟩ | ⟨x, y⟩)
        · exact ⟨l, ⟨l0, l1, l2, Or.inl ⟨x.symm, y.symm⟩⟩, l3⟩
        · exact ⟨l, ⟨l0, l1, l2, Or.inr ⟨y.symm, x.symm⟩⟩, l3⟩
    rw [e]
    refine ⟨_, _, one_mp r.2.2.2.2, one_pls r.2.2.2.2, fun C i c ⟨c0, c1, c2, _, _⟩ t t0 tc => ?_⟩
    have hc : c = 1 := by
      by_cases q : c = 1
      · exact q
      · obtain ⟨x0, j0, b0⟩ := c1 0 (by omega) (by omega)
        obtain ⟨x1, j1, b1⟩ := c1 1 (by omega) (by omega)
        exact absurd ((hu _ ⟨j0.1, j0.2.1, j0.2.2.1, b0⟩).trans (hu _ ⟨j1.1, j1.2.1, j1.2.2.1, b1⟩).symm) (c2 0 1 (by omega) (by omega) (by omega))
    subst hc
    have : t = 0 := by omega
    subst this
    rw [nr_eq (by omega)]
  · refine ⟨nx, ρ, hF.1, hF.2.1, fun C i c ⟨c0, c1, c2, _, c4⟩ t t0 tc => ?_⟩
    obtain ⟨r, s1, s2⟩ := c4 hf t t0 tc
    obtain ⟨x, j, _⟩ := c1 t t0 tc
    have z := bhp_nx hF s1
    rw [← z.2, acr_is (hi _ _ _ s2) s2]
theorem emi_glue {n m faces : Int} {pt ph al bl fm face rm rot : Int → Int} {b : Int} (hg : GOK n m pt ph) (hB : ∀ e f i j x y, JJ m pt ph al e i x → JJ m pt ph al f j y → bl e = b → bl f = b → rc (lA m pt ph al bl b) i j → i = j) (hD : DRB m faces pt ph al bl fm face b) (h : MID n m faces pt ph al bl fm face rm rot b n) : EMI n m pt ph al bl rm rot (b + 1) := by
  have hi := JJ_irr (al := al) hg
  obtain ⟨rm0, rot0, ⟨hR, nx1, ρ1, p1, p2, p3⟩, hx, _⟩ := h
  obtain ⟨nx2, ρ2, q1, q2, q3⟩ := drb_nx hg hD
  have hX : ∀ i, 0 ≤ i → i < n → EXT m faces pt ph al bl fm face rm0 rot0 rm rot b i := fun i i0 i1 => hx i i0 i1 i1
  -- the rows
  have row : EMR n m pt ph al bl rm rot (b + 1) := by
    intro i i0 i1
    obtain ⟨c, ⟨e1, e2, e3⟩, e4, c0, c1, c2, c3, _⟩ := hX i i0 i1
    obtain ⟨r0, r1, r2, r3⟩ := hR i i0 i1
    have bb : ∀ k, 0 ≤ k → k < rm i → (k < rm0 i ∧ bl (rt rot i k) < b) ∨ (rm0 i ≤ k ∧ bl (rt rot i k) = b) := by
      intro k k0 k1
      by_cases q : k < rm0 i
      · rw [e4 k k0 q]; obtain ⟨y, _, jy⟩ := r1 k k0 q; exact Or.inl ⟨q, jy⟩
      · obtain ⟨y, _, jy⟩ := c1 (k - rm0 i) (by omega) (by omega)
        simp only [show rm0 i + (k - rm0 i) = k by omega] at jy; exact Or.inr ⟨by omega, jy⟩
    refine ⟨⟨by omega, e3⟩, fun k k0 k1 => ?_, fun k l k0 k1 k2 z => ?_, fun e x je be => ?_⟩
    · by_cases q : k < rm0 i
      · rw [e4 k k0 q]; obtain ⟨y, j, jy⟩ := r1 k k0 q; exact ⟨y, j, by omega⟩
      · obtain ⟨y, j, jy⟩ := c1 (k - rm0 i) (by omega) (by omega)
        simp only [show rm0 i + (k - rm0 i) = k by omega] at j jy; exact ⟨y, j, by omega⟩
    · have hk := bb k k0 (by omega)
      have hl := bb l (by omega) k2
      rw [z] at hk
      by_cases q : l < rm0 i
      · rw [e4 k k0 (by omega), e4 l (by omega) q] at z; exact r2 k l k0 k1 q z
      · by_cases q2 : k < rm0 i
        · omega
        · have := c2 (k - rm0 i) (l - rm0 i) (by omega) (by omega) (by omega)
          simp only [show rm0 i + (k - rm0 i) = k by omega, show rm0 i + (l - rm0 i) = l by omega] at this
          exact this z
    · by_cases q : bl e < b
      · obtain ⟨k, k0, k1, k2⟩ := r3 e x je q
        exact ⟨k, k0, by omega, by rw [e4 k k0 k1]; exact k2⟩
      · obtain ⟨t, t0, t1, t2⟩ := c3 e x je (by omega)
        exact ⟨rm0 i + t, by omega, by omega, t2⟩
  -- who comes behind, by the row
  have hpos : ∀ u v, ∃ w, ∀ k, 0 ≤ v → v < n → 0 ≤ k → k < rm v → acr pt ph (rt rot v k) v = u → w = acr pt ph (rt rot v (nr (rm v) k)) v := by
    intro u v
    by_cases q : ∃ k, 0 ≤ v ∧ v < n ∧ 0 ≤ k ∧ k < rm v ∧ acr pt ph (rt rot v k) v = u
    · obtain ⟨k, v0, v1, k0, k1, k2⟩ := q
      refine ⟨acr pt ph (rt rot v (nr (rm v) k)) v, fun l _ _ l0 l1 l2 => ?_⟩
      obtain ⟨x, j, _⟩ := (row v v0 v1).2.1 k k0 k1
      obtain ⟨y, j_zq, _⟩ := (row v v0 v1).2.1 l l0 l1
      have e := acr_inj hg j j_zq (k2.trans l2.symm)
      have : k = l := by
        rcases Int.lt_trichotomy k l with z | z | z
        · exact absurd e ((row v v0 v1).2.2.1 k l k0 z l1)
        · exact z
        · exact absurd e.symm ((row v v0 v1).2.2.1 l k l0 z k1)
      rw [this]
    · exact ⟨0, fun k v0 v1 k0 k1 k2 => absurd ⟨k, v0, v1, k0, k1, k2⟩ q⟩
  have hN : ∃ nx : Int → Int → Int, ∀ v k, 0 ≤ v → v < n → 0 ≤ k → k < rm v → nx (acr pt ph (rt rot v k) v) v = acr pt ph (rt rot v (nr (rm v) k)) v :=
    ⟨fun u v => Classical.choose (hpos u v), fun v k v0 v1 k0 k1 => Classical.choose_spec (hpos (acr pt ph (rt rot v k) v) v) k v0 v1 k0 k1 rfl⟩
  obtain ⟨nx, hnx⟩ := hN
  have e : (fun u v => lA m pt ph al bl b u v ∨ bA m pt ph al bl b u v) = lA m pt ph al bl (b + 1) := by
    funext u v
    apply propext
    constructor
    · rintro (⟨g, j, z⟩ | ⟨g, j, z⟩)
      · exact ⟨g, j, by omega⟩
      · exact ⟨g, j, by omega⟩
    · rintro ⟨g, j, z⟩
      by_cases q : bl g < b
      · exact Or.inl ⟨g, j, q⟩
      · exact Or.inr ⟨g, j, by omega⟩
  have glue : glu (lA m pt ph al bl b) (bA m pt ph al bl b) nx1 nx2 nx (fun v => acr pt ph (rt rot0 v (rm0 v - 1)) v) (fun v => acr pt ph (rt rot v (rm v - 1)) v) := by
    refine ⟨fun i j ⟨_, u, g, g1, g2⟩ ⟨_, u_zq, g_zq, g1_zq, g2_zq⟩ hr => ?_, fun v ⟨⟨u, g, g1, g2⟩, u_zq, g_zq, g1_zq, g2_zq⟩ => ?_, fun u v ⟨g, g1, g2⟩ hn => ?_, fun u v ⟨g, g1, g2⟩ hn => ?_⟩
    · exact hB _ _ _ _ _ _ (JJ_sym _ _ _ g1) (JJ_sym _ _ _ g1_zq) g2 g2_zq hr
    · have rv := JJ_rng hg g1
      have v0 := rv.2.2.1
      have v1 := rv.2.2.2
      obtain ⟨c, ⟨e1, e2, e3⟩, e4, hc⟩ := hX v v0 v1
      obtain ⟨r0, r1, r2, r3⟩ := hR v v0 v1
      obtain ⟨k, k0, k1, k2⟩ := r3 g u (JJ_sym _ _ _ g1) g2
      obtain ⟨t, t0, t1, t2⟩ := hc.2.2.2.1 g_zq u_zq (JJ_sym _ _ _ g1_zq) g2_zq
      obtain ⟨x, jx, bx⟩ := r1 (rm0 v - 1) (by omega) (by omega)
      obtain ⟨y, jy, by_zq⟩ := hc.2.1 (c - 1) (by omega) (by omega)
      simp only [show rm0 v + (c - 1) = rm v - 1 by omega] at jy by_zq
      refine ⟨⟨_, by show JJ m pt ph al _ (acr pt ph (rt rot0 v (rm0 v - 1)) v) v; rw [acr_is (hi _ _ _ jx) jx]; exact JJ_sym _ _ _ jx, bx⟩, ⟨_, by show JJ m pt ph al _ (acr pt ph (rt rot v (rm v - 1)) v) v; rw [acr_is (hi _ _ _ jy) jy]; exact JJ_sym _ _ _ jy, by_zq⟩, ?_, ?_⟩
      · have a1 := hnx v (rm0 v - 1) v0 v1 (by omega) (by omega)
        rw [e4 _ (by omega) (by omega), nr_lt (by omega), show rm0 v - 1 + 1 = rm0 v by omega] at a1
        have a2 := q3 _ v c hc (c - 1) (by omega) (by omega)
        rw [nr_eq (by omega)] at a2
        simp only [show rm0 v + (c - 1) = rm v - 1 by omega, show rm0 v + 0 = rm0 v by omega] at a2
        exact a1.trans a2.symm
      · have a1 := hnx v (rm v - 1) v0 v1 (by omega) (by omega)
        rw [nr_eq (by omega), e4 0 (by omega) (by omega)] at a1
        have a2 := p3 v v0 v1 (rm0 v - 1) (by omega) (by omega)
        rw [nr_eq (by omega)] at a2
        exact a1.trans a2.symm
    · have rv := JJ_rng hg g1
      have v0 := rv.2.2.1
      have v1 := rv.2.2.2
      obtain ⟨c, ⟨e1, e2, e3⟩, e4, hc⟩ := hX v v0 v1
      obtain ⟨r0, r1, r2, r3⟩ := hR v v0 v1
      obtain ⟨k, k0, k1, k2⟩ := r3 g u (JJ_sym _ _ _ g1) g2
      have ek : acr pt ph (rt rot0 v k) v = u := by rw [k2]; exact acr_is (hi _ _ _ (JJ_sym _ _ _ g1)) (JJ_sym _ _ _ g1)
      have a1 := hnx v k v0 v1 k0 (by have := hc.1; omega)
      have a2 := p3 v v0 v1 k k0 k1
      rw [e4 k k0 k1, ek] at a1
      rw [ek] at a2
      by_cases q : k + 1 < rm0 v
      · rw [nr_lt (by have := hc.1; omega), e4 _ (by omega) q] at a1
        rw [nr_lt q] at a2
        exact a1.trans a2.symm
      · have c0 : c = 0 := Classical.byContradiction (fun z => by
          obtain ⟨y, jy, by_zq⟩ := hc.2.1 0 (by omega) (by have := hc.1; omega)
          refine hn ⟨⟨⟨u, g, g1, g2⟩, y, _, JJ_sym _ _ _ jy, by_zq⟩, ?_⟩
          show u = acr pt ph (rt rot0 v (rm0 v - 1)) v
          rw [show rm0 v - 1 = k by omega]; exact ek.symm)
        rw [nr_eq (by omega), e4 0 (by omega) (by omega)] at a1
        rw [nr_eq (by omega)] at a2
        exact a1.trans a2.symm
    · have rv := JJ_rng hg g1
      have v0 := rv.2.2.1
      have v1 := rv.2.2.2
      obtain ⟨c, ⟨e1, e2, e3⟩, e4, hc⟩ := hX v v0 v1
      obtain ⟨r0, r1, r2, r3⟩ := hR v v0 v1
      obtain ⟨t, t0, t1, t2⟩ := hc.2.2.2.1 g u (JJ_sym _ _ _ g1) g2
      have t2_zq : rt rot v (rm0 v + t) = g := t2
      have ek : acr pt ph (rt rot v (rm0 v + t)) v = u := by rw [t2_zq]; exact acr_is (hi _ _ _ (JJ_sym _ _ _ g1)) (JJ_sym _ _ _ g1)
      have a1 := hnx v (rm0 v + t) v0 v1 (by omega) (by omega)
      have a2 := q3 _ v c hc t t0 t1
      rw [ek] at a1
      simp only [ek] at a2
      by_cases q : t + 1 < c
      · rw [nr_lt (by omega), show rm0 v + t + 1 = rm0 v + (t + 1) by omega] at a1
        rw [nr_lt q] at a2
        exact a1.trans a2.symm
      · have c0 : rm0 v = 0 := Classical.byContradiction (fun z => by
          obtain ⟨y, jy, by_zq⟩ := r1 0 (by omega) (by omega)
          refine hn ⟨⟨⟨y, _, JJ_sym _ _ _ jy, by_zq⟩, u, g, g1, g2⟩, ?_⟩
          show u = acr pt ph (rt rot v (rm v - 1)) v
          rw [show rm v - 1 = rm0 v + t by omega]; exact ek.symm)
        rw [nr_eq (by omega)] at a1
        rw [nr_eq (by omega)] at a2
        simp only [show rm0 v + 0 = 0 by omega] at a2
        exact a1.trans a2.symm
  refine ⟨row, nx, glr (lA m pt ph al bl b) (bA m pt ph al bl b) ρ1 ρ2, ?_, ?_, fun i i0 i1 k k0 k1 => hnx i k i0 i1 k0 k1⟩
  · rw [← e]; exact glu_mp p1 q1 glue
  · rw [← e]; exact glu_pls p1 q1 glue p2 q2
theorem emi_step {n m faces : Int} {pt ph al bl fm face rm rot : Int → Int} {b many : Int} (hg : GOK n m pt ph) (hB : BK m pt ph al bl many) (hD : DRB m faces pt ph al bl fm face b) (h : MID n m faces pt ph al bl fm face rm rot b n) : EMI n m pt ph al bl rm rot (b + 1) :=
  emi_glue hg (fun e f i j x y he hf be bf hr => blk_meet JJ_sym JJ_uni hB.1 he hf be bf (rc_mono (fun a c ⟨k, k1, k2⟩ => ⟨k, k1, by omega⟩) hr)) hD h
end
section
/-! embed -/
def E0 (rm : Int → Int) (i : Int) : Prop := ∀ j, 0 ≤ j → j < i → rm j = 0
def EMQ (n m : Int) (pt ph al bl rm rot : Int → Int) (r : Int) : Prop := r ≠ 0 → ∃ many b, BK m pt ph al bl many ∧ many ≤ b ∧ EMI n m pt ph al bl rm rot b
theorem emi_0 {n m : Int} {pt ph al bl rm rot : Int → Int} {many i b : Int} (hB : BK m pt ph al bl many) (h : E0 rm i) (hi : n ≤ i) (hb : b = 0) : EMI n m pt ph al bl rm rot b := by
  subst hb
  have no : ∀ u v, ¬ lA m pt ph al bl 0 u v := fun u v ⟨e, j, z⟩ => by have := ((hB.2.2.1 e j.1 j.2.1).1 j.2.2.1).1; omega
  refine ⟨fun j j0 j1 => ?_, fun u _ => u, fun _ _ _ => false, ⟨⟨fun u v h => absurd h (no u v), fun u v h => absurd h (no u v)⟩, fun u v h => absurd h (no u v), fun u u_zq v h => absurd h (no u v), fun v L hL u u_zq h => absurd h (no u v)⟩, fun u v h => absurd h (no u v), fun j j0 j1 k k0 k1 => ?_⟩
  · have z := h j j0 (by omega)
    exact ⟨by omega, fun k k0 k1 => by omega, fun k l k0 k1 k2 => by omega, fun e x je be => absurd ⟨e, je, be⟩ (no j x)⟩
  · have z := h j j0 (by omega); omega
theorem mid_0 {n m faces : Int} {pt ph al bl fm face rm rot : Int → Int} {b i : Int} (h : EMI n m pt ph al bl rm rot b) (hi : i = 0) : MID n m faces pt ph al bl fm face rm rot b i := by
  subst hi
  exact ⟨rm, rot, h, fun i i0 i1 => by omega, fun i i0 i1 i2 => ⟨⟨rfl, (h.1 i i0 i2).1.2⟩, fun k k0 k1 => rfl⟩⟩
theorem mid_n {n m faces : Int} {pt ph al bl fm face rm rot : Int → Int} {b i : Int} (h : MID n m faces pt ph al bl fm face rm rot b i) (hi : n ≤ i) : MID n m faces pt ph al bl fm face rm rot b n := by
  obtain ⟨rm0, rot0, h1, h2, h3⟩ := h
  exact ⟨rm0, rot0, h1, fun j j0 j1 j2 => h2 j j0 (by omega) j2, fun j j0 j1 j2 => by omega⟩
theorem emi_nx {n m faces : Int} {pt ph al bl fm face rm rot : Int → Int} {b b_zq i many : Int} (hg : GOK n m pt ph) (hB : BK m pt ph al bl many) (hD : DRB m faces pt ph al bl fm face b) (h : MID n m faces pt ph al bl fm face rm rot b i) (hi : n ≤ i) (hb : b_zq = b + 1) : EMI n m pt ph al bl rm rot b_zq := by
  subst hb; exact emi_step hg hB hD (mid_n h hi)
theorem mie_mid {n m faces : Int} {pt ph al bl fm face rm rot : Int → Int} {b i i_zq : Int} (h : MIE n m faces pt ph al bl fm face rm rot b i) (hi : i_zq = i + 1) : MID n m faces pt ph al bl fm face rm rot b i_zq := by
  subst hi; exact h
theorem drb_of {m faces : Int} {pt ph al bl fm face : Int → Int} {b r : Int} (h : DRQ m faces pt ph al bl fm face b r) (hr : r ≠ 0) : DRB m faces pt ph al bl fm face b := h hr
end
section
/-! rounds of darts: dart d goes along edge d / 2, from its tail where d is even -/
def dto (pt ph : Int → Int) (d : Int) : Int := if d % 2 = 0 then ph (d / 2) else pt (d / 2)
def dfr (pt ph : Int → Int) (d : Int) : Int := if d % 2 = 0 then pt (d / 2) else ph (d / 2)
def liv (m : Int) (al : Int → Int) (d : Int) : Prop := 0 ≤ d ∧ d < 2 * m ∧ al (d / 2) = 1
def NDT (m : Int) (pt ph rm rot : Int → Int) (d d_zq : Int) : Prop := 0 ≤ d_zq ∧ d_zq < 2 * m ∧ dfr pt ph d_zq = dto pt ph d ∧ ∃ k, 0 ≤ k ∧ k < rm (dto pt ph d) ∧ rt rot (dto pt ph d) k = d / 2 ∧ rt rot (dto pt ph d) (nr (rm (dto pt ph d)) k) = d_zq / 2
theorem dart_J {m : Int} {pt ph al : Int → Int} {d : Int} (h : liv m al d) : JJ m pt ph al (d / 2) (dfr pt ph d) (dto pt ph d) := by
  refine ⟨by have := h.1; omega, by have := h.2.1; omega, h.2.2, ?_⟩
  unfold dto dfr
  by_cases q : d % 2 = 0
  · rw [if_pos q, if_pos q]; exact Or.inl ⟨rfl, rfl⟩
  · rw [if_neg q, if_neg q]; exact Or.inr ⟨rfl, rfl⟩
theorem dart_eq {n m : Int} {pt ph al : Int → Int} {d d_zq : Int} (hg : GOK n m pt ph) (h : liv m al d) (he : d / 2 = d_zq / 2) (ht : dto pt ph d = dto pt ph d_zq) : d = d_zq := by
  have r := hg.1 (d / 2) (by have := h.1; omega) (by have := h.2.1; omega)
  unfold dto at ht
  rw [← he] at ht
  by_cases q : d % 2 = 0 <;> by_cases q_zq : d_zq % 2 = 0
  · omega
  · rw [if_pos q, if_neg q_zq] at ht; exact absurd ht.symm r.2.2.2.2
  · rw [if_neg q, if_pos q_zq] at ht; exact absurd ht r.2.2.2.2
  · omega
theorem nr_inj {L k l : Int} (k0 : 0 ≤ k) (k1 : k < L) (l0 : 0 ≤ l) (l1 : l < L) (h : nr L k = nr L l) : k = l := by
  unfold nr at h
  revert h
  split <;> split <;> omega
/-- the rows list every living edge, and follow a plane map -/
def EML (n m : Int) (pt ph al rm rot : Int → Int) : Prop := EMI n m pt ph al (fun _ => 0) rm rot 1
theorem eml_of {n m : Int} {pt ph al bl rm rot : Int → Int} {many b : Int} (hB : BK m pt ph al bl many) (hb : many ≤ b) (h : EMI n m pt ph al bl rm rot b) : EML n m pt ph al rm rot := by
  have hl : lA m pt ph al (fun _ => 0) 1 = lA m pt ph al bl b := by
    funext u v
    exact propext ⟨fun ⟨e, j, _⟩ => ⟨e, j, by have := ((hB.2.2.1 e j.1 j.2.1).1 j.2.2.1).2; omega⟩, fun ⟨e, j, _⟩ => ⟨e, j, by show (0 : Int) < 1; omega⟩⟩
  unfold EML EMI
  rw [hl]
  refine ⟨fun i i0 i1 => ?_, h.2⟩
  obtain ⟨r1, r2, r3, r4⟩ := h.1 i i0 i1
  exact ⟨r1, fun k k0 k1 => by obtain ⟨x, j, _⟩ := r2 k k0 k1; exact ⟨x, j, by show (0 : Int) < 1; omega⟩, r3, fun e x j _ => r4 e x j (by have := ((hB.2.2.1 e j.1 j.2.1).1 j.2.2.1).2; omega)⟩
theorem emq_row {n m : Int} {pt ph al rm rot : Int → Int} (h : EML n m pt ph al rm rot) {i e x : Int} (i0 : 0 ≤ i) (i1 : i < n) (hj : JJ m pt ph al e i x) : ∃ k, 0 ≤ k ∧ k < rm i ∧ rt rot i k = e :=
  (h.1 i i0 i1).2.2.2 e x hj (by show (0 : Int) < 1; omega)
theorem ndt_liv {n m : Int} {pt ph al bl rm rot : Int → Int} {b d d_zq : Int} (hg : GOK n m pt ph) (h : EMI n m pt ph al bl rm rot b) (hd : liv m al d) (hn : NDT m pt ph rm rot d d_zq) : liv m al d_zq := by
  have r := JJ_rng hg (dart_J (pt := pt) (ph := ph) hd)
  obtain ⟨a, c, _, k, k0, k1, _, k3⟩ := hn
  have z := nr_rng k0 k1
  obtain ⟨x, jx, _⟩ := (h.1 _ r.2.2.1 r.2.2.2).2.1 _ z.1 z.2
  rw [k3] at jx
  exact ⟨a, c, jx.2.2.1⟩
theorem ndt_inj {n m : Int} {pt ph al bl rm rot : Int → Int} {b d1 d2 d_zq : Int} (hg : GOK n m pt ph) (h : EMI n m pt ph al bl rm rot b) (h1 : liv m al d1) (h2 : liv m al d2) (n1 : NDT m pt ph rm rot d1 d_zq) (n2 : NDT m pt ph rm rot d2 d_zq) : d1 = d2 := by
  have r := JJ_rng hg (dart_J (pt := pt) (ph := ph) h1)
  obtain ⟨_, _, a1, k, k0, k1, k2, k3⟩ := n1
  obtain ⟨_, _, a2, l, l0, l1, l2, l3⟩ := n2
  have ht : dto pt ph d1 = dto pt ph d2 := a1.symm.trans a2
  rw [← ht] at l1 l2 l3
  have z1 := nr_rng k0 k1
  have z2 := nr_rng l0 l1
  have hds := (h.1 _ r.2.2.1 r.2.2.2).2.2.1
  have hk : nr (rm (dto pt ph d1)) k = nr (rm (dto pt ph d1)) l := by
    rcases Int.lt_trichotomy (nr (rm (dto pt ph d1)) k) (nr (rm (dto pt ph d1)) l) with q | q | q
    · exact absurd (k3.trans l3.symm) (hds _ _ z1.1 q z2.2)
    · exact q
    · exact absurd (l3.trans k3.symm) (hds _ _ z2.1 q z1.2)
  have := nr_inj k0 k1 l0 l1 hk
  rw [this] at k2
  exact dart_eq hg h1 (k2.symm.trans l2) ht
/-- the next dart of a row is the map's -/
theorem ndt_nx {n m : Int} {pt ph al bl rm rot : Int → Int} {b d d_zq : Int} {nx : Int → Int → Int} (hg : GOK n m pt ph) (hr : EMR n m pt ph al bl rm rot b) (hx : ∀ i, 0 ≤ i → i < n → ∀ k, 0 ≤ k → k < rm i → nx (acr pt ph (rt rot i k) i) i = acr pt ph (rt rot i (nr (rm i) k)) i) (hd : liv m al d) (hl : liv m al d_zq) (hn : NDT m pt ph rm rot d d_zq) : dto pt ph d_zq = nx (dfr pt ph d) (dto pt ph d) := by
  have hi := JJ_irr (al := al) hg
  have j := dart_J (pt := pt) (ph := ph) hd
  have j_zq := dart_J (pt := pt) (ph := ph) hl
  have r := JJ_rng hg j
  obtain ⟨_, _, a1, k, k0, k1, k2, k3⟩ := hn
  have := hx _ r.2.2.1 r.2.2.2 k k0 k1
  rw [k2, k3, acr_is (fun z => hi _ _ _ j z.symm) (JJ_sym _ _ _ j)] at this
  rw [a1] at j_zq
  rw [acr_is (hi _ _ _ j_zq) j_zq] at this
  exact this.symm
def DFR (pt ph : Int → Int) (d r : Int) : Prop := r = dfr pt ph d
def DTO (pt ph : Int → Int) (d r : Int) : Prop := r = dto pt ph d
def LIV (m : Int) (al : Int → Int) (d : Int) : Prop := liv m al d
def ND1 (pt ph rot : Int → Int) (d i e k : Int) : Prop := (i = dto pt ph d ∧ e = d / 2) ∧ ∀ j, 0 ≤ j → j < k → rt rot i j ≠ e
theorem nd1_lt {n m : Int} {pt ph al rm rot : Int → Int} {d i e k : Int} (hg : GOK n m pt ph) (hE : EML n m pt ph al rm rot) (hd : LIV m al d) (h : ND1 pt ph rot d i e k) : 0 ≤ i ∧ i < n ∧ k < rm i ∧ rm i ≤ 80 := by
  have hI := hE
  have j := dart_J (pt := pt) (ph := ph) hd
  have r := JJ_rng hg j
  obtain ⟨⟨h1, h2⟩, h3⟩ := h
  rw [← h1, ← h2] at j
  rw [← h1] at r
  obtain ⟨l, l0, l1, l2⟩ := emq_row hE r.2.2.1 r.2.2.2 (JJ_sym _ _ _ j)
  refine ⟨r.2.2.1, r.2.2.2, ?_, (hI.1 i r.2.2.1 r.2.2.2).1.2⟩
  exact Classical.byContradiction (fun z => h3 l l0 (by omega) l2)
theorem nd1_next {pt ph rot : Int → Int} {d i e k k_zq : Int} (h : ND1 pt ph rot d i e k) (hk : k_zq = k + 1) (hn : rt rot i k ≠ e) : ND1 pt ph rot d i e k_zq := by
  refine ⟨h.1, fun j j0 j1 => ?_⟩
  by_cases q : j = k
  · rw [q]; exact hn
  · exact h.2 j j0 (by omega)
theorem ndt_of {n m : Int} {pt ph al rm rot : Int → Int} {d i e k f d_zq : Int} (hg : GOK n m pt ph) (hE : EML n m pt ph al rm rot) (hd : LIV m al d) (h : ND1 pt ph rot d i e k) (k0 : 0 ≤ k) (he : rt rot i k = e) (hf : rt rot i (nr (rm i) k) = f) (hc : (pt f = i ∧ d_zq = 2 * f) ∨ (pt f ≠ i ∧ d_zq = 2 * f + 1)) : NDT m pt ph rm rot d d_zq := by
  have hl := nd1_lt hg hE hd h
  have hI := hE
  obtain ⟨⟨h1, h2⟩, h3⟩ := h
  have z := nr_rng k0 hl.2.2.1
  obtain ⟨x, jx, _⟩ := (hI.1 i hl.1 hl.2.1).2.1 _ z.1 z.2
  rw [hf] at jx
  have f0 := jx.1
  have f1 := jx.2.1
  have hd2 : d_zq / 2 = f := by rcases hc with ⟨_, w⟩ | ⟨_, w⟩ <;> omega
  refine ⟨by rcases hc with ⟨_, w⟩ | ⟨_, w⟩ <;> omega, by rcases hc with ⟨_, w⟩ | ⟨_, w⟩ <;> omega, ?_, k, k0, by rw [← h1]; exact hl.2.2.1, by rw [← h1, he, h2], by rw [← h1, hf, hd2]⟩
  rw [← h1]
  unfold dfr
  rw [hd2]
  rcases hc with ⟨w1, w⟩ | ⟨w1, w⟩
  · rw [if_pos (by omega)]; exact w1
  · rw [if_neg (by omega)]
    rcases jx.2.2.2 with ⟨y, _⟩ | ⟨_, y⟩
    · exact absurd y w1
    · exact y
end
section
/-! goRound: rounds of darts -/
def wrd (rd : Int → Int) (N d : Int) : Prop := ∃ p, 0 ≤ p ∧ p < N ∧ rd p = d
/-- the first B darts are whole rounds -/
def HOL (m : Int) (pt ph rm rot rd : Int → Int) (B : Int) : Prop := ∀ p, 0 ≤ p → p < B → ∃ q, 0 ≤ q ∧ q < B ∧ NDT m pt ph rm rot (rd q) (rd p)
def nxb (rb : Int → Int) (R N r : Int) : Int := if r + 1 = R then N else rb (r + 1)
def RND (m : Int) (pt ph rm rot rb rd : Int → Int) (R N : Int) : Prop := 0 ≤ R ∧ R ≤ N ∧ (R = 0 → N = 0) ∧ (0 < R → rb 0 = 0) ∧ ∀ r, 0 ≤ r → r < R → 0 ≤ rb r ∧ rb r < nxb rb R N r ∧ nxb rb R N r ≤ N ∧ ∀ p, rb r ≤ p → p < nxb rb R N r → NDT m pt ph rm rot (rd p) (rd (if p + 1 = nxb rb R N r then rb r else p + 1))
def DST (m : Int) (al rd : Int → Int) (N : Int) : Prop := 0 ≤ N ∧ (∀ p, 0 ≤ p → p < N → liv m al (rd p)) ∧ ∀ p q, 0 ≤ p → p < q → q < N → rd p ≠ rd q
theorem dst_len {m : Int} {al rd : Int → Int} {N x : Int} (h : DST m al rd N) (hx : liv m al x) (hn : ¬ wrd rd N x) : N + 1 ≤ 2 * m := by
  obtain ⟨n0, h1, h2⟩ := h
  have := php (N + 1).toNat (2 * m).toNat (fun t => (if (t : Int) < N then rd t else x).toNat) (fun t ht => ?_) (fun s t hs ht z => ?_)
  · have := hx.1; have := hx.2.1; omega
  · show (if (t : Int) < N then rd t else x).toNat < (2 * m).toNat
    split
    · next q => have := h1 t (by omega) q; have := this.1; have := (h1 t (by omega) q).2.1; omega
    · have := hx.1; have := hx.2.1; omega
  · have z_zq : (if (s : Int) < N then rd s else x).toNat = (if (t : Int) < N then rd t else x).toNat := z
    have x0 := hx.1
    by_cases qs : (s : Int) < N <;> by_cases qt : (t : Int) < N
    · rw [if_pos qs, if_pos qt] at z_zq
      have p1 := (h1 s (by omega) qs).1
      have p2 := (h1 t (by omega) qt).1
      rcases Nat.lt_trichotomy s t with q | q | q
      · exact absurd (by omega) (h2 s t (by omega) (by omega) qt)
      · exact q
      · exact absurd (by omega) (h2 t s (by omega) (by omega) qs)
    · rw [if_pos qs, if_neg qt] at z_zq
      have p1 := (h1 s (by omega) qs).1
      exact absurd ⟨s, by omega, qs, by omega⟩ hn
    · rw [if_neg qs, if_pos qt] at z_zq
      have p1 := (h1 t (by omega) qt).1
      exact absurd ⟨t, by omega, qt, by omega⟩ hn
    · omega
theorem dst_le {m : Int} {al rd : Int → Int} {N : Int} (hm : 0 ≤ m) (h : DST m al rd N) : N ≤ 2 * m := by
  by_cases q : N = 0
  · omega
  · have n0 := h.1
    have := dst_len (N := N - 1) (x := rd (N - 1)) ⟨by omega, fun p p0 p1 => h.2.1 p p0 (by omega), fun p q p0 p1 p2 => h.2.2 p q p0 p1 (by omega)⟩ (h.2.1 _ (by omega) (by omega)) (fun ⟨p, p0, p1, p2⟩ => h.2.2 p (N - 1) p0 p1 (by omega) p2)
    omega
/-- a way of steps that begins at place B with dart d; x comes next -/
def CHN (m : Int) (pt ph rm rot rd : Int → Int) (B N d : Int) : Prop := B ≤ N ∧ (∀ p, B ≤ p → p + 1 < N → NDT m pt ph rm rot (rd p) (rd (p + 1))) ∧ (B < N → rd B = d)
/-- the next one is new, or the first -/
theorem chn_new {n m : Int} {pt ph al bl rm rot rd : Int → Int} {b B N d x_zq : Int} (hg : GOK n m pt ph) (hE : EMI n m pt ph al bl rm rot b) (hD : DST m al rd N) (hH : HOL m pt ph rm rot rd B) (hC : CHN m pt ph rm rot rd B N d) (B0 : 0 ≤ B) (hN : B < N) (hs : NDT m pt ph rm rot (rd (N - 1)) x_zq) (hne : x_zq ≠ d) : ¬ wrd rd N x_zq := by
  rintro ⟨p, p0, p1, p2⟩
  have l1 := hD.2.1 (N - 1) (by omega) (by omega)
  have key : ∀ q, 0 ≤ q → q < N → q ≠ N - 1 → NDT m pt ph rm rot (rd q) x_zq → False := by
    intro q q0 q1 q2 hq
    have := ndt_inj hg hE (hD.2.1 q q0 q1) l1 hq hs
    exact hD.2.2 q (N - 1) q0 (by omega) (by omega) this
  by_cases c : p < B
  · obtain ⟨q, q0, q1, q2⟩ := hH p p0 c
    rw [p2] at q2
    exact key q q0 (by omega) (by omega) q2
  · by_cases c2 : p = B
    · rw [c2] at p2; exact hne (p2.symm.trans (hC.2.2 hN))
    · have := hC.2.1 (p - 1) (by omega) (by omega)
      rw [show p - 1 + 1 = p by omega, p2] at this
      exact key (p - 1) (by omega) (by omega) (by omega) this
/-- in its round -/
def inR (rb rd : Int → Int) (R N r y : Int) : Prop := 0 ≤ r ∧ r < R ∧ ∃ p, rb r ≤ p ∧ p < nxb rb R N r ∧ rd p = y
def RO0 (ro : Int → Int) (d : Int) : Prop := ∀ j, 0 ≤ j → j < d → ro j = -1
def GOI (m R : Int) (pt ph al rm rot ro rb rd : Int → Int) (N d : Int) : Prop := RND m pt ph rm rot rb rd R N ∧ DST m al rd N ∧ HOL m pt ph rm rot rd N ∧ (∀ y, liv m al y → (ro y = -1 ∧ ¬ wrd rd N y) ∨ inR rb rd R N (ro y) y) ∧ ∀ y, liv m al y → y < d → wrd rd N y
def GIC (m R : Int) (pt ph al rm rot ro rb rd : Int → Int) (N d : Int) : Prop := RND m pt ph rm rot rb rd R (rb R) ∧ HOL m pt ph rm rot rd (rb R) ∧ DST m al rd N ∧ CHN m pt ph rm rot rd (rb R) N d ∧ liv m al d ∧ (∀ y, liv m al y → (ro y = -1 ∧ ¬ wrd rd N y) ∨ inR rb rd R (rb R) (ro y) y ∨ (ro y = R ∧ ∃ p, rb R ≤ p ∧ p < N ∧ rd p = y)) ∧ ∀ y, liv m al y → y < d → wrd rd (rb R) y
def GII (m R : Int) (pt ph al rm rot ro rb rd : Int → Int) (N d x : Int) : Prop := GIC m R pt ph al rm rot ro rb rd N d ∧ (rb R < N → NDT m pt ph rm rot (rd (N - 1)) x) ∧ (N = rb R → x = d) ∧ ¬ wrd rd N x ∧ liv m al x
def GIA (m R : Int) (pt ph al rm rot ro rb rd : Int → Int) (N d x : Int) : Prop := GIC m R pt ph al rm rot ro rb rd N d ∧ rb R < N ∧ rd (N - 1) = x
def GIT (m R : Int) (pt ph al rm rot ro rb rd : Int → Int) (N d x : Int) : Prop := GIC m R pt ph al rm rot ro rb rd N d ∧ rb R < N ∧ NDT m pt ph rm rot (rd (N - 1)) x
def GRD (m R : Int) (pt ph al rm rot ro rb rd : Int → Int) : Prop := RND m pt ph rm rot rb rd R (rb R) ∧ DST m al rd (rb R) ∧ ∀ y, liv m al y → inR rb rd R (rb R) (ro y) y
theorem wrd_le {rd : Int → Int} {N N' d : Int} (h : wrd rd N d) (hn : N ≤ N') : wrd rd N' d := by
  obtain ⟨p, p0, p1, p2⟩ := h; exact ⟨p, p0, by omega, p2⟩
theorem inR_wrd {m : Int} {pt ph rm rot rb rd : Int → Int} {R N r y : Int} (h : RND m pt ph rm rot rb rd R N) (k : inR rb rd R N r y) : wrd rd N y := by
  obtain ⟨r0, r1, p, p0, p1, p2⟩ := k
  have z := h.2.2.2.2 r r0 r1
  exact ⟨p, by omega, by omega, p2⟩
theorem goi_start {m R d N e : Int} {pt ph al rm rot ro rb rd : Int → Int} (h : RO0 ro d) (hd : 2 * m ≤ d) (hR : R = 0) (hN : N = 0) (he : e = 0) : GOI m R pt ph al rm rot ro rb rd N e := by
  subst hR; subst hN; subst he
  refine ⟨⟨by omega, by omega, fun _ => rfl, fun q => by omega, fun r r0 r1 => by omega⟩, ⟨by omega, fun p p0 p1 => by omega, fun p q p0 p1 p2 => by omega⟩, fun p p0 p1 => by omega, fun y hy => Or.inl ⟨h y hy.1 (by have := hy.2.1; omega), fun ⟨p, p0, p1, _⟩ => by omega⟩, fun y hy q => by have := hy.1; omega⟩
theorem goi_skip {m R N d d_zq : Int} {pt ph al rm rot ro rb rd : Int → Int} (h : GOI m R pt ph al rm rot ro rb rd N d) (hd : d_zq = d + 1) (hs : al (d / 2) ≠ 1 ∨ 0 ≤ ro d) : GOI m R pt ph al rm rot ro rb rd N d_zq := by
  obtain ⟨h1, h2, h3, h4, h5⟩ := h
  refine ⟨h1, h2, h3, h4, fun y hy q => ?_⟩
  by_cases e : y = d
  · rcases hs with hs | hs
    · rw [e] at hy; exact absurd hy.2.2 hs
    · rcases h4 y hy with ⟨z, _⟩ | z
      · rw [e] at z; omega
      · exact inR_wrd h1 z
  · exact h5 y hy (by omega)
theorem nxb_st {rb rb_zq : Int → Int} {R N p v r : Int} (hs : st1 rb rb_zq p v) (hp : p = R) (hv : v = N) (r0 : 0 ≤ r) (r1 : r < R) : rb_zq r = rb r ∧ nxb rb_zq R N r = nxb rb R N r ∧ nxb rb_zq R (rb_zq R) r = nxb rb R N r := by
  have a := (hs r r0).2 (by omega)
  have b := (hs R (by omega)).1 (by omega)
  refine ⟨a, ?_, ?_⟩
  · unfold nxb
    split
    · rfl
    · exact (hs (r + 1) (by omega)).2 (by omega)
  · unfold nxb
    split
    · rw [b, hv]
    · exact (hs (r + 1) (by omega)).2 (by omega)
theorem rnd_st {m : Int} {pt ph rm rot rb rb_zq rd : Int → Int} {R N p v : Int} (h : RND m pt ph rm rot rb rd R N) (hs : st1 rb rb_zq p v) (hp : p = R) (hv : v = N) : RND m pt ph rm rot rb_zq rd R (rb_zq R) ∧ rb_zq R = N := by
  have b : rb_zq R = N := ((hs R h.1).1 hp.symm).trans hv
  refine ⟨?_, b⟩
  obtain ⟨h1, h2, h3, h4, h5⟩ := h
  refine ⟨h1, by omega, fun q => by rw [b]; exact h3 q, fun q => ?_, fun r r0 r1 => ?_⟩
  · rw [(nxb_st hs hp hv (r := 0) (by omega) q).1]; exact h4 q
  · obtain ⟨e1, _, e2⟩ := nxb_st hs hp hv r0 r1
    rw [e1, e2, b]
    exact h5 r r0 r1
theorem inR_st {rb rb_zq rd : Int → Int} {R N p v r y : Int} (hs : st1 rb rb_zq p v) (hp : p = R) (hv : v = N) (h : inR rb rd R N r y) : inR rb_zq rd R (rb_zq R) r y := by
  obtain ⟨r0, r1, h2⟩ := h
  obtain ⟨e1, _, e2⟩ := nxb_st hs hp hv r0 r1
  unfold inR
  rw [e1, e2]
  exact ⟨r0, r1, h2⟩
theorem gii_start {m R N d p v x : Int} {pt ph al rm rot ro rb rb_zq rd : Int → Int} (h : GOI m R pt ph al rm rot ro rb rd N d) (d0 : 0 ≤ d) (d1 : d < 2 * m) (ha : al (d / 2) = 1) (hr : ro d < 0) (hs : st1 rb rb_zq p v) (hp : p = R) (hv : v = N) (hx : x = d) : GII m R pt ph al rm rot ro rb_zq rd N d x := by
  obtain ⟨h1, h2, h3, h4, h5⟩ := h
  obtain ⟨k1, k2⟩ := rnd_st h1 hs hp hv
  have hl : liv m al d := ⟨d0, d1, ha⟩
  have hw : ¬ wrd rd N d := by
    rcases h4 d hl with z | z
    · exact z.2
    · have := z.1; omega
  refine ⟨⟨k1, by rw [k2]; exact h3, h2, ⟨by omega, fun p a b => by omega, fun a => by omega⟩, hl, fun y hy => ?_, fun y hy q => by rw [k2]; exact h5 y hy q⟩, fun a => by omega, fun _ => hx, by rw [hx]; exact hw, by rw [hx]; exact hl⟩
  rcases h4 y hy with z | z
  · exact Or.inl z
  · exact Or.inr (Or.inl (inR_st hs hp hv z))
theorem gii_len {m R N d x : Int} {pt ph al rm rot ro rb rd : Int → Int} (h : GII m R pt ph al rm rot ro rb rd N d x) : 0 ≤ N ∧ N + 1 ≤ 2 * m ∧ 0 ≤ x ∧ x < 2 * m ∧ LIV m al x := ⟨h.1.2.2.1.1, dst_len h.1.2.2.1 h.2.2.2.2 h.2.2.2.1, h.2.2.2.2.1, h.2.2.2.2.2.1, h.2.2.2.2⟩
theorem goi_len {m R N d : Int} {pt ph al rm rot ro rb rd : Int → Int} (hm : 0 ≤ m) (h : GOI m R pt ph al rm rot ro rb rd N d) : 0 ≤ R ∧ R ≤ N ∧ N ≤ 2 * m := ⟨h.1.1, h.1.2.1, dst_le hm h.2.1⟩
/-- darts that stand ahead of the new one -/
theorem rnd_app {m : Int} {pt ph rm rot rb rd rd_zq : Int → Int} {R B : Int} (h : RND m pt ph rm rot rb rd R B) (hs : ∀ j, 0 ≤ j → j < B → rd_zq j = rd j) : RND m pt ph rm rot rb rd_zq R B := by
  obtain ⟨h1, h2, h3, h4, h5⟩ := h
  refine ⟨h1, h2, h3, h4, fun r r0 r1 => ?_⟩
  obtain ⟨a, b, c, e⟩ := h5 r r0 r1
  refine ⟨a, b, c, fun p p0 p1 => ?_⟩
  have := e p p0 p1
  rw [hs p (by omega) (by omega), hs (if p + 1 = nxb rb R B r then rb r else p + 1) (by split <;> omega) (by split <;> omega)]
  exact this
theorem gii_app {m R N d x N' p v q w : Int} {pt ph al rm rot ro ro_zq rb rd rd_zq : Int → Int} (h : GII m R pt ph al rm rot ro rb rd N d x) (ho : st1 ro ro_zq p v) (hp : p = x) (hv : v = R) (hd : st1 rd rd_zq q w) (hq : q = N) (hw : w = x) (hn : N' = N + 1) : GIA m R pt ph al rm rot ro_zq rb rd_zq N' d x := by
  obtain ⟨⟨h1, h2, h3, h4, h5, h6, h7⟩, g2, g3, g4, g5⟩ := h
  have n0 := h3.1
  have hB := h4.1
  have hold : ∀ j, 0 ≤ j → j < N → rd_zq j = rd j := fun j a b => (hd j a).2 (by omega)
  have hnew : rd_zq N = x := ((hd N n0).1 hq.symm).trans hw
  have hwr : ∀ M y, M ≤ N → (wrd rd_zq M y ↔ wrd rd M y) := fun M y hM => ⟨fun ⟨p, a, b, c⟩ => ⟨p, a, b, by rw [← hold p a (by omega)]; exact c⟩, fun ⟨p, a, b, c⟩ => ⟨p, a, b, by rw [hold p a (by omega)]; exact c⟩⟩
  have hD : DST m al rd_zq N' := by
    refine ⟨by omega, fun p a b => ?_, fun p q a b c => ?_⟩
    · by_cases e : p = N
      · rw [e, hnew]; exact g5
      · rw [hold p a (by omega)]; exact h3.2.1 p a (by omega)
    · rw [hold p a (by omega)]
      by_cases e : q = N
      · rw [e, hnew]; exact fun z => g4 ⟨p, a, by omega, z⟩
      · rw [hold q (by omega) (by omega)]; exact h3.2.2 p q a b (by omega)
  have b0 : 0 ≤ rb R := by have := h1.2.1; have := h1.1; omega
  refine ⟨⟨rnd_app h1 (fun j a b => hold j a (by omega)), fun p a b => ?_, hD, ⟨by omega, fun p a b => ?_, fun a => ?_⟩, h5, fun y hy => ?_, fun y hy z => (hwr _ _ hB).2 (h7 y hy z)⟩, by omega, by rw [show N' - 1 = N by omega]; exact hnew⟩
  · obtain ⟨q, q0, q1, q2⟩ := h2 p a b
    exact ⟨q, q0, q1, by rw [hold q q0 (by omega), hold p a (by omega)]; exact q2⟩
  · rw [hold p (by omega) (by omega)]
    by_cases e : p + 1 = N
    · rw [e, hnew]
      have := g2 (by omega)
      rw [show N - 1 = p by omega] at this
      exact this
    · rw [hold (p + 1) (by omega) (by omega)]; exact h4.2.1 p a (by omega)
  · by_cases e : rb R = N
    · rw [e, hnew]; exact g3 e.symm
    · rw [hold _ b0 (by omega)]; exact h4.2.2 (by omega)
  · by_cases e : y = x
    · refine Or.inr (Or.inr ⟨((ho y hy.1).1 (by omega)).trans hv, N, hB, by omega, by rw [e]; exact hnew⟩)
    · have er : ro_zq y = ro y := (ho y hy.1).2 (by omega)
      rw [er]
      rcases h6 y hy with ⟨a, b⟩ | ⟨r0, r1, p, p0, p1, p2⟩ | ⟨a, p, p0, p1, p2⟩
      · refine Or.inl ⟨a, fun ⟨p, c0, c1, c2⟩ => ?_⟩
        by_cases e2 : p = N
        · rw [e2, hnew] at c2; exact e c2.symm
        · exact b ⟨p, c0, by omega, by rw [← hold p c0 (by omega)]; exact c2⟩
      · have z := h1.2.2.2.2 _ r0 r1
        exact Or.inr (Or.inl ⟨r0, r1, p, p0, p1, by rw [hold p (by omega) (by omega)]; exact p2⟩)
      · exact Or.inr (Or.inr ⟨a, p, p0, by omega, by rw [hold p (by omega) (by omega)]; exact p2⟩)
theorem git_of {m R N d x x_zq : Int} {pt ph al rm rot ro rb rd : Int → Int} (h : GIA m R pt ph al rm rot ro rb rd N d x) (hs : NDT m pt ph rm rot x x_zq) : GIT m R pt ph al rm rot ro rb rd N d x_zq := ⟨h.1, h.2.1, by rw [h.2.2]; exact hs⟩
theorem git_next {n m R N d x : Int} {pt ph al rm rot ro rb rd : Int → Int} (hg : GOK n m pt ph) (hE : EML n m pt ph al rm rot) (h : GIT m R pt ph al rm rot ro rb rd N d x) (hne : x ≠ d) : GII m R pt ph al rm rot ro rb rd N d x := by
  obtain ⟨hc, hb, hs⟩ := h
  have b0 : 0 ≤ rb R := by have := hc.1.2.1; have := hc.1.1; omega
  exact ⟨hc, fun _ => hs, fun z => by omega, chn_new hg hE hc.2.2.1 hc.2.1 hc.2.2.2.1 b0 hb hs hne, ndt_liv hg hE (hc.2.2.1.2.1 (N - 1) (by omega) (by omega)) hs⟩
theorem git_end {m R N d x R_zq d_zq : Int} {pt ph al rm rot ro rb rd : Int → Int} (h : GIT m R pt ph al rm rot ro rb rd N d x) (he : x = d) (hR : R_zq = R + 1) (hd : d_zq = d + 1) : GOI m R_zq pt ph al rm rot ro rb rd N d_zq := by
  subst he; subst hR; subst hd
  obtain ⟨⟨h1, h2, h3, h4, h5, h6, h7⟩, hb, hs⟩ := h
  have b0 : 0 ≤ rb R := by have := h1.2.1; have := h1.1; omega
  have hfst := h4.2.2 hb
  have hn1 : ∀ r, 0 ≤ r → r < R → nxb rb (R + 1) N r = nxb rb R (rb R) r := fun r r0 r1 => by
    unfold nxb
    rw [if_neg (by omega)]
    split
    · next q => rw [q]
    · rfl
  have hn2 : nxb rb (R + 1) N R = N := by unfold nxb; rw [if_pos rfl]
  have hR0 : R = 0 → rb R = 0 := h1.2.2.1
  refine ⟨⟨by have := h1.1; omega, by have := h1.2.1; omega, fun z => by have := h1.1; omega, fun _ => ?_, fun r r0 r1 => ?_⟩, h3, fun p a b => ?_, fun y hy => ?_, fun y hy z => ?_⟩
  · by_cases q : R = 0
    · rw [q] at hR0; exact hR0 rfl
    · exact h1.2.2.2.1 (by have := h1.1; omega)
  · by_cases q : r = R
    · rw [q, hn2]
      refine ⟨b0, hb, by omega, fun p p0 p1 => ?_⟩
      by_cases e : p + 1 = N
      · rw [if_pos e, hfst, show p = N - 1 by omega]; exact hs
      · rw [if_neg e]; exact h4.2.1 p p0 (by omega)
    · have z := h1.2.2.2.2 r r0 (by omega)
      rw [hn1 r r0 (by omega)]
      exact ⟨z.1, z.2.1, by omega, z.2.2.2⟩
  · by_cases q : p < rb R
    · obtain ⟨t, t0, t1, t2⟩ := h2 p a q
      exact ⟨t, t0, by omega, t2⟩
    · by_cases e : p = rb R
      · exact ⟨N - 1, by omega, by omega, by rw [e, hfst]; exact hs⟩
      · have := h4.2.1 (p - 1) (by omega) (by omega)
        rw [show p - 1 + 1 = p by omega] at this
        exact ⟨p - 1, by omega, by omega, this⟩
  · rcases h6 y hy with z | ⟨r0, r1, p, p0, p1, p2⟩ | ⟨a, p, p0, p1, p2⟩
    · exact Or.inl z
    · exact Or.inr ⟨r0, by omega, p, p0, by rw [hn1 _ r0 r1]; exact p1, p2⟩
    · refine Or.inr ⟨by rw [a]; exact h1.1, by omega, p, by rw [a]; exact p0, by rw [a, hn2]; exact p1, p2⟩
  · by_cases e : y = x
    · exact ⟨rb R, b0, hb, by rw [e]; exact hfst⟩
    · exact wrd_le (h7 y hy (by omega)) (by omega)
theorem goi_end {m R N d p v : Int} {pt ph al rm rot ro rb rb_zq rd : Int → Int} (h : GOI m R pt ph al rm rot ro rb rd N d) (hd : 2 * m ≤ d) (hs : st1 rb rb_zq p v) (hp : p = R) (hv : v = N) : GRD m R pt ph al rm rot ro rb_zq rd := by
  obtain ⟨h1, h2, h3, h4, h5⟩ := h
  obtain ⟨k1, k2⟩ := rnd_st h1 hs hp hv
  refine ⟨k1, by rw [k2]; exact h2, fun y hy => ?_⟩
  rcases h4 y hy with z | z
  · exact absurd (h5 y hy (by have := hy.2.1; omega)) z.2
  · exact inR_st hs hp hv z
end
section
/-! a new edge in the rows -/
def jA (m : Int) (pt ph al : Int → Int) (u v : Int) : Prop := ∃ e, JJ m pt ph al e u v
theorem lA_all {m : Int} {pt ph al bl : Int → Int} {b : Int} (h : ∀ e u v, JJ m pt ph al e u v → bl e < b) : lA m pt ph al bl b = jA m pt ph al := by
  funext u v
  exact propext ⟨fun ⟨e, j, _⟩ => ⟨e, j⟩, fun ⟨e, j⟩ => ⟨e, j, h e u v j⟩⟩
/-- rows that list every edge and follow a plane map -/
def ROT (n m : Int) (pt ph al rm rot : Int → Int) : Prop := (∀ i, 0 ≤ i → i < n → (0 ≤ rm i ∧ rm i ≤ 80) ∧ (∀ k, 0 ≤ k → k < rm i → ∃ x, JJ m pt ph al (rt rot i k) i x) ∧ (∀ k l, 0 ≤ k → k < l → l < rm i → rt rot i k ≠ rt rot i l) ∧ ∀ e x, JJ m pt ph al e i x → ∃ k, 0 ≤ k ∧ k < rm i ∧ rt rot i k = e) ∧ ∃ nx ρ, mp (jA m pt ph al) nx ∧ pls (jA m pt ph al) nx ρ ∧ ∀ i, 0 ≤ i → i < n → ∀ k, 0 ≤ k → k < rm i → nx (acr pt ph (rt rot i k) i) i = acr pt ph (rt rot i (nr (rm i) k)) i
theorem rot_emi {n m : Int} {pt ph al bl rm rot : Int → Int} {b : Int} (h : ∀ e u v, JJ m pt ph al e u v → bl e < b) : EMI n m pt ph al bl rm rot b ↔ ROT n m pt ph al rm rot := by
  unfold EMI ROT EMR
  rw [lA_all h]
  constructor
  · rintro ⟨h1, h2⟩
    refine ⟨fun i i0 i1 => ?_, h2⟩
    obtain ⟨r1, r2, r3, r4⟩ := h1 i i0 i1
    exact ⟨r1, fun k k0 k1 => by obtain ⟨x, j, _⟩ := r2 k k0 k1; exact ⟨x, j⟩, r3, fun e x j => r4 e x j (h e _ _ j)⟩
  · rintro ⟨h1, h2⟩
    refine ⟨fun i i0 i1 => ?_, h2⟩
    obtain ⟨r1, r2, r3, r4⟩ := h1 i i0 i1
    exact ⟨r1, fun k k0 k1 => by obtain ⟨x, j⟩ := r2 k k0 k1; exact ⟨x, j, h _ _ _ j⟩, r3, fun e x j _ => r4 e x j⟩
theorem eml_rot {n m : Int} {pt ph al rm rot : Int → Int} : EML n m pt ph al rm rot ↔ ROT n m pt ph al rm rot := rot_emi (fun _ _ _ _ => by show (0 : Int) < 1; omega)
theorem JJ_congr {m : Int} {pt ph al pt_zq ph_zq al_zq : Int → Int} (h : ∀ e, 0 ≤ e → e < m → pt_zq e = pt e ∧ ph_zq e = ph e ∧ al_zq e = al e) : JJ m pt_zq ph_zq al_zq = JJ m pt ph al := by
  funext e u v
  apply propext
  unfold JJ
  constructor
  · rintro ⟨a, b, c⟩
    rw [(h e a b).1, (h e a b).2.1, (h e a b).2.2] at c; exact ⟨a, b, c⟩
  · rintro ⟨a, b, c⟩
    rw [← (h e a b).1, ← (h e a b).2.1, ← (h e a b).2.2] at c; exact ⟨a, b, c⟩
theorem acr_congr {m : Int} {pt ph pt_zq ph_zq al al_zq : Int → Int} (h : ∀ e, 0 ≤ e → e < m → pt_zq e = pt e ∧ ph_zq e = ph e ∧ al_zq e = al e) {e i : Int} (a : 0 ≤ e) (b : e < m) : acr pt_zq ph_zq e i = acr pt ph e i := by
  unfold acr; rw [(h e a b).1, (h e a b).2.1]
theorem rot_congr {n m : Int} {pt ph al pt_zq ph_zq al_zq rm rot : Int → Int} (h : ∀ e, 0 ≤ e → e < m → pt_zq e = pt e ∧ ph_zq e = ph e ∧ al_zq e = al e) (hr : ROT n m pt ph al rm rot) : ROT n m pt_zq ph_zq al_zq rm rot := by
  have hj := JJ_congr h
  have hA : jA m pt_zq ph_zq al_zq = jA m pt ph al := by unfold jA; rw [hj]
  obtain ⟨h1, nx, ρ, h2, h3, h4⟩ := hr
  unfold ROT
  rw [hj, hA]
  refine ⟨h1, nx, ρ, h2, h3, fun i i0 i1 k k0 k1 => ?_⟩
  have z := nr_rng k0 k1
  obtain ⟨x, j⟩ := (h1 i i0 i1).2.1 k k0 k1
  obtain ⟨y, l⟩ := (h1 i i0 i1).2.1 _ z.1 z.2
  rw [acr_congr h j.1 j.2.1, acr_congr h l.1 l.2.1]
  exact h4 i i0 i1 k k0 k1
/-- a row with one more -/
def insR (L : Int) (R R_zq : Int → Int) (k e : Int) : Prop := 0 ≤ k ∧ k ≤ L ∧ (∀ l, 0 ≤ l → l < k → R_zq l = R l) ∧ R_zq k = e ∧ ∀ l, k ≤ l → l < L → R_zq (l + 1) = R l
theorem ins_old {L k e : Int} {R R_zq : Int → Int} (h : insR L R R_zq k e) {l : Int} (l0 : 0 ≤ l) (l1 : l < L + 1) (hk : l ≠ k) : ∃ l_zq, 0 ≤ l_zq ∧ l_zq < L ∧ R_zq l = R l_zq ∧ l_zq = (if l < k then l else l - 1) ∧ (nr (L + 1) l ≠ k → R_zq (nr (L + 1) l) = R (nr L l_zq)) ∧ (nr (L + 1) l = k → nr L l_zq = if k < L then k else 0) := by
  obtain ⟨h1, h2, h3, h4, h5⟩ := h
  by_cases q : l < k
  · refine ⟨l, l0, by omega, h3 l l0 q, by rw [if_pos q], fun z => ?_, fun z => ?_⟩
    · rw [nr_lt (by omega)] at z ⊢
      rw [nr_lt (by omega)]; exact h3 _ (by omega) (by omega)
    · rw [nr_lt (by omega)] at z
      by_cases w : k < L
      · rw [if_pos w, nr_lt (by omega)]; exact z
      · rw [if_neg w, nr_eq (by omega)]
  · have e1 := h5 (l - 1) (by omega) (by omega)
    rw [show l - 1 + 1 = l by omega] at e1
    refine ⟨l - 1, by omega, by omega, e1, by rw [if_neg q], fun z => ?_, fun z => ?_⟩
    · by_cases w : l = L
      · rw [nr_eq (by omega)] at z ⊢
        rw [nr_eq (by omega)]; exact h3 0 (by omega) (by omega)
      · rw [nr_lt (by omega), nr_lt (by omega)]
        have := h5 l (by omega) (by omega)
        rw [show l - 1 + 1 = l by omega]; exact this
    · by_cases w : l = L
      · rw [nr_eq (by omega)] at z
        rw [nr_eq (by omega), ← z]
        split <;> rfl
      · rw [nr_lt (by omega)] at z; omega
theorem ins_new {L k e : Int} {R R_zq : Int → Int} (h : insR L R R_zq k e) (hL : 1 ≤ L) : R_zq (nr (L + 1) k) = R (if k < L then k else 0) := by
  obtain ⟨h1, h2, h3, h4, h5⟩ := h
  by_cases q : k < L
  · rw [if_pos q, nr_lt (by omega)]; exact h5 k (by omega) q
  · rw [if_neg q, nr_eq (by omega)]; exact h3 0 (by omega) (by omega)
theorem ins_all {L k e : Int} {R R_zq : Int → Int} (h : insR L R R_zq k e) {l : Int} (l0 : 0 ≤ l) (l1 : l < L) : ∃ l_zq, 0 ≤ l_zq ∧ l_zq < L + 1 ∧ R_zq l_zq = R l := by
  obtain ⟨h1, h2, h3, h4, h5⟩ := h
  by_cases q : l < k
  · exact ⟨l, l0, by omega, h3 l l0 q⟩
  · exact ⟨l + 1, by omega, by omega, h5 l (by omega) l1⟩
theorem ins_dist {L k e : Int} {R R_zq : Int → Int} (h : insR L R R_zq k e) (hd : ∀ k l, 0 ≤ k → k < l → l < L → R k ≠ R l) (hn : ∀ l, 0 ≤ l → l < L → R l ≠ e) : ∀ k l, 0 ≤ k → k < l → l < L + 1 → R_zq k ≠ R_zq l := by
  intro a b a0 ab b1
  by_cases qa : a = k
  · obtain ⟨b_zq, b0_zq, b1_zq, b2_zq, _⟩ := ins_old h (l := b) (by omega) b1 (by omega)
    rw [qa, h.2.2.2.1, b2_zq]; exact fun z => hn b_zq b0_zq b1_zq z.symm
  · obtain ⟨a_zq, a0_zq, a1_zq, a2_zq, a3_zq, _⟩ := ins_old h a0 (by omega) qa
    by_cases qb : b = k
    · rw [qb, h.2.2.2.1, a2_zq]; exact hn a_zq a0_zq a1_zq
    · obtain ⟨b_zq, b0_zq, b1_zq, b2_zq, b3_zq, _⟩ := ins_old h (l := b) (by omega) b1 qb
      rw [a2_zq, b2_zq]
      exact hd a_zq b_zq a0_zq (by rw [a3_zq, b3_zq]; split <;> split <;> omega) b1_zq
/-- a row of distinct numbers is no longer than they are many -/
theorem rw_len {L M : Int} {R : Int → Int} (hM : 0 ≤ M) (hr : ∀ k, 0 ≤ k → k < L → 0 ≤ R k ∧ R k < M) (hd : ∀ k l, 0 ≤ k → k < l → l < L → R k ≠ R l) : L ≤ M := by
  by_cases q : L ≤ 0
  · omega
  · have := php L.toNat M.toNat (fun t => (R t).toNat) (fun t ht => by have := hr t (by omega) (by omega); show (R t).toNat < M.toNat; omega) (fun s t hs ht z => by
      have z_zq : (R s).toNat = (R t).toNat := z
      have a := hr s (by omega) (by omega)
      have b := hr t (by omega) (by omega)
      rcases Nat.lt_trichotomy s t with w | w | w
      · exact absurd (by omega) (hd s t (by omega) (by omega) (by omega))
      · exact w
      · exact absurd (by omega) (hd t s (by omega) (by omega) (by omega)))
    omega
def INS (rm0 rot0 rm rot : Int → Int) (i e k : Int) : Prop := rm i = rm0 i + 1 ∧ insR (rm0 i) (rt rot0 i) (rt rot i) k e ∧ ∀ j, 0 ≤ j → j ≠ i → rm j = rm0 j ∧ ∀ l, 0 ≤ l → l < 80 → rt rot j l = rt rot0 j l
/-- the last edge, and those before it -/
theorem JJ_last {m e u v : Int} {pt ph al : Int → Int} : JJ (m + 1) pt ph al e u v ↔ JJ m pt ph al e u v ∨ (e = m ∧ 0 ≤ m ∧ al m = 1 ∧ ((pt m = u ∧ ph m = v) ∨ (pt m = v ∧ ph m = u))) := by
  unfold JJ
  constructor
  · rintro ⟨a, b, c, d⟩
    by_cases q : e = m
    · subst q; exact Or.inr ⟨rfl, a, c, d⟩
    · exact Or.inl ⟨a, by omega, c, d⟩
  · rintro (⟨a, b, c, d⟩ | ⟨a, b, c, d⟩)
    · exact ⟨a, by omega, c, d⟩
    · subst a; exact ⟨b, by omega, c, d⟩
theorem jA_last {m a c : Int} {pt ph al : Int → Int} (m0 : 0 ≤ m) (ha : al m = 1) (ht : pt m = a) (hh : ph m = c) : jA (m + 1) pt ph al = chA (jA m pt ph al) a c := by
  funext u v
  apply propext
  unfold jA chA
  constructor
  · rintro ⟨e, j⟩
    rcases JJ_last.1 j with k | ⟨_, _, _, k⟩
    · exact Or.inl ⟨e, k⟩
    · rcases k with ⟨k1, k2⟩ | ⟨k1, k2⟩
      · exact Or.inr (Or.inl ⟨by omega, by omega⟩)
      · exact Or.inr (Or.inr ⟨by omega, by omega⟩)
  · rintro (⟨e, j⟩ | ⟨k1, k2⟩ | ⟨k1, k2⟩)
    · exact ⟨e, JJ_last.2 (Or.inl j)⟩
    · exact ⟨m, JJ_last.2 (Or.inr ⟨rfl, m0, ha, Or.inl ⟨by omega, by omega⟩⟩)⟩
    · exact ⟨m, JJ_last.2 (Or.inr ⟨rfl, m0, ha, Or.inr ⟨by omega, by omega⟩⟩)⟩
/-- two rows have got the new edge, the others are as they were -/
def INS2 (rm0 rot0 rm rot : Int → Int) (a c e ka kc : Int) : Prop := (rm a = rm0 a + 1 ∧ insR (rm0 a) (rt rot0 a) (rt rot a) ka e) ∧ (rm c = rm0 c + 1 ∧ insR (rm0 c) (rt rot0 c) (rt rot c) kc e) ∧ ∀ j, 0 ≤ j → j ≠ a → j ≠ c → rm j = rm0 j ∧ ∀ l, 0 ≤ l → l < 80 → rt rot j l = rt rot0 j l
theorem ins_two {rm0 rot0 rm1 rot1 rm rot : Int → Int} {a c e ka kc : Int} (h1 : INS rm0 rot0 rm1 rot1 a e ka) (h2 : INS rm1 rot1 rm rot c e kc) (a0 : 0 ≤ a) (c0 : 0 ≤ c) (hne : a ≠ c) (ha : rm1 a ≤ 80) (hc : rm0 c ≤ 80) : INS2 rm0 rot0 rm rot a c e ka kc := by
  obtain ⟨p1, p2, p3⟩ := h1
  obtain ⟨q1, q2, q3⟩ := h2
  have x1 := p3 c c0 (fun z => hne z.symm)
  have x2 := q3 a a0 hne
  refine ⟨⟨by rw [x2.1]; exact p1, ?_⟩, ⟨by rw [q1, x1.1], ?_⟩, fun j j0 ja jc => ?_⟩
  · obtain ⟨i1, i2, i3, i4, i5⟩ := p2
    refine ⟨i1, i2, fun l l0 l1 => ?_, ?_, fun l l0 l1 => ?_⟩
    · rw [x2.2 l l0 (by omega)]; exact i3 l l0 l1
    · rw [x2.2 ka i1 (by omega)]; exact i4
    · rw [x2.2 (l + 1) (by omega) (by omega)]; exact i5 l l0 l1
  · obtain ⟨i1, i2, i3, i4, i5⟩ := q2
    rw [x1.1] at i2
    refine ⟨i1, i2, fun l l0 l1 => ?_, i4, fun l l0 l1 => ?_⟩
    · rw [← x1.2 l l0 (by omega)]; exact i3 l l0 l1
    · rw [← x1.2 l (by omega) (by omega)]; exact i5 l l0 (by rw [x1.1]; exact l1)
  · refine ⟨by rw [(q3 j j0 jc).1, (p3 j j0 ja).1], fun l l0 l1 => by rw [(q3 j j0 jc).2 l l0 l1, (p3 j j0 ja).2 l l0 l1]⟩
/-- the rows list the edges, the new one too -/
theorem rows_new2 {n m a c ka kc : Int} {pt ph al rm0 rot0 rm rot : Int → Int} (hg : GOK n (m + 1) pt ph) (m0 : 0 ≤ m) (m1 : m + 1 ≤ 80) (hal : al m = 1) (ht : pt m = a) (hh : ph m = c) (hR : ROT n m pt ph al rm0 rot0) (hI : INS2 rm0 rot0 rm rot a c m ka kc) : ∀ i, 0 ≤ i → i < n → (0 ≤ rm i ∧ rm i ≤ 80) ∧ (∀ k, 0 ≤ k → k < rm i → ∃ x, JJ (m + 1) pt ph al (rt rot i k) i x) ∧ (∀ k l, 0 ≤ k → k < l → l < rm i → rt rot i k ≠ rt rot i l) ∧ ∀ e x, JJ (m + 1) pt ph al e i x → ∃ k, 0 ≤ k ∧ k < rm i ∧ rt rot i k = e := by
  obtain ⟨⟨a1, a2⟩, ⟨c1, c2⟩, o1⟩ := hI
  have ge := hg.1 m m0 (by omega)
  rw [ht, hh] at ge
  have key : ∀ i y, 0 ≤ i → i < n → (JJ (m + 1) pt ph al m i y) → ∀ k, rm i = rm0 i + 1 → insR (rm0 i) (rt rot0 i) (rt rot i) k m → (0 ≤ rm i ∧ rm i ≤ 80) ∧ (∀ k, 0 ≤ k → k < rm i → ∃ x, JJ (m + 1) pt ph al (rt rot i k) i x) ∧ (∀ k l, 0 ≤ k → k < l → l < rm i → rt rot i k ≠ rt rot i l) ∧ ∀ e x, JJ (m + 1) pt ph al e i x → ∃ k, 0 ≤ k ∧ k < rm i ∧ rt rot i k = e := by
    intro i y i0 i1 jy k hk hi
    obtain ⟨r1, r2, r3, r4⟩ := hR.1 i i0 i1
    have ent : ∀ l, 0 ≤ l → l < rm i → ∃ x, JJ (m + 1) pt ph al (rt rot i l) i x := fun l l0 l1 => by
      by_cases q : l = k
      · rw [q, hi.2.2.2.1]; exact ⟨y, jy⟩
      · obtain ⟨l_zq, b0, b1, b2, _⟩ := ins_old hi l0 (by omega) q
        obtain ⟨x, jx⟩ := r2 l_zq b0 b1
        rw [b2]; exact ⟨x, JJ_last.2 (Or.inl jx)⟩
    have dst := ins_dist hi r3 (fun l l0 l1 z => by obtain ⟨x, jx⟩ := r2 l l0 l1; rw [z] at jx; have := jx.2.1; omega)
    rw [← hk] at dst
    have len := rw_len (L := rm i) (M := m + 1) (by omega) (fun l l0 l1 => by obtain ⟨x, jx⟩ := ent l l0 l1; exact ⟨jx.1, jx.2.1⟩) dst
    refine ⟨by omega, ent, dst, fun e x j => ?_⟩
    rcases JJ_last.1 j with z | ⟨z, _⟩
    · obtain ⟨l, l0, l1, l2⟩ := r4 e x z
      obtain ⟨l_zq, b0, b1, b2⟩ := ins_all hi l0 l1
      exact ⟨l_zq, b0, by omega, by rw [b2]; exact l2⟩
    · exact ⟨k, hi.1, by have := hi.2.1; omega, by rw [z]; exact hi.2.2.2.1⟩
  intro i i0 i1
  by_cases qa : i = a
  · rw [qa] at i0 i1 ⊢
    exact key a c i0 i1 (JJ_last.2 (Or.inr ⟨rfl, m0, hal, Or.inl ⟨ht, hh⟩⟩)) ka a1 a2
  · by_cases qc : i = c
    · rw [qc] at i0 i1 ⊢
      exact key c a i0 i1 (JJ_last.2 (Or.inr ⟨rfl, m0, hal, Or.inr ⟨ht, hh⟩⟩)) kc c1 c2
    · obtain ⟨o2, o3⟩ := o1 i i0 qa qc
      obtain ⟨r1, r2, r3, r4⟩ := hR.1 i i0 i1
      rw [o2]
      refine ⟨r1, fun k k0 k1 => ?_, fun k l k0 kl l1 => ?_, fun e x j => ?_⟩
      · rw [o3 k k0 (by omega)]
        obtain ⟨x, jx⟩ := r2 k k0 k1
        exact ⟨x, JJ_last.2 (Or.inl jx)⟩
      · rw [o3 k k0 (by omega), o3 l (by omega) (by omega)]; exact r3 k l k0 kl l1
      · rcases JJ_last.1 j with z | ⟨_, _, _, z⟩
        · obtain ⟨k, k0, k1, k2⟩ := r4 e x z
          exact ⟨k, k0, k1, by rw [o3 k k0 (by omega)]; exact k2⟩
        · omega
end
section
/-! a new edge across a corner of a face; a new edge between two parts -/
theorem rot_chord {n m a c d x ka kc : Int} {pt ph al rm0 rot0 rm rot : Int → Int} (hg : GOK n (m + 1) pt ph) (m0 : 0 ≤ m) (m1 : m + 1 ≤ 80) (hal : al m = 1) (ht : pt m = a) (hh : ph m = c) (hR : ROT n m pt ph al rm0 rot0) (hd : liv m al d) (hN : NDT m pt ph rm0 rot0 d x) (da : dfr pt ph d = a) (xc : dto pt ph x = c) (hI : INS2 rm0 rot0 rm rot a c m ka kc) (ka1 : ka < rm0 a) (pa : rt rot0 a ka = d / 2) (kc0 : 1 ≤ kc) (pc : rt rot0 c (kc - 1) = x / 2) : ROT n (m + 1) pt ph al rm rot := by
  have hrow := rows_new2 hg m0 m1 hal ht hh hR hI
  have hgm : GOK n m pt ph := ⟨fun e e0 e1 => hg.1 e e0 (by omega), fun e f e0 ef f1 => hg.2 e f e0 ef (by omega)⟩
  obtain ⟨hR1, nx, ρ, q1, q2, q3⟩ := hR
  have ge := hg.1 m m0 (by omega)
  rw [ht, hh] at ge
  obtain ⟨⟨a1, a2⟩, ⟨c1, c2⟩, o1⟩ := hI
  have irr := JJ_irr (al := al) hgm
  have irr_zq := JJ_irr (al := al) hg
  have hE : EML n m pt ph al rm0 rot0 := eml_rot.2 ⟨hR1, nx, ρ, q1, q2, q3⟩
  have hx := ndt_liv hgm hE hd hN
  have jd := dart_J (pt := pt) (ph := ph) hd
  have jx := dart_J (pt := pt) (ph := ph) hx
  have hbx : dfr pt ph x = dto pt ph d := hN.2.2.1
  rw [da] at jd
  rw [xc, hbx] at jx
  -- the step from a over b to c
  have hnac : nx a (dto pt ph d) = c := by
    have := ndt_nx hgm hE.1 (fun i i0 i1 k k0 k1 => q3 i i0 i1 k k0 k1) hd hx hN
    rw [da, xc] at this; exact this.symm
  generalize hb : dto pt ph d = b at *
  have hab : jA m pt ph al a b := ⟨_, jd⟩
  have hbc : jA m pt ph al b c := ⟨_, jx⟩
  have nac : ¬ jA m pt ph al a c := fun ⟨e, j⟩ => by
    have w := hg.2 e m j.1 j.2.1 (by omega)
    rw [ht, hh] at w
    rcases j.2.2.2 with ⟨z1, z2⟩ | ⟨z1, z2⟩
    · exact w (Or.inl ⟨z1, z2⟩)
    · exact w (Or.inr ⟨z1, z2⟩)
  -- who stands ahead of b around a
  have ra := hR1 a ge.1 ge.2.1
  have rc_zq := hR1 c ge.2.2.1 ge.2.2.2.1
  have hpr : ∃ kp, 0 ≤ kp ∧ kp < rm0 a ∧ nr (rm0 a) kp = ka := by
    by_cases z : ka = 0
    · exact ⟨rm0 a - 1, by omega, by omega, by rw [nr_eq (by omega), z]⟩
    · exact ⟨ka - 1, by have := a2.1; omega, by omega, by rw [nr_lt (by omega)]; omega⟩
  obtain ⟨kp, kp0, kp1, kp2⟩ := hpr
  obtain ⟨p, jp⟩ := ra.2.1 kp kp0 kp1
  have ep : acr pt ph (rt rot0 a kp) a = p := acr_is (irr _ _ _ jp) jp
  have eb : acr pt ph (rt rot0 a ka) a = b := by rw [pa]; exact acr_is (irr _ _ _ jd) jd
  have hpa : jA m pt ph al p a := ⟨_, JJ_sym _ _ _ jp⟩
  have hpn : nx p a = b := by
    have := q3 a ge.1 ge.2.1 kp kp0 kp1
    rw [ep, kp2, eb] at this; exact this
  have ecb : acr pt ph (rt rot0 c (kc - 1)) c = b := by rw [pc]; exact acr_is (irr _ _ _ (JJ_sym _ _ _ jx)) (JJ_sym _ _ _ jx)
  have hab_zq : a ≠ b := irr _ _ _ jd
  have hbc_zq : b ≠ c := irr _ _ _ jx
  have hcp : c ≠ p := fun z => nac (by rw [z]; exact q1.1.1 _ _ hpa)
  have eAc : acr pt ph m a = c := by unfold acr; rw [if_pos ht]; exact hh
  have eCa : acr pt ph m c = a := by unfold acr; rw [if_neg (by omega)]; exact ht
  have hmp := chord_mp q1 hpa hbc nac ge.2.2.2.2
  have hpl := chord_pls (x := fun t => if t = 0 then a else if t = 1 then b else c) (n := 2) q1 q2 hpa hbc nac ge.2.2.2.2 (by omega) rfl (by rw [hpn]; rfl) rfl rfl (fun i hi => by
      rcases (by omega : i = 0 ∨ i = 1) with z | z
      · subst z; exact hab
      · subst z; exact hbc) (fun i hi => by
      have : i = 0 := by omega
      subst this; exact hnac) (fun i j ij j2 => by
      have : i = 0 := by omega
      have : j = 1 := by omega
      subst i; subst j
      exact fun z => hab_zq z.1)
  refine ⟨hrow, cnx nx p a b c, crh ρ a c, by rw [jA_last m0 hal ht hh]; exact hmp, by rw [jA_last m0 hal ht hh]; exact hpl, fun i i0 i1 k k0 k1 => ?_⟩
  have ent : ∀ i, 0 ≤ i → i < n → ∀ l, 0 ≤ l → l < rm0 i → jA m pt ph al (acr pt ph (rt rot0 i l) i) i := fun i i0 i1 l l0 l1 => by
    obtain ⟨y, j⟩ := (hR1 i i0 i1).2.1 l l0 l1
    rw [acr_is (irr _ _ _ j) j]; exact ⟨_, JJ_sym _ _ _ j⟩
  have einj : ∀ i, 0 ≤ i → i < n → ∀ l l_zq, 0 ≤ l → l < rm0 i → 0 ≤ l_zq → l_zq < rm0 i → acr pt ph (rt rot0 i l) i = acr pt ph (rt rot0 i l_zq) i → l = l_zq := fun i i0 i1 l l_zq l0 l1 l0_zq l1_zq z => by
    obtain ⟨y, j⟩ := (hR1 i i0 i1).2.1 l l0 l1
    obtain ⟨y_zq, j_zq⟩ := (hR1 i i0 i1).2.1 l_zq l0_zq l1_zq
    have w := acr_inj hgm j j_zq z
    rcases Int.lt_trichotomy l l_zq with t | t | t
    · exact absurd w ((hR1 i i0 i1).2.2.1 l l_zq l0 t l1_zq)
    · exact t
    · exact absurd w.symm ((hR1 i i0 i1).2.2.1 l_zq l l0_zq t l1)
  by_cases qa : i = a
  · subst qa
    rw [a1] at k1 ⊢
    by_cases qk : k = ka
    · rw [qk, a2.2.2.2.1, eAc, ins_new a2 (by omega), if_pos ka1, eb, cnx_2 hcp, hpn]
    · obtain ⟨l, l0, l1, l2, l3, l4, l5⟩ := ins_old a2 k0 k1 qk
      rw [l2]
      have hnc : acr pt ph (rt rot0 i l) i ≠ c := fun z => by
        have := ent i i0 i1 l l0 l1
        rw [z] at this; exact nac (q1.1.1 _ _ this)
      by_cases qn : nr (rm0 i + 1) k = ka
      · have w := l5 qn
        rw [if_pos ka1] at w
        have : l = kp := nr_inj l0 l1 kp0 kp1 (w.trans kp2.symm)
        rw [this, ep, qn, a2.2.2.2.1, eAc, cnx_1]
      · rw [l4 qn, cnx_o (fun z => ?_) (fun z => hnc z.1) (fun z => ge.2.2.2.2 z.2) (fun z => ge.2.2.2.2 z.2)]
        · exact q3 i i0 i1 l l0 l1
        · have : l = kp := einj i i0 i1 l kp l0 l1 kp0 kp1 (z.1.trans ep.symm)
          rw [this] at l3 l4
          -- then its successor is the new place
          by_cases w : k < ka
          · rw [if_pos w] at l3
            rw [nr_lt (by have := a2.2.1; omega)] at qn
            rw [← l3] at qn
            by_cases v : kp + 1 < rm0 i
            · rw [nr_lt v] at kp2; omega
            · omega
          · rw [if_neg w] at l3
            by_cases v : kp + 1 < rm0 i
            · rw [nr_lt v] at kp2; omega
            · rw [nr_eq (by omega)] at kp2
              rw [nr_eq (by omega)] at qn; omega
  · by_cases qc : i = c
    · subst qc
      rw [c1] at k1 ⊢
      by_cases qk : k = kc
      · rw [qk, c2.2.2.2.1, eCa, ins_new c2 (by have := c2.2.1; omega), cnx_4 (fun z => ge.2.2.2.2 z.symm) hab_zq]
        have w := q3 i i0 i1 (kc - 1) (by omega) (by have := c2.2.1; omega)
        rw [ecb] at w
        rw [w]
        by_cases z : kc < rm0 i
        · rw [if_pos z, nr_lt (by omega), show kc - 1 + 1 = kc by omega]
        · rw [if_neg z, nr_eq (by have := c2.2.1; omega)]
      · obtain ⟨l, l0, l1, l2, l3, l4, l5⟩ := ins_old c2 k0 k1 qk
        rw [l2]
        by_cases qn : nr (rm0 i + 1) k = kc
        · have hk : k = kc - 1 := by
            by_cases z : k + 1 = rm0 i + 1
            · rw [nr_eq z] at qn; omega
            · rw [nr_lt (by omega)] at qn; omega
          rw [if_pos (by omega), hk] at l3
          rw [l3, ecb, qn, c2.2.2.2.1, eCa, cnx_3 (fun z => ge.2.2.2.2 z.symm)]
        · rw [l4 qn, cnx_o (fun z => qa z.2) (fun z => qa z.2) (fun z => ?_) (fun z => ?_)]
          · exact q3 i i0 i1 l l0 l1
          · have : l = kc - 1 := einj i i0 i1 l (kc - 1) l0 l1 (by omega) (by have := c2.2.1; omega) (z.1.trans ecb.symm)
            rw [this] at l3
            by_cases w : k < kc
            · rw [if_pos w] at l3
              rw [nr_lt (by have := c2.2.1; omega)] at qn; omega
            · rw [if_neg w] at l3; omega
          · have := ent i i0 i1 l l0 l1
            rw [z.1] at this; exact nac this
    · obtain ⟨o2, o3⟩ := o1 i i0 qa qc
      have r1 := (hR1 i i0 i1).1
      rw [o2] at k1 ⊢
      have z := nr_rng k0 k1
      rw [o3 k k0 (by omega), o3 _ z.1 (by omega), cnx_o (fun z => qa z.2) (fun z => qa z.2) (fun z => qc z.2) (fun z => qc z.2)]
      exact q3 i i0 i1 k k0 k1
/-- a new edge between two parts, at the ends of two rows -/
theorem rot_glue {n m a c : Int} {pt ph al rm0 rot0 rm rot : Int → Int} (hg : GOK n (m + 1) pt ph) (m0 : 0 ≤ m) (m1 : m + 1 ≤ 80) (hal : al m = 1) (ht : pt m = a) (hh : ph m = c) (hR : ROT n m pt ph al rm0 rot0) (hap : ¬ rc (jA m pt ph al) a c) (hI : INS2 rm0 rot0 rm rot a c m (rm0 a) (rm0 c)) : ROT n (m + 1) pt ph al rm rot := by
  have hrow := rows_new2 hg m0 m1 hal ht hh hR hI
  have ge := hg.1 m m0 (by omega)
  rw [ht, hh] at ge
  have hbl : ∀ e u v, JJ (m + 1) pt ph al e u v → (fun e => if e = m then (1 : Int) else 0) e < 2 := fun e u v _ => by show (if e = m then (1 : Int) else 0) < 2; split <;> omega
  have hl : lA (m + 1) pt ph al (fun e => if e = m then (1 : Int) else 0) 1 = jA m pt ph al := by
    funext u v
    apply propext
    constructor
    · rintro ⟨e, j, z⟩
      have z_zq : (if e = m then (1 : Int) else 0) < 1 := z
      rcases JJ_last.1 j with w | ⟨w, _⟩
      · exact ⟨e, w⟩
      · rw [if_pos w] at z_zq; omega
    · rintro ⟨e, j⟩
      exact ⟨e, JJ_last.2 (Or.inl j), by show (if e = m then (1 : Int) else 0) < 1; rw [if_neg (by have := j.2.1; omega)]; omega⟩
  have hm : EMI n (m + 1) pt ph al (fun e => if e = m then (1 : Int) else 0) rm0 rot0 1 := by
    unfold EMI
    rw [hl]
    refine ⟨fun i i0 i1 => ?_, hR.2⟩
    obtain ⟨r1, r2, r3, r4⟩ := hR.1 i i0 i1
    refine ⟨r1, fun k k0 k1 => ?_, r3, fun e x j z => ?_⟩
    · obtain ⟨x, j⟩ := r2 k k0 k1
      refine ⟨x, JJ_last.2 (Or.inl j), ?_⟩
      show (if rt rot0 i k = m then (1 : Int) else 0) < 1
      rw [if_neg (by have := j.2.1; omega)]; omega
    · have z_zq : (if e = m then (1 : Int) else 0) < 1 := z
      rcases JJ_last.1 j with w | ⟨w, _⟩
      · exact r4 e x w
      · rw [if_pos w] at z_zq; omega
  have one : ∀ e, inB (m + 1) al (fun e => if e = m then (1 : Int) else 0) 1 e → e = m := fun e h => by
    have z : (if e = m then (1 : Int) else 0) = 1 := h.2.2.2
    by_cases q : e = m
    · exact q
    · rw [if_neg q] at z; omega
  have inm : inB (m + 1) al (fun e => if e = m then (1 : Int) else 0) 1 m := ⟨m0, by omega, hal, by show (if m = m then (1 : Int) else 0) = 1; rw [if_pos rfl]⟩
  have hD : DRB (m + 1) 0 pt ph al (fun e => if e = m then (1 : Int) else 0) (fun _ => 0) (fun _ => 0) 1 := Or.inl ⟨rfl, m, inm, one⟩
  have jm : ∀ e i x, JJ (m + 1) pt ph al e i x → (if e = m then (1 : Int) else 0) = 1 → e = m ∧ ((i = a ∧ x = c) ∨ (i = c ∧ x = a)) := fun e i x j z => by
    have q : e = m := Classical.byContradiction (fun w => by rw [if_neg w] at z; omega)
    subst q
    refine ⟨rfl, ?_⟩
    rcases j.2.2.2 with ⟨z1, z2⟩ | ⟨z1, z2⟩
    · exact Or.inl ⟨by omega, by omega⟩
    · exact Or.inr ⟨by omega, by omega⟩
  have hsy : ∀ u v, jA m pt ph al u v → jA m pt ph al v u := fun u v ⟨e, j⟩ => ⟨e, JJ_sym _ _ _ j⟩
  have hmt : ∀ e f i j x y, JJ (m + 1) pt ph al e i x → JJ (m + 1) pt ph al f j y → (fun e => if e = m then (1 : Int) else 0) e = 1 → (fun e => if e = m then (1 : Int) else 0) f = 1 → rc (lA (m + 1) pt ph al (fun e => if e = m then (1 : Int) else 0) 1) i j → i = j := fun e f i j x y he hf be bf hr => by
    rw [hl] at hr
    rcases (jm e i x he be).2 with ⟨z, _⟩ | ⟨z, _⟩ <;> rcases (jm f j y hf bf).2 with ⟨w, _⟩ | ⟨w, _⟩
    · omega
    · rw [z, w] at hr; exact absurd hr hap
    · rw [z, w] at hr; exact absurd (rc_symm hsy hr) hap
    · omega
  have hM : MID n (m + 1) 0 pt ph al (fun e => if e = m then (1 : Int) else 0) (fun _ => 0) (fun _ => 0) rm rot 1 n := by
    refine ⟨rm0, rot0, hm, fun i i0 _ i1 => ?_, fun i i0 i1 i2 => by omega⟩
    have r1 := (hR.1 i i0 i1).1
    have b1 := (hrow i i0 i1).1
    obtain ⟨⟨a1, a2⟩, ⟨c1, c2⟩, o1⟩ := hI
    have new : ∀ y, JJ (m + 1) pt ph al m i y → rm i = rm0 i + 1 → insR (rm0 i) (rt rot0 i) (rt rot i) (rm0 i) m → EXT (m + 1) 0 pt ph al (fun e => if e = m then (1 : Int) else 0) (fun _ => 0) (fun _ => 0) rm0 rot0 rm rot 1 i := fun y jy e1 e2 => by
      have et : ∀ t : Int, 0 ≤ t → t < 1 → rt rot i (rm0 i + t) = m := fun t a b => by rw [show rm0 i + t = rm0 i by omega]; exact e2.2.2.2.1
      refine ⟨1, ⟨e1, r1.1, b1.2⟩, fun k k0 k1 => e2.2.2.1 k k0 k1, by omega, fun t t0 t1 => ?_, fun s t s0 st t1 => by omega, fun e x je be => ?_, fun z => by omega⟩
      · show ∃ x, JJ (m + 1) pt ph al (rt rot i (rm0 i + t)) i x ∧ (if rt rot i (rm0 i + t) = m then (1 : Int) else 0) = 1
        rw [et t t0 t1, if_pos rfl]; exact ⟨y, jy, rfl⟩
      · refine ⟨0, by omega, by omega, ?_⟩
        show rt rot i (rm0 i + 0) = e
        rw [et 0 (by omega) (by omega), (jm e i x je be).1]
    by_cases qa : i = a
    · subst qa; exact new c (JJ_last.2 (Or.inr ⟨rfl, m0, hal, Or.inl ⟨ht, hh⟩⟩)) a1 a2
    · by_cases qc : i = c
      · subst qc; exact new a (JJ_last.2 (Or.inr ⟨rfl, m0, hal, Or.inr ⟨ht, hh⟩⟩)) c1 c2
      · obtain ⟨o2, o3⟩ := o1 i i0 qa qc
        refine ⟨0, ⟨by omega, r1.1, b1.2⟩, fun k k0 k1 => o3 k k0 (by omega), by omega, fun t t0 t1 => by omega, fun s t s0 st t1 => by omega, fun e x je be => ?_, fun z => by omega⟩
        rcases (jm e i x je be).2 with ⟨z, _⟩ | ⟨z, _⟩
        · exact absurd z qa
        · exact absurd z qc
  exact (rot_emi (b := 2) hbl).1 (emi_glue hg hmt hD hM)
end
section
/-! newLine, putAt, putAhead, putBehind -/
def ALV (m : Int) (al : Int → Int) : Prop := ∀ e, 0 ≤ e → e < m → al e = 1
def GRI (n m : Int) (pt ph al rm rot : Int → Int) : Prop := (GOK n m pt ph ∧ 0 ≤ m) ∧ ALV m al ∧ ROT n m pt ph al rm rot
def NAD (n m : Int) (pt ph : Int → Int) (a c : Int) : Prop := 0 ≤ a ∧ a < n ∧ 0 ≤ c ∧ c < n ∧ a ≠ c ∧ ∀ e, 0 ≤ e → e < m → ¬ eJ pt ph e a c
def CRN (m : Int) (pt ph al rm rot : Int → Int) (a c d x : Int) : Prop := liv m al d ∧ NDT m pt ph rm rot d x ∧ dfr pt ph d = a ∧ dto pt ph x = c
def PNX (md n m : Int) (pt ph al rm rot : Int → Int) (a c d x : Int) : Prop := GRI n m pt ph al rm rot ∧ NAD n m pt ph a c ∧ (md = 1 → ¬ rc (jA m pt ph al) a c) ∧ (md = 3 → CRN m pt ph al rm rot a c d x)
def PU0 (n m : Int) (pt ph al rm rot : Int → Int) (a c e : Int) : Prop := (e + 1 = m ∧ 0 ≤ e ∧ m ≤ 80) ∧ GOK n m pt ph ∧ ALV m al ∧ (pt e = a ∧ ph e = c) ∧ ROT n e pt ph al rm rot
def PUX (md n m : Int) (pt ph al rm rot : Int → Int) (a c d x e : Int) : Prop := (md = 1 → PU0 n m pt ph al rm rot a c e ∧ ¬ rc (jA e pt ph al) a c) ∧ (md = 2 → ∃ rm0 rot0, (PU0 n m pt ph al rm0 rot0 a c e ∧ ¬ rc (jA e pt ph al) a c) ∧ INS rm0 rot0 rm rot a e (rm0 a)) ∧ (md = 3 → PU0 n m pt ph al rm rot a c e ∧ CRN e pt ph al rm rot a c d x) ∧ (md = 4 → ∃ rm0 rot0 ka, (PU0 n m pt ph al rm0 rot0 a c e ∧ CRN e pt ph al rm0 rot0 a c d x) ∧ (0 ≤ ka ∧ ka < rm0 a ∧ rt rot0 a ka = d / 2) ∧ INS rm0 rot0 rm rot a e ka) ∧ (md = 9 → GRI n m pt ph al rm rot)
theorem gok_sub {n m m_zq : Int} {pt ph : Int → Int} (h : GOK n m pt ph) (hm : m_zq ≤ m) : GOK n m_zq pt ph := ⟨fun e e0 e1 => h.1 e e0 (by omega), fun e f e0 ef f1 => h.2 e f e0 ef (by omega)⟩
theorem gok_new {n m a c p v q w : Int} {pt ph pt_zq ph_zq : Int → Int} (hg : GOK n m pt ph) (m0 : 0 ≤ m) (hn : NAD n m pt ph a c) (hs : st1 pt pt_zq p v) (hp : p = m) (hv : v = a) (ht : st1 ph ph_zq q w) (hq : q = m) (hw : w = c) : GOK n (m + 1) pt_zq ph_zq ∧ (pt_zq m = a ∧ ph_zq m = c) ∧ ∀ e, 0 ≤ e → e < m → pt_zq e = pt e ∧ ph_zq e = ph e := by
  obtain ⟨n1, n2, n3, n4, n5, n6⟩ := hn
  have e1 : ∀ e, 0 ≤ e → e < m → pt_zq e = pt e ∧ ph_zq e = ph e := fun e a b => ⟨(hs e a).2 (by omega), (ht e a).2 (by omega)⟩
  have e2 : pt_zq m = a ∧ ph_zq m = c := ⟨((hs m m0).1 hp.symm).trans hv, ((ht m m0).1 hq.symm).trans hw⟩
  refine ⟨⟨fun e e0 e1_zq => ?_, fun e f e0 ef f1 => ?_⟩, e2, e1⟩
  · by_cases z : e = m
    · rw [z, e2.1, e2.2]; exact ⟨n1, n2, n3, n4, n5⟩
    · rw [(e1 e e0 (by omega)).1, (e1 e e0 (by omega)).2]; exact hg.1 e e0 (by omega)
  · rw [(e1 e e0 (by omega)).1, (e1 e e0 (by omega)).2]
    by_cases z : f = m
    · rw [z, e2.1, e2.2]; exact n6 e e0 (by omega)
    · rw [(e1 f (by omega) (by omega)).1, (e1 f (by omega) (by omega)).2]; exact hg.2 e f e0 ef (by omega)
theorem dd_congr {m : Int} {pt ph pt_zq ph_zq : Int → Int} (h : ∀ e, 0 ≤ e → e < m → pt_zq e = pt e ∧ ph_zq e = ph e) {d : Int} (d0 : 0 ≤ d) (d1 : d < 2 * m) : dfr pt_zq ph_zq d = dfr pt ph d ∧ dto pt_zq ph_zq d = dto pt ph d := by
  unfold dfr dto
  rw [(h (d / 2) (by omega) (by omega)).1, (h (d / 2) (by omega) (by omega)).2]
  exact ⟨rfl, rfl⟩
theorem crn_congr {m a c d x : Int} {pt ph al pt_zq ph_zq al_zq rm rot : Int → Int} (h : ∀ e, 0 ≤ e → e < m → pt_zq e = pt e ∧ ph_zq e = ph e ∧ al_zq e = al e) (k : CRN m pt ph al rm rot a c d x) : CRN m pt_zq ph_zq al_zq rm rot a c d x := by
  have h_zq : ∀ e, 0 ≤ e → e < m → pt_zq e = pt e ∧ ph_zq e = ph e := fun e a b => ⟨(h e a b).1, (h e a b).2.1⟩
  obtain ⟨k1, ⟨k2, k3, k4, k5⟩, k6, k7⟩ := k
  have ed := dd_congr h_zq k1.1 k1.2.1
  have ex := dd_congr h_zq k2 k3
  refine ⟨⟨k1.1, k1.2.1, by rw [(h (d / 2) (by have := k1.1; omega) (by have := k1.2.1; omega)).2.2]; exact k1.2.2⟩, ⟨k2, k3, by rw [ex.1, ed.2]; exact k4, by rw [ed.2]; exact k5⟩, by rw [ed.1]; exact k6, by rw [ex.2]; exact k7⟩
theorem pux_new {md n m m_zq a c d x z p v q w s t : Int} {pt ph al pt_zq ph_zq al_zq rm rot : Int → Int} (h : PNX md n m pt ph al rm rot a c d x) (hm : m ≤ 79) (hs : st1 pt pt_zq p v) (hp : p = m) (hv : v = a) (ht : st1 ph ph_zq q w) (hq : q = m) (hw : w = c) (hu : st1 al al_zq s t) (hs_zq : s = m) (ht_zq : t = 1) (hm_zq : m_zq = m + 1) (hz : z = m) (hmd : md = 1 ∨ md = 3) : PUX md n m_zq pt_zq ph_zq al_zq rm rot a c d x z := by
  obtain ⟨⟨⟨g1, m0⟩, g2, g3⟩, h2, h3, h4⟩ := h
  obtain ⟨k1, k2, k3⟩ := gok_new g1 m0 h2 hs hp hv ht hq hw
  have ea : al_zq m = 1 := ((hu m m0).1 hs_zq.symm).trans ht_zq
  have e3 : ∀ e, 0 ≤ e → e < m → pt_zq e = pt e ∧ ph_zq e = ph e ∧ al_zq e = al e := fun e a b => ⟨(k3 e a b).1, (k3 e a b).2, (hu e a).2 (by omega)⟩
  subst hm_zq; subst hz
  have p0 : PU0 n (z + 1) pt_zq ph_zq al_zq rm rot a c z := ⟨⟨rfl, m0, by omega⟩, k1, fun e a b => by
    by_cases w : e = z
    · rw [w]; exact ea
    · rw [(e3 e a (by omega)).2.2]; exact g2 e a (by omega), k2, rot_congr e3 g3⟩
  have hj : jA z pt_zq ph_zq al_zq = jA z pt ph al := by unfold jA; rw [JJ_congr e3]
  refine ⟨fun w => ⟨p0, by rw [hj]; exact h3 w⟩, fun w => by omega, fun w => ⟨p0, crn_congr e3 (h4 w)⟩, fun w => by omega, fun w => by omega⟩
def psc (md : Int) (rm rot : Int → Int) (i k a c d x : Int) : Prop := (md = 1 → i = a ∧ k = rm i) ∧ (md = 2 → i = c ∧ k = rm i) ∧ (md = 3 → i = a ∧ 0 ≤ k ∧ k < rm i ∧ rt rot i k = d / 2) ∧ (md = 4 → i = c ∧ 1 ≤ k ∧ k ≤ rm i ∧ rt rot i (k - 1) = x / 2)
def PAX (md n m : Int) (pt ph al rm rot : Int → Int) (i e k a c d x : Int) : Prop := (md = 1 ∨ md = 2 ∨ md = 3 ∨ md = 4) ∧ PUX md n m pt ph al rm rot a c d x e ∧ psc md rm rot i k a c d x
theorem rt_len {n m i : Int} {pt ph al rm rot : Int → Int} (h : ROT n m pt ph al rm rot) (m0 : 0 ≤ m) (i0 : 0 ≤ i) (i1 : i < n) : 0 ≤ rm i ∧ rm i ≤ m := by
  obtain ⟨r1, r2, r3, r4⟩ := h.1 i i0 i1
  refine ⟨r1.1, rw_len m0 (fun k k0 k1 => ?_) r3⟩
  obtain ⟨x, j⟩ := r2 k k0 k1
  exact ⟨j.1, j.2.1⟩
theorem pu0_ac {n m a c e : Int} {pt ph al rm rot : Int → Int} (h : PU0 n m pt ph al rm rot a c e) : 0 ≤ a ∧ a < n ∧ 0 ≤ c ∧ c < n ∧ a ≠ c := by
  obtain ⟨⟨h1, h2, h3⟩, g, _, ⟨ha, hc⟩, _⟩ := h
  have := g.1 e h2 (by omega)
  rw [ha, hc] at this; exact this
theorem pax_len {md n m i e k a c d x : Int} {pt ph al rm rot : Int → Int} (h : PAX md n m pt ph al rm rot i e k a c d x) : (0 ≤ i ∧ i < n) ∧ (0 ≤ e ∧ e ≤ 79) ∧ 0 ≤ k ∧ k ≤ rm i ∧ rm i ≤ 79 := by
  obtain ⟨hm, ⟨h1, h2, h3, h4, _⟩, s1, s2, s3, s4⟩ := h
  rcases hm with w | w | w | w
  · obtain ⟨p, _⟩ := h1 w
    have ac := pu0_ac p
    have := s1 w
    have r := rt_len p.2.2.2.2 p.1.2.1 (i := i) (by omega) (by omega)
    have := p.1
    omega
  · obtain ⟨rm0, rot0, ⟨p, _⟩, q⟩ := h2 w
    have ac := pu0_ac p
    have := s2 w
    have r := rt_len p.2.2.2.2 p.1.2.1 (i := i) (by omega) (by omega)
    have o := (q.2.2 i (by omega) (by omega)).1
    have := p.1
    omega
  · obtain ⟨p, _⟩ := h3 w
    have ac := pu0_ac p
    have := s3 w
    have r := rt_len p.2.2.2.2 p.1.2.1 (i := i) (by omega) (by omega)
    have := p.1
    omega
  · obtain ⟨rm0, rot0, ka, ⟨p, _⟩, _, q⟩ := h4 w
    have ac := pu0_ac p
    have := s4 w
    have r := rt_len p.2.2.2.2 p.1.2.1 (i := i) (by omega) (by omega)
    have o := (q.2.2 i (by omega) (by omega)).1
    have := p.1
    omega
def nxm (md : Int) : Int := if md = 1 then 2 else if md = 3 then 4 else 9
theorem pax_ins {md n m i e k a c d x : Int} {pt ph al rm rot rm_zq rot_zq : Int → Int} (h : PAX md n m pt ph al rm rot i e k a c d x) (hi : INS rm rot rm_zq rot_zq i e k) : PUX (nxm md) n m pt ph al rm_zq rot_zq a c d x e := by
  have hl := pax_len h
  obtain ⟨hm, ⟨h1, h2, h3, h4, _⟩, s1, s2, s3, s4⟩ := h
  unfold nxm
  rcases hm with w | w | w | w
  · rw [if_pos w]
    obtain ⟨p, p_zq⟩ := h1 w
    obtain ⟨ia, ik⟩ := s1 w
    subst ia; subst ik
    exact ⟨fun z => by omega, fun _ => ⟨rm, rot, ⟨p, p_zq⟩, hi⟩, fun z => by omega, fun z => by omega, fun z => by omega⟩
  · rw [if_neg (by omega), if_neg (by omega)]
    obtain ⟨rm0, rot0, ⟨p, p_zq⟩, q⟩ := h2 w
    obtain ⟨ic, ik⟩ := s2 w
    subst ic
    have ac := pu0_ac p
    obtain ⟨⟨e1, e2, e3⟩, g, al_zq, ⟨ha, hc⟩, hr⟩ := p
    have o := (q.2.2 i ac.2.2.1 (fun z => ac.2.2.2.2 z.symm)).1
    have ra := rt_len hr e2 ac.1 ac.2.1
    have rc_zq := rt_len hr e2 ac.2.2.1 ac.2.2.2.1
    have t := ins_two q hi ac.1 ac.2.2.1 ac.2.2.2.2 (by have := q.1; omega) (by omega)
    subst e1
    rw [ik, o] at t
    exact ⟨fun z => by omega, fun z => by omega, fun z => by omega, fun z => by omega, fun _ => ⟨⟨g, by omega⟩, al_zq, rot_glue g e2 e3 (al_zq e e2 (by omega)) ha hc hr p_zq t⟩⟩
  · rw [if_neg (by omega), if_pos w]
    obtain ⟨p, p_zq⟩ := h3 w
    obtain ⟨ia, k0, k1, k2⟩ := s3 w
    subst ia
    exact ⟨fun z => by omega, fun z => by omega, fun z => by omega, fun _ => ⟨rm, rot, k, ⟨p, p_zq⟩, ⟨k0, k1, k2⟩, hi⟩, fun z => by omega⟩
  · rw [if_neg (by omega), if_neg (by omega)]
    obtain ⟨rm0, rot0, ka, ⟨p, p_zq⟩, ⟨ka0, ka1, ka2⟩, q⟩ := h4 w
    obtain ⟨ic, k0, k1, k2⟩ := s4 w
    subst ic
    have ac := pu0_ac p
    obtain ⟨⟨e1, e2, e3⟩, g, al_zq, ⟨ha, hc⟩, hr⟩ := p
    have o := q.2.2 i ac.2.2.1 (fun z => ac.2.2.2.2 z.symm)
    have ra := rt_len hr e2 ac.1 ac.2.1
    have rc_zq := rt_len hr e2 ac.2.2.1 ac.2.2.2.1
    have t := ins_two q hi ac.1 ac.2.2.1 ac.2.2.2.2 (by have := q.1; omega) (by omega)
    subst e1
    rw [o.2 (k - 1) (by omega) (by omega)] at k2
    exact ⟨fun z => by omega, fun z => by omega, fun z => by omega, fun z => by omega, fun _ => ⟨⟨g, by omega⟩, al_zq, rot_chord g e2 e3 (al_zq e e2 (by omega)) ha hc hr p_zq.1 p_zq.2.1 p_zq.2.2.1 p_zq.2.2.2 t ka1 ka2 k0 k2⟩⟩
/-- shifted down to j -/
def PAL (md n m : Int) (pt ph al rm rot : Int → Int) (i e k j a c d x : Int) : Prop := ∃ rot0, PAX md n m pt ph al rm rot0 i e k a c d x ∧ k ≤ j ∧ j ≤ rm i ∧ (∀ l, 0 ≤ l → l ≤ j → rt rot i l = rt rot0 i l) ∧ (∀ l, j < l → l ≤ rm i → rt rot i l = rt rot0 i (l - 1)) ∧ ∀ i_zq, 0 ≤ i_zq → i_zq ≠ i → ∀ l, 0 ≤ l → l < 80 → rt rot i_zq l = rt rot0 i_zq l
theorem pal_start {md n m i e k j a c d x : Int} {pt ph al rm rot : Int → Int} (h : PAX md n m pt ph al rm rot i e k a c d x) (hj : j = rm i) : PAL md n m pt ph al rm rot i e k j a c d x :=
  ⟨rot, h, by have := pax_len h; omega, by omega, fun _ _ _ => rfl, fun l a b => by omega, fun _ _ _ _ _ _ => rfl⟩
theorem pal_len {md n m i e k j a c d x : Int} {pt ph al rm rot : Int → Int} (h : PAL md n m pt ph al rm rot i e k j a c d x) : (0 ≤ i ∧ i < n) ∧ (0 ≤ e ∧ e ≤ 79) ∧ 0 ≤ k ∧ k ≤ j ∧ j ≤ rm i ∧ rm i ≤ 79 := by
  obtain ⟨rot0, h1, h2, h3, _⟩ := h
  have := pax_len h1
  omega
theorem pal_step {md n m i e k j j_zq a c d x p v q : Int} {pt ph al rm rot rot_zq : Int → Int} (h : PAL md n m pt ph al rm rot i e k j a c d x) (hj : j_zq = j - 1) (hk : k < j) (hs : st1 rot rot_zq p v) (hp : p = 80 * i + j) (hv : v = rot q) (hq : q = 80 * i + j - 1) : PAL md n m pt ph al rm rot_zq i e k j_zq a c d x := by
  have hl := pal_len h
  obtain ⟨rot0, h1, h2, h3, h4, h5, h6⟩ := h
  have kp : ∀ l, 0 ≤ l → l ≠ j → rt rot_zq i l = rt rot i l := fun l a b => (hs _ (by omega)).2 (by omega)
  have nw : rt rot_zq i j = rt rot i (j - 1) := by
    unfold rt
    rw [(hs _ (by omega)).1 (by omega), hv, hq, show 80 * i + j - 1 = 80 * i + (j - 1) by omega]
  refine ⟨rot0, h1, by omega, by omega, fun l a b => by rw [kp l a (by omega)]; exact h4 l a (by omega), fun l a b => ?_, fun i_zq a b l c d => ?_⟩
  · by_cases z : l = j
    · rw [z, nw]; exact h4 _ (by omega) (by omega)
    · rw [kp l (by omega) z]; exact h5 l (by omega) b
  · have : rt rot_zq i_zq l = rt rot i_zq l := (hs _ (by omega)).2 (by omega)
    rw [this]; exact h6 i_zq a b l c d
theorem pal_end {md n m i e k j a c d x p v q w : Int} {pt ph al rm rm_zq rot rot_zq : Int → Int} (h : PAL md n m pt ph al rm rot i e k j a c d x) (hj : j ≤ k) (hs : st1 rot rot_zq p v) (hp : p = 80 * i + k) (hv : v = e) (ht : st1 rm rm_zq q w) (hq : q = i) (hw : w = rm q + 1) : PUX (nxm md) n m pt ph al rm_zq rot_zq a c d x e := by
  have hl := pal_len h
  obtain ⟨rot0, h1, h2, h3, h4, h5, h6⟩ := h
  have kp : ∀ l, 0 ≤ l → l ≠ k → rt rot_zq i l = rt rot i l := fun l a b => (hs _ (by omega)).2 (by omega)
  refine pax_ins h1 ⟨?_, ⟨by omega, by omega, fun l a b => ?_, ?_, fun l a b => ?_⟩, fun i_zq a b => ⟨(ht i_zq a).2 (by omega), fun l c d => ?_⟩⟩
  · rw [(ht i (by omega)).1 hq.symm, hw, hq]
  · rw [kp l a (by omega)]; exact h4 l a (by omega)
  · exact ((hs _ (by omega)).1 (by omega)).trans hv
  · rw [kp (l + 1) (by omega) (by omega)]
    have := h5 (l + 1) (by omega) (by omega)
    rw [show l + 1 - 1 = l by omega] at this; exact this
  · have : rt rot_zq i_zq l = rt rot i_zq l := (hs _ (by omega)).2 (by omega)
    rw [this]; exact h6 i_zq a b l c d
/-- where the edge is sought -/
def SEK (rot : Int → Int) (i e k : Int) : Prop := ∀ j, 0 ≤ j → j < k → rt rot i j ≠ e
theorem sek_next {rot : Int → Int} {i e k k_zq : Int} (h : SEK rot i e k) (hk : k_zq = k + 1) (hn : rt rot i k ≠ e) : SEK rot i e k_zq := by
  intro j a b
  by_cases q : j = k
  · rw [q]; exact hn
  · exact h j a (by omega)
theorem sek_a {n m a c d x e k f : Int} {pt ph al rm rot : Int → Int} (h : PUX 3 n m pt ph al rm rot a c d x e) (hf : f = d / 2) (hs : SEK rot a f k) : (0 ≤ a ∧ a < n) ∧ k < rm a ∧ rm a ≤ 79 ∧ 0 ≤ e ∧ e ≤ 79 := by
  obtain ⟨p, l, _, da, _⟩ := h.2.2.1 rfl
  have ac := pu0_ac p
  obtain ⟨⟨e1, e2, e3⟩, g, al_zq, _, hr⟩ := p
  have j := dart_J (pt := pt) (ph := ph) l
  rw [da] at j
  obtain ⟨t, t0, t1, t2⟩ := (hr.1 a ac.1 ac.2.1).2.2.2 _ _ j
  have r := rt_len hr e2 ac.1 ac.2.1
  refine ⟨⟨ac.1, ac.2.1⟩, Classical.byContradiction (fun z => hs t t0 (by omega) (by rw [hf]; exact t2)), by omega, by omega, by omega⟩
theorem sek_c {n m a c d x e k f : Int} {pt ph al rm rot : Int → Int} (h : PUX 4 n m pt ph al rm rot a c d x e) (hf : f = x / 2) (hs : SEK rot c f k) : (0 ≤ c ∧ c < n) ∧ k < rm c ∧ rm c ≤ 79 ∧ 0 ≤ e ∧ e ≤ 79 := by
  obtain ⟨rm0, rot0, ka, ⟨p, l, hn, da, xc⟩, _, q⟩ := h.2.2.2.1 rfl
  have ac := pu0_ac p
  obtain ⟨⟨e1, e2, e3⟩, g, al_zq, _, hr⟩ := p
  have hgm := gok_sub (m_zq := e) g (by omega)
  have lx := ndt_liv hgm (eml_rot.2 hr) l hn
  have j := JJ_sym _ _ _ (dart_J (pt := pt) (ph := ph) lx)
  rw [xc] at j
  obtain ⟨t, t0, t1, t2⟩ := (hr.1 c ac.2.2.1 ac.2.2.2.1).2.2.2 _ _ j
  have r := rt_len hr e2 ac.2.2.1 ac.2.2.2.1
  have o := q.2.2 c ac.2.2.1 (fun z => ac.2.2.2.2 z.symm)
  rw [o.1]
  refine ⟨⟨ac.2.2.1, ac.2.2.2.1⟩, Classical.byContradiction (fun z => hs t t0 (by omega) ?_), by omega, by omega, by omega⟩
  rw [o.2 t t0 (by omega), hf]; exact t2
end
section
/-! grid: parts joined, faces cut -/
theorem cna_rc {n m x y : Int} {pt ph al : Int → Int} (hg : GOK n m pt ph) : cnA (JJ m pt ph al) (-1) x y ↔ rc (jA m pt ph al) x y := by
  constructor
  · exact rc_mono (fun a b h => h.1)
  · refine rc_mono (fun a b h => ⟨h, ?_, ?_⟩)
    · obtain ⟨e, j⟩ := h; have := JJ_rng hg j; omega
    · obtain ⟨e, j⟩ := h; have := JJ_rng hg j; omega
def CON (n m : Int) (pt ph al : Int → Int) : Prop := ∀ y, 0 ≤ y → y < n → rc (jA m pt ph al) 0 y
def AP1 (n m : Int) (pt ph al seen : Int → Int) (i : Int) : Prop := FLD n m pt ph al seen 0 (-1) ∧ ∀ j, 0 ≤ j → j < i → seen j ≠ 0
def APN (n m : Int) (pt ph al : Int → Int) (z : Int) : Prop := (z = -1 ∧ CON n m pt ph al) ∨ (0 ≤ z ∧ z < n ∧ ¬ rc (jA m pt ph al) 0 z)
theorem apn_no {n m i z : Int} {pt ph al seen : Int → Int} (hg : GOK n m pt ph) (h : AP1 n m pt ph al seen i) (hi : n ≤ i) (hz : z = -1) : APN n m pt ph al z :=
  Or.inl ⟨hz, fun y a b => (cna_rc hg).1 ((h.1 y a b).1 (h.2 y a (by omega)))⟩
theorem apn_yes {n m i : Int} {pt ph al seen : Int → Int} (hg : GOK n m pt ph) (h : AP1 n m pt ph al seen i) (i0 : 0 ≤ i) (i1 : i < n) (hs : seen i = 0) : APN n m pt ph al i :=
  Or.inr ⟨i0, i1, fun r => (h.1 i i0 i1).2 ((cna_rc hg).2 r) hs⟩
theorem ap1_next {n m i i_zq : Int} {pt ph al seen : Int → Int} (h : AP1 n m pt ph al seen i) (hi : i_zq = i + 1) (hs : seen i ≠ 0) : AP1 n m pt ph al seen i_zq := by
  refine ⟨h.1, fun j a b => ?_⟩
  by_cases q : j = i
  · rw [q]; exact hs
  · exact h.2 j a (by omega)
/-- how many nodes are not joined with node 0 -/
noncomputable def rcN (m : Int) (pt ph al : Int → Int) (y : Int) : Int := @ite Int (rc (jA m pt ph al) 0 y) (Classical.propDecidable _) 1 0
theorem rcN_0 {m y : Int} {pt ph al : Int → Int} : rcN m pt ph al y = 0 ↔ ¬ rc (jA m pt ph al) 0 y := by
  unfold rcN
  split <;> simp_all
noncomputable def unc (n m : Int) (pt ph al : Int → Int) : Int := cz (rcN m pt ph al) n
def UNA (n m : Int) (pt ph al : Int → Int) (g : Int) : Prop := unc n m pt ph al ≤ g ∧ m + unc n m pt ph al ≤ 71
def UNP (n m : Int) (pt ph al : Int → Int) (g : Int) : Prop := UNA n (m - 1) pt ph al g
def GLU (n m : Int) (pt ph al : Int → Int) (c : Int) : Prop := 1 ≤ m ∧ 0 ≤ c ∧ c < n ∧ JJ m pt ph al (m - 1) 0 c ∧ ¬ rc (jA (m - 1) pt ph al) 0 c
def GR1 (n m : Int) (pt ph al rm rot : Int → Int) (g : Int) : Prop := GRI n m pt ph al rm rot ∧ (3 ≤ n ∧ n ≤ 24) ∧ UNA n m pt ph al g
def GR1n (n m : Int) (pt ph al rm rot : Int → Int) (g : Int) : Prop := GR1 n m pt ph al rm rot (g - 1)
theorem una_start {n m g : Int} {pt ph al : Int → Int} (hn : 3 ≤ n) (hn2 : n ≤ 24) (hm : m ≤ 48) (hg : g = 25) : UNA n m pt ph al g := by
  have := czlt (f := rcN m pt ph al) (g := fun _ => 0) (n := n) (i := 0) (by omega) (by omega) (fun _ _ _ _ => rfl) rfl (fun z => rcN_0.1 z (rc_refl _ _))
  have b := czb (fun _ => (0 : Int)) (n := n) (by omega)
  unfold UNA unc
  omega
theorem una_congr {n m g : Int} {pt ph al pt_zq ph_zq al_zq : Int → Int} (h : ∀ e, 0 ≤ e → e < m → pt_zq e = pt e ∧ ph_zq e = ph e ∧ al_zq e = al e) (k : UNA n m pt ph al g) : UNA n m pt_zq ph_zq al_zq g := by
  have : rcN m pt_zq ph_zq al_zq = rcN m pt ph al := by unfold rcN jA; rw [JJ_congr h]
  unfold UNA unc
  rw [this]; exact k
theorem jA_mono {m m_zq u v : Int} {pt ph al : Int → Int} (hm : m ≤ m_zq) (h : jA m pt ph al u v) : jA m_zq pt ph al u v := by
  obtain ⟨e, j⟩ := h; exact ⟨e, j.1, by have := j.2.1; omega, j.2.2⟩
theorem una_less {n m g c : Int} {pt ph al : Int → Int} (hl : GLU n m pt ph al c) (h : UNP n m pt ph al g) : UNA n m pt ph al (g - 1) := by
  obtain ⟨m1, c0, c1, j, hn⟩ := hl
  have := czlt (f := rcN m pt ph al) (g := rcN (m - 1) pt ph al) (n := n) (i := c) c0 c1 (fun y _ _ z => rcN_0.2 (fun w => rcN_0.1 z (rc_mono (fun a b q => jA_mono (by omega) q) w))) (rcN_0.2 hn) (fun z => rcN_0.1 z (rc_step ⟨_, j⟩))
  have h1 := h.1
  have h2 := h.2
  unfold unc at h1 h2
  unfold UNA unc
  omega
/-! the rows by modes -/
def PN1 (n m : Int) (pt ph al rm rot : Int → Int) (c : Int) : Prop := PNX 1 n m pt ph al rm rot 0 c 0 0
def PN3 (n m : Int) (pt ph al rm rot : Int → Int) (a c d x : Int) : Prop := PNX 3 n m pt ph al rm rot a c d x
def PUa (n m : Int) (pt ph al rm rot : Int → Int) (c e : Int) : Prop := PUX 1 n m pt ph al rm rot 0 c 0 0 e
def PUb (n m : Int) (pt ph al rm rot : Int → Int) (c e : Int) : Prop := PUX 2 n m pt ph al rm rot 0 c 0 0 e
def PUc (n m : Int) (pt ph al rm rot : Int → Int) (a c d x e : Int) : Prop := PUX 3 n m pt ph al rm rot a c d x e
def PUd (n m : Int) (pt ph al rm rot : Int → Int) (a c d x e : Int) : Prop := PUX 4 n m pt ph al rm rot a c d x e
def PAa (n m : Int) (pt ph al rm rot : Int → Int) (i e k c : Int) : Prop := PAX 1 n m pt ph al rm rot i e k 0 c 0 0
def PAb (n m : Int) (pt ph al rm rot : Int → Int) (i e k c : Int) : Prop := PAX 2 n m pt ph al rm rot i e k 0 c 0 0
def PAc (n m : Int) (pt ph al rm rot : Int → Int) (i e k a c d x : Int) : Prop := PAX 3 n m pt ph al rm rot i e k a c d x
def PAd (n m : Int) (pt ph al rm rot : Int → Int) (i e k a c d x : Int) : Prop := PAX 4 n m pt ph al rm rot i e k a c d x
def PLa (n m : Int) (pt ph al rm rot : Int → Int) (i e k j c : Int) : Prop := PAL 1 n m pt ph al rm rot i e k j 0 c 0 0
def PLb (n m : Int) (pt ph al rm rot : Int → Int) (i e k j c : Int) : Prop := PAL 2 n m pt ph al rm rot i e k j 0 c 0 0
def PLc (n m : Int) (pt ph al rm rot : Int → Int) (i e k j a c d x : Int) : Prop := PAL 3 n m pt ph al rm rot i e k j a c d x
def PLd (n m : Int) (pt ph al rm rot : Int → Int) (i e k j a c d x : Int) : Prop := PAL 4 n m pt ph al rm rot i e k j a c d x
def PHA (n m : Int) (pt ph al rm rot : Int → Int) (i e f c d x : Int) : Prop := PUX 3 n m pt ph al rm rot i c d x e ∧ f = d / 2
def PHB (n m : Int) (pt ph al rm rot : Int → Int) (i e f a d x : Int) : Prop := PUX 4 n m pt ph al rm rot a i d x e ∧ f = x / 2
theorem una_new {n m m_zq g p v q w s t : Int} {pt ph al pt_zq ph_zq al_zq : Int → Int} (h : UNA n m pt ph al g) (hs : st1 pt pt_zq p v) (hp : p = m) (ht : st1 ph ph_zq q w) (hq : q = m) (hu : st1 al al_zq s t) (hs_zq : s = m) (hm_zq : m_zq = m + 1) : UNP n m_zq pt_zq ph_zq al_zq g := by
  unfold UNP
  rw [show m_zq - 1 = m by omega]
  exact una_congr (fun e a b => ⟨(hs e a).2 (by omega), (ht e a).2 (by omega), (hu e a).2 (by omega)⟩) h
theorem glu_new {n m c e : Int} {pt ph al rm rot : Int → Int} (h : PUa n m pt ph al rm rot c e) : GLU n m pt ph al c := by
  obtain ⟨⟨⟨h1, h2, h3⟩, g, hal, ⟨ha, hc⟩, _⟩, hn⟩ := h.1 rfl
  have ge := g.1 e h2 (by omega)
  rw [ha, hc] at ge
  have em : m - 1 = e := by omega
  refine ⟨by omega, ge.2.2.1, ge.2.2.2.1, ?_, by rw [em]; exact hn⟩
  rw [em]
  exact ⟨h2, by omega, hal e h2 (by omega), Or.inl ⟨ha, hc⟩⟩
theorem pn1_of {n m c : Int} {pt ph al rm rot : Int → Int} (h : GRI n m pt ph al rm rot) (hn : 1 ≤ n) (c0 : 0 ≤ c) (c1 : c < n) (hc : ¬ rc (jA m pt ph al) 0 c) : PN1 n m pt ph al rm rot c := by
  refine ⟨h, ⟨by omega, by omega, c0, c1, fun z => hc (by rw [← z]; exact rc_refl _ _), fun e e0 e1 j => hc (rc_step ⟨e, e0, e1, h.2.1 e e0 e1, j⟩)⟩, fun _ => hc, fun z => by omega⟩
/-! rounds of a map that hangs together -/
/-- a round of two is a part of its own -/
theorem ndt_back {n m a d x : Int} {pt ph al rm rot : Int → Int} (h : GRI n m pt ph al rm rot) (hd : liv m al d) (h1 : NDT m pt ph rm rot d x) (h2 : NDT m pt ph rm rot x d) (hu : jA m pt ph al a (dto pt ph d)) : a = dfr pt ph d := by
  obtain ⟨⟨hg, m0⟩, hal, hr⟩ := h
  have hE := eml_rot.2 hr
  have hx := ndt_liv hg hE hd h1
  have jd := dart_J (pt := pt) (ph := ph) hd
  have jx := dart_J (pt := pt) (ph := ph) hx
  rw [h1.2.2.1] at jx
  rw [← h2.2.2.1] at jx
  -- one edge
  have ee : x / 2 = d / 2 := JJ_one hg jx (JJ_sym _ _ _ jd)
  obtain ⟨_, _, _, k, k0, k1, k2, k3⟩ := h1
  have rv := JJ_rng hg jd
  obtain ⟨r1, r2, r3, r4⟩ := hr.1 _ rv.2.2.1 rv.2.2.2
  have z := nr_rng k0 k1
  have hk : nr (rm (dto pt ph d)) k = k := by
    rcases Int.lt_trichotomy (nr (rm (dto pt ph d)) k) k with q | q | q
    · exact absurd (by rw [k3, k2, ee]) (r3 _ _ z.1 q k1)
    · exact q
    · exact absurd (by rw [k3, k2, ee]) (r3 _ _ k0 q z.2)
  have hone : rm (dto pt ph d) = 1 := by
    unfold nr at hk
    by_cases w : k + 1 = rm (dto pt ph d)
    · rw [if_pos w] at hk; omega
    · rw [if_neg w] at hk; omega
  obtain ⟨f, jf⟩ := hu
  obtain ⟨l, l0, l1, l2⟩ := r4 f a (JJ_sym _ _ _ jf)
  have : l = k := by omega
  rw [this, k2] at l2
  rw [← l2] at jf
  exact JJ_same (JJ_irr (al := al) hg) (JJ_sym _ _ _ jf) (JJ_sym _ _ _ jd)
theorem no_two {n m d x : Int} {pt ph al rm rot : Int → Int} (h : GRI n m pt ph al rm rot) (hc : CON n m pt ph al) (hn : 3 ≤ n) (hd : liv m al d) (h1 : NDT m pt ph rm rot d x) (h2 : NDT m pt ph rm rot x d) : False := by
  have hg := h.1.1
  have hE := eml_rot.2 h.2.2
  have hx := ndt_liv hg hE hd h1
  have jd := dart_J (pt := pt) (ph := ph) hd
  have rd := JJ_rng hg jd
  have e1 := h1.2.2.1
  have e2 := h2.2.2.1
  have cl : ∀ u v, jA m pt ph al u v → (v = dfr pt ph d ∨ v = dto pt ph d) → (u = dfr pt ph d ∨ u = dto pt ph d) := fun u v huv hv => by
    rcases hv with q | q
    · rw [q, e2] at huv
      have := ndt_back h hx h2 h1 huv
      rw [e1] at this; exact Or.inr this
    · rw [q] at huv
      exact Or.inl (ndt_back h hd h1 h2 huv)
  have sy : ∀ u v, jA m pt ph al u v → jA m pt ph al v u := fun u v ⟨e, j⟩ => ⟨e, JJ_sym _ _ _ j⟩
  have all : ∀ y, 0 ≤ y → y < n → (y = dfr pt ph d ∨ y = dto pt ph d) := fun y y0 y1 => by
    have r1 := hc (dfr pt ph d) rd.1 rd.2.1
    have r2 := rc_trans (rc_symm sy r1) (hc y y0 y1)
    exact r2 (fun z => z = dfr pt ph d ∨ z = dto pt ph d) (fun a b r q => cl b a (sy _ _ r) q) (Or.inl rfl)
  have a0 := all 0 (by omega) (by omega)
  have a1 := all 1 (by omega) (by omega)
  have a2 := all 2 (by omega) (by omega)
  omega
theorem no_one {n m d : Int} {pt ph al rm rot : Int → Int} (hg : GOK n m pt ph) (hd : liv m al d) (h1 : NDT m pt ph rm rot d d) : False := by
  have jd := dart_J (pt := pt) (ph := ph) hd
  exact JJ_irr (al := al) hg _ _ _ jd h1.2.2.1
/-- each round has three darts at least -/
theorem rnd_3 {n m R r : Int} {pt ph al rm rot ro rb rd : Int → Int} (h : GRI n m pt ph al rm rot) (hc : CON n m pt ph al) (hn : 3 ≤ n) (hR : GRD m R pt ph al rm rot ro rb rd) (r0 : 0 ≤ r) (r1 : r < R) : rb r + 3 ≤ rb (r + 1) ∧ 0 ≤ rb r ∧ rb (r + 1) ≤ rb R ∧ ∀ p, rb r ≤ p → p < rb (r + 1) → NDT m pt ph rm rot (rd p) (rd (if p + 1 = rb (r + 1) then rb r else p + 1)) := by
  obtain ⟨⟨_, _, _, _, hk⟩, hD, _⟩ := hR
  obtain ⟨a, b, c, st⟩ := hk r r0 r1
  have en : nxb rb R (rb R) r = rb (r + 1) := by
    unfold nxb
    split
    · next q => rw [← q]
    · rfl
  rw [en] at b c st
  have l0 := hD.2.1 (rb r) a (by omega)
  have s0 := st (rb r) (by omega) b
  have ne1 : rb r + 1 ≠ rb (r + 1) := fun z => by
    rw [if_pos z] at s0
    exact no_one h.1.1 l0 s0
  rw [if_neg ne1] at s0
  have s1 := st (rb r + 1) (by omega) (by omega)
  have ne2 : rb r + 2 ≠ rb (r + 1) := fun z => by
    rw [if_pos (by omega)] at s1
    exact no_two h hc hn l0 s0 s1
  exact ⟨by omega, a, c, st⟩
theorem rnd_many {n m R : Int} {pt ph al rm rot ro rb rd : Int → Int} (h : GRI n m pt ph al rm rot) (hc : CON n m pt ph al) (hn : 3 ≤ n) (hR : GRD m R pt ph al rm rot ro rb rd) : 3 * R ≤ 2 * m := by
  have key : ∀ t : Nat, (t : Int) ≤ R → 3 * (t : Int) ≤ rb t := by
    intro t
    induction t with
    | zero =>
      intro _
      by_cases q : R = 0
      · have := hR.1.2.2.1 q
        rw [q] at this
        have e : rb ((0 : Nat) : Int) = 0 := this
        rw [e]; simp
      · have := hR.1.2.2.2.1 (by have := hR.1.1; omega)
        have e : rb ((0 : Nat) : Int) = 0 := this
        rw [e]; simp
    | succ t ih =>
      intro ht
      have a := ih (by omega)
      have b := rnd_3 h hc hn hR (r := (t : Int)) (by omega) (by omega)
      have e : ((t + 1 : Nat) : Int) = (t : Int) + 1 := by omega
      rw [e]
      omega
  have r0 := hR.1.1
  have := key R.toNat (by omega)
  rw [show ((R.toNat : Nat) : Int) = R by omega] at this
  have := dst_le h.1.2 hR.2.1
  omega
end
