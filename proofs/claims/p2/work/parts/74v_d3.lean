/-! draws: the first ring -/
def inB (m : Int) (al bl : Int → Int) (b e : Int) : Prop := 0 ≤ e ∧ e < m ∧ al e = 1 ∧ bl e = b
def RG0 (n m : Int) (pt ph al bl dE : Int → Int) (b l : Int) : Prop := GOK n m pt ph ∧ isBl (JJ m pt ph al) bl ∧ (∀ e, 0 ≤ e → e < m → (dE e = 0 ↔ (al e = 1 ∧ bl e = b ∧ e ≠ l))) ∧ inB m al bl b l ∧ ∃ f, inB m al bl b f ∧ f ≠ l
theorem ring_way {n m wm : Int} {pt ph al bl dE po dn way : Int → Int} {b l : Int} (h : RG0 n m pt ph al bl dE b l) (hs : SHP n m (-1) wm pt ph al dE po dn way (ph l) (pt l) 0) : WAY n m (-1) pt ph al dE po dn way (ph l) (pt l) 0 wm ∧ 3 ≤ wm := by
  obtain ⟨hg, hB, hd, ⟨l0, l1, l2, l3⟩, f, ⟨f0, f1, f2, f3⟩, hfl⟩ := h
  have jl : JJ m pt ph al l (pt l) (ph l) := ⟨l0, l1, l2, Or.inl ⟨rfl, rfl⟩⟩
  have r := hg.1 l l0 l1
  have hw : WAY n m (-1) pt ph al dE po dn way (ph l) (pt l) 0 wm := by
    rcases hs with ⟨_, L, x1, x2, x3⟩ | z
    · exfalso
      have hr := ring_lem JJ_sym JJ_uni (JJ_irr hg) hB jl ⟨pt f, ph f, f0, f1, f2, Or.inl ⟨rfl, rfl⟩⟩ hfl (by rw [l3, f3])
      have hr' := rc_symm (fun a b' ⟨g, g1, g2, g3⟩ => ⟨g, JJ_sym _ _ _ g1, g2, g3⟩) hr
      refine x2 (hr' L (fun a c ⟨g, g1, g2, g3⟩ La => ?_) x1)
      have rr := JJ_rng hg g1
      refine x3 c a rr.2.2.1 rr.2.2.2 rr.1 rr.2.1 ⟨g, g1.1, g1.2.1, ⟨(hd g g1.1 g1.2.1).mpr ⟨g1.2.2.1, g2.trans l3, g3⟩, Or.inl (by omega)⟩, g1.2.2.2.symm⟩ ⟨Or.inl rfl, Or.inl rfl⟩ La
    · exact z
  refine ⟨hw, ?_⟩
  obtain ⟨w1, w2, w3, w4, w5, w6, w7, w8⟩ := hw
  by_cases q1 : wm = 1
  · exfalso; rw [q1] at w4; rw [show (1 : Int) - 1 = 0 by omega, w3] at w4; exact r.2.2.2.2 w4.symm
  · by_cases q2 : wm = 2
    · exfalso
      obtain ⟨e, je, he⟩ := w7 0 (by omega) (by omega)
      rw [w3, show (0 : Int) + 1 = wm - 1 by omega, w4] at je
      have := JJ_one hg (JJ_sym _ _ _ je) jl
      exact ((hd e je.1 je.2.1).mp he.1).2.2 this
    · omega
theorem one_mp {t h : Int} (hth : t ≠ h) : mp (fun u v => (u = t ∧ v = h) ∨ (u = h ∧ v = t)) (fun u _ => u) := by
  refine ⟨⟨fun u v z => z.elim (fun z => Or.inr ⟨z.2, z.1⟩) (fun z => Or.inl ⟨z.2, z.1⟩), fun u v z e => ?_⟩, fun u v z => z.elim (fun z => Or.inr ⟨z.2, z.1⟩) (fun z => Or.inl ⟨z.2, z.1⟩), fun u u' v a b e => e, fun v L hL u u' a b hu => ?_⟩
  · rcases z with ⟨a, b⟩ | ⟨a, b⟩
    · exact hth (a.symm.trans (e.trans b))
    · exact hth (b.symm.trans (e.symm.trans a))
  · have : u = u' := by
      rcases a with ⟨a1, a2⟩ | ⟨a1, a2⟩ <;> rcases b with ⟨b1, b2⟩ | ⟨b1, b2⟩
      · rw [a1, b1]
      · exact absurd (b2.symm.trans a2) hth
      · exact absurd (a2.symm.trans b2) hth
      · rw [a1, b1]
    rw [← this]; exact hu
theorem one_pls {t h : Int} (hth : t ≠ h) : pls (fun u v => (u = t ∧ v = h) ∨ (u = h ∧ v = t)) (fun u _ => u) (fun w x y => decide (w = t) && eI t h x y) := by
  intro u v a
  refine ⟨fun _ _ => false, fun _ _ _ => rfl, fun x y _ => ?_⟩
  have hsy : eI h t x y = eI t h x y := by
    unfold eI
    by_cases q : (x = t ∧ y = h) ∨ (x = h ∧ y = t)
    · rw [decide_eq_true q, decide_eq_true q.symm]
    · rw [decide_eq_false q, decide_eq_false (fun z => q z.symm)]
  have ht : decide (t = t) = true := decide_eq_true rfl
  have hh : decide (h = t) = false := decide_eq_false (fun z => hth z.symm)
  rcases a with ⟨rfl, rfl⟩ | ⟨rfl, rfl⟩
  · show (false ^^ false) = (((decide (u = u) && eI u v x y) ^^ (decide (v = u) && eI u v x y)) ^^ eI u v x y)
    rw [ht, hh]; generalize eI u v x y = z; revert z; decide
  · show (false ^^ false) = (((decide (u = v) && eI v u x y) ^^ (decide (v = v) && eI v u x y)) ^^ eI u v x y)
    rw [ht, hh, hsy]; generalize eI v u x y = z; revert z; decide
/-- a ring and its two rows -/
theorem ring_fix {t h wm : Int} {way : Int → Int} {L : Int → Int} {R : Int → Int → Int} (hth : t ≠ h) (w3 : 3 ≤ wm) (w0 : way 0 = h) (wl : way (wm - 1) = t) (wd : ∀ i j, 0 ≤ i → i < j → j < wm → way i ≠ way j)
    (hL0 : L 0 = wm) (hL1 : L 1 = wm) (h00 : R 0 0 = t) (h0 : ∀ j, 1 ≤ j → j < wm → R 0 j = way (j - 1)) (h1 : ∀ j, 0 ≤ j → j < wm → R 1 j = way (wm - 1 - j)) :
    ∃ nx ρ, FIX (piA (fun u v => (u = t ∧ v = h) ∨ (u = h ∧ v = t)) way (wm - 2)) nx ρ 2 L R := by
  have inj : ∀ a c, 0 ≤ a → a < wm → 0 ≤ c → c < wm → way a = way c → a = c := fun a c a0 a1 c0 c1 e => by
    rcases Int.lt_trichotomy a c with q | q | q
    · exact absurd e (wd a c a0 q c1)
    · exact q
    · exact absurd e.symm (wd c a c0 q a1)
  have e2 : wm - 2 + 1 = wm - 1 := by omega
  obtain ⟨nx', ρ', a1, a2, a3, a4, a5, a6, a7, a8⟩ := path_I (A := fun u v => (u = t ∧ v = h) ∨ (u = h ∧ v = t)) (nx := fun u _ => u) (ρ := fun w x y => decide (w = t) && eI t h x y) (p := t) (p' := h) (w := way) (r := fun i => if i = 0 then h else t) (B := 1) (K := wm - 2) (one_mp hth) (one_pls hth) (by omega) (by omega) (Or.inl ⟨rfl, rfl⟩) rfl
    (fun i i0 i1 => by have : i = 0 := by omega
                       subst this; exact Or.inr ⟨rfl, rfl⟩) (fun i i0 i1 => by omega) (fun i j i0 i1 i2 => by
      have x1 : i = 0 := by omega
      have x2 : j = 1 := by omega
      subst x1; subst x2; exact fun z => hth z.symm) w0 (by rw [e2]; exact wl) rfl
    (fun i i0 i1 u z => by
      rcases z with ⟨_, z⟩ | ⟨_, z⟩
      · exact wd 0 i (by omega) (by omega) (by omega) (w0.trans z.symm)
      · exact wd i (wm - 1) (by omega) (by omega) (by omega) (z.trans wl.symm))
    (fun i j i0 i1 i2 => wd i j i0 i1 (by omega)) (fun z => by omega)
  rw [e2] at a5 a7
  simp only [w0, wl] at a4 a5 a6 a7
  -- the rows
  have i0 : ∀ k, 0 ≤ k → k < wm → R 0 k = way (if k = 0 then wm - 1 else k - 1) := by
    intro k k0 k1
    by_cases q : k = 0
    · rw [if_pos q, q, h00, wl]
    · rw [if_neg q]; exact h0 k (by omega) k1
  have row0 : RW (piA (fun u v => (u = t ∧ v = h) ∨ (u = h ∧ v = t)) way (wm - 2)) nx' (L 0) (R 0) := by
    rw [hL0]
    refine ⟨w3, fun k k0 k1 => ?_, fun k l k0 k1 k2 e => ?_⟩
    · by_cases q : k = 0
      · subst q
        rw [nr_lt (by omega : (0 : Int) + 1 < wm), nr_lt (by omega : (0 : Int) + 1 + 1 < wm), h00, h0 (0 + 1) (by omega) (by omega), h0 (0 + 1 + 1) (by omega) (by omega), show (0 : Int) + 1 - 1 = 0 by omega, w0, show (0 : Int) + 1 + 1 - 1 = 1 by omega]
        exact ⟨Or.inl (Or.inl ⟨rfl, rfl⟩), a4⟩
      · rw [h0 k (by omega) k1]
        by_cases q2 : k + 1 = wm
        · rw [nr_eq q2, nr_lt (by omega : (0 : Int) + 1 < wm), h00, h0 (0 + 1) (by omega) (by omega), show (0 : Int) + 1 - 1 = 0 by omega, w0, show k - 1 = wm - 2 by omega]
          refine ⟨Or.inr ⟨wm - 2, by omega, by omega, Or.inl ⟨rfl, by rw [e2]; exact wl.symm⟩⟩, a7⟩
        · rw [nr_lt (by omega : k + 1 < wm), h0 (k + 1) (by omega) (by omega), show k + 1 - 1 = k - 1 + 1 by omega]
          have hv : R 0 (nr wm (k + 1)) = way (k - 1 + 2) := by
            by_cases q3 : k + 1 + 1 = wm
            · rw [nr_eq q3, h00, ← wl]; congr 1; omega
            · rw [nr_lt (by omega), h0 _ (by omega) (by omega)]; congr 1; omega
          rw [hv]
          exact ⟨Or.inr ⟨k - 1, by omega, by omega, Or.inl ⟨rfl, rfl⟩⟩, (a8 (k - 1) (by omega) (by omega)).1⟩
    · rw [i0 k k0 (by omega), i0 l (by omega) k2] at e
      have := inj _ _ (by split <;> omega) (by split <;> omega) (by split <;> omega) (by split <;> omega) e
      revert this; split <;> split <;> omega
  have row1 : RW (piA (fun u v => (u = t ∧ v = h) ∨ (u = h ∧ v = t)) way (wm - 2)) nx' (L 1) (R 1) := by
    rw [hL1]
    refine ⟨w3, fun k k0 k1 => ?_, fun k l k0 k1 k2 e => ?_⟩
    · rw [h1 k k0 k1]
      by_cases q : k + 1 = wm
      · rw [nr_eq q, nr_lt (by omega : (0 : Int) + 1 < wm), h1 0 (by omega) (by omega), h1 (0 + 1) (by omega) (by omega), show wm - 1 - k = 0 by omega, w0, show wm - 1 - 0 = wm - 1 by omega, wl, show wm - 1 - (0 + 1) = wm - 2 by omega]
        exact ⟨Or.inl (Or.inr ⟨rfl, rfl⟩), a5⟩
      · rw [nr_lt (by omega : k + 1 < wm), h1 (k + 1) (by omega) (by omega)]
        by_cases q2 : k + 1 + 1 = wm
        · rw [nr_eq q2, h1 0 (by omega) (by omega), show wm - 1 - k = 1 by omega, show wm - 1 - (k + 1) = 0 by omega, w0, show wm - 1 - 0 = wm - 1 by omega, wl]
          exact ⟨Or.inr ⟨0, by omega, by omega, Or.inr ⟨rfl, w0.symm⟩⟩, a6⟩
        · rw [nr_lt (by omega), h1 _ (by omega) (by omega)]
          have := (a8 (wm - 3 - k) (by omega) (by omega)).2
          rw [show wm - 1 - k = wm - 3 - k + 2 by omega, show wm - 1 - (k + 1) = wm - 3 - k + 1 by omega, show wm - 1 - (k + 1 + 1) = wm - 3 - k by omega]
          refine ⟨Or.inr ⟨wm - 3 - k + 1, by omega, by omega, Or.inr ⟨?_, rfl⟩⟩, this⟩
          rw [show wm - 3 - k + 1 + 1 = wm - 3 - k + 2 by omega]
    · rw [h1 k k0 (by omega), h1 l (by omega) k2] at e
      have := inj _ _ (by omega) (by omega) (by omega) (by omega) e
      omega
  refine ⟨nx', ρ', a1, a2, fun f f0 f1 => ?_, fun u v hA => ?_, ?_⟩
  · by_cases q : f = 0
    · rw [q]; exact row0
    · rw [show f = 1 by omega]; exact row1
  · rcases hA with (⟨x, y⟩ | ⟨x, y⟩) | ⟨i, i0', i1, ⟨x, y⟩ | ⟨x, y⟩⟩
    · exact ⟨0, 0, by omega, by omega, by omega, by omega, by rw [h00, x], by rw [hL0, nr_lt (by omega), h0 _ (by omega) (by omega), show (0 : Int) + 1 - 1 = 0 by omega, w0, y]⟩
    · exact ⟨1, wm - 1, by omega, by omega, by omega, by omega, by rw [h1 _ (by omega) (by omega), show wm - 1 - (wm - 1) = 0 by omega, w0, x], by rw [hL1, nr_eq (by omega), h1 0 (by omega) (by omega), show wm - 1 - 0 = wm - 1 by omega, wl, y]⟩
    · refine ⟨0, i + 1, by omega, by omega, by omega, by omega, by rw [h0 _ (by omega) (by omega), x]; congr 1; omega, ?_⟩
      rw [hL0, y]
      by_cases q : i + 1 + 1 = wm
      · rw [nr_eq q, h00, ← wl]; congr 1; omega
      · rw [nr_lt (by omega), h0 _ (by omega) (by omega)]; congr 1; omega
    · refine ⟨1, wm - 2 - i, by omega, by omega, by omega, by omega, by rw [h1 _ (by omega) (by omega), x]; congr 1; omega, ?_⟩
      rw [hL1, y, nr_lt (by omega), h1 _ (by omega) (by omega)]; congr 1; omega
  · have x01 : ∀ k l, 0 ≤ k → k < wm → 0 ≤ l → l < wm → R 0 k = R 1 l → R 0 (nr wm k) = R 1 (nr wm l) → False := by
      intro k l k0 k1 l0 l1 e1 e2
      have z1 := nr_rng k0 k1
      have z2 := nr_rng l0 l1
      rw [i0 k k0 k1, h1 l l0 l1] at e1
      rw [i0 _ z1.1 z1.2, h1 _ z2.1 z2.2] at e2
      have y1 := inj _ _ (by split <;> omega) (by split <;> omega) (by omega) (by omega) e1
      have y2 := inj _ _ (by split <;> omega) (by split <;> omega) (by omega) (by omega) e2
      unfold nr at y2
      revert y1 y2
      split <;> split <;> (try split) <;> (try split) <;> omega
    intro f k g l f0 f1 k0 k1 g0 g1 l0 l1 e1 e2
    by_cases q : f = 0
    · by_cases q2 : g = 0
      · omega
      · have : g = 1 := by omega
        subst q; subst this
        rw [hL0] at k1 e2; rw [hL1] at l1 e2
        exact absurd e2 (fun z => x01 k l k0 k1 l0 l1 e1 z)
    · have hf : f = 1 := by omega
      by_cases q2 : g = 0
      · subst hf; subst q2
        rw [hL1] at k1 e2; rw [hL0] at l1 e2
        exact absurd e2 (fun z => x01 l k l0 l1 k0 k1 e1.symm z.symm)
      · omega
