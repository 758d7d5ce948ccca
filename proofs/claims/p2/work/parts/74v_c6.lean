/-! wayOf: a shortest way through a piece -/
def E2 (n : Int) (ends : Int → Int) (p : Int) : Prop := ∃ v y, v ≠ y ∧ 0 ≤ v ∧ v < n ∧ 0 ≤ y ∧ y < n ∧ bit (ends p) v ∧ bit (ends p) y
def NNW (n m : Int) (pt ph dE po dn ends : Int → Int) (p : Int) : Prop := ∀ v y, v ≠ y → 0 ≤ v → v < n → 0 ≤ y → y < n → bit (ends p) v → bit (ends p) y → ¬ NOW n m p pt ph dE po dn v y 1
def WPR (n m : Int) (pt ph dE po dn ends : Int → Int) (p : Int) : Prop := E2 n ends p ∧ NNW n m pt ph dE po dn ends p
/-- the state of drawing block b: what is not drawn is of it; what of it is drawn has drawn ends -/
def DSB (m : Int) (pt ph al bl dE dn : Int → Int) (b : Int) : Prop := (∀ e, 0 ≤ e → e < m → dE e = 0 → al e = 1 ∧ bl e = b) ∧ (∀ e, 0 ≤ e → e < m → al e = 1 → bl e = b → dE e ≠ 0 → dn (pt e) ≠ 0 ∧ dn (ph e) ≠ 0) ∧ ∃ f, 0 ≤ f ∧ f < m ∧ al f = 1 ∧ bl f = b ∧ dE f ≠ 0
theorem wpr_of {n m : Int} {pt ph al bl dE po dn ends : Int → Int} {b p : Int} (hg : GOK n m pt ph) (hn : n ≤ 32) (hB : isBl (JJ m pt ph al) bl) (hD : DSB m pt ph al bl dE dn b) (hP : PCS m pt ph dE dn po) (hE : END m pt ph dE dn po ends) (p0 : 0 ≤ p) (p1 : p < m) (hp : po p = p) : WPR n m pt ph dE po dn ends p := by
  obtain ⟨d1, d2, f, f0, f1, f2, f3, f4⟩ := hD
  have hdp : dE p = 0 := Classical.byContradiction (fun z => by have := (hP.1.1 p p0 p1).1 z; omega)
  have up : al p = 1 ∧ bl p = b := d1 p p0 p1 hdp
  have shn_of : ∀ e f u v w, JJ m pt ph al e u v → JJ m pt ph al f u w → dn u = 0 → shn pt ph dn e f := by
    intro e f u v w j k hu
    rcases j.2.2.2 with ⟨a, _⟩ | ⟨_, a⟩ <;> rcases k.2.2.2 with ⟨c, _⟩ | ⟨_, c⟩
    · exact Or.inl ⟨by rw [a]; exact hu, Or.inl (by rw [a, c])⟩
    · exact Or.inl ⟨by rw [a]; exact hu, Or.inr (by rw [a, c])⟩
    · exact Or.inr ⟨by rw [a]; exact hu, Or.inl (by rw [a, c])⟩
    · exact Or.inr ⟨by rw [a]; exact hu, Or.inr (by rw [a, c])⟩
  have bitOf : ∀ g v q, JJ m pt ph al g v q → dE g = 0 → po g = p → dn v ≠ 0 → bit (ends p) v := by
    intro g v q j hg' hpg hv
    have r := JJ_rng hg j
    refine (hE p v p0 p1 r.1 (by omega)).mpr ⟨g, j.1, j.2.1, hg', hpg, ?_, hv⟩
    rcases j.2.2.2 with ⟨a, _⟩ | ⟨_, a⟩
    · exact Or.inl a
    · exact Or.inr a
  refine ⟨?_, ?_⟩
  · obtain ⟨v, y, g, k, q, r, h1, h2, h3, h4, h5, h6, h7, h8, h9, h10, h11⟩ := two_ends (J := JJ m pt ph al) (bl := bl) (pc := po) (D := fun i => dn i ≠ 0) (dE := fun e => dE e ≠ 0 ∧ bl e = b) JJ_sym (JJ_irr hg) hB
      (fun e u v j hd => by
        have := d2 e j.1 j.2.1 j.2.2.1 hd.2 hd.1
        rcases j.2.2.2 with ⟨a, c⟩ | ⟨a, c⟩
        · rw [a, c] at this; exact this
        · rw [a, c] at this; exact ⟨this.2, this.1⟩)
      (fun e f u v w j k he hf hb hu => by
        by_cases q : bl e = b
        · have he' : dE e = 0 := Classical.byContradiction (fun z => he ⟨z, q⟩)
          have hf' : dE f = 0 := Classical.byContradiction (fun z => hf ⟨z, hb ▸ q⟩)
          exact hP.2 e f j.1 j.2.1 k.1 k.2.1 he' hf' (shn_of e f u v w j k (Classical.byContradiction hu))
        · have he' : dE e ≠ 0 := fun z => q (d1 e j.1 j.2.1 z).2
          have hf' : dE f ≠ 0 := fun z => q (hb.trans (d1 f k.1 k.2.1 z).2)
          rw [(hP.1.1 e j.1 j.2.1).1 he', (hP.1.1 f k.1 k.2.1).1 hf'])
      (e1 := p) (f1 := f) ⟨pt p, ph p, p0, p1, up.1, Or.inl ⟨rfl, rfl⟩⟩ ⟨pt f, ph f, f0, f1, f2, Or.inl ⟨rfl, rfl⟩⟩ (by rw [up.2, f3]) (fun z => z.1 hdp) ⟨f4, f3⟩
    have r1 := JJ_rng hg h4
    have r2 := JJ_rng hg h5
    have g8 : dE g = 0 := Classical.byContradiction (fun z => h8 ⟨z, h6.trans up.2⟩)
    have g9 : dE k = 0 := Classical.byContradiction (fun z => h9 ⟨z, h7.trans up.2⟩)
    exact ⟨v, y, h1, r1.1, r1.2.1, r2.1, r2.2.1, bitOf g v q h4 g8 (h10.trans hp) h2, bitOf k y r h5 g9 (h11.trans hp) h3⟩
  · intro v y hvy v0 v1 y0 y1 bv by' ⟨L, l1, l2, l3⟩
    obtain ⟨g, g0, g1, g2, g3, g4, g5⟩ := (hE p v p0 p1 v0 (by omega)).mp bv
    obtain ⟨k, k0, k1, k2, k3, k4, k5⟩ := (hE p y p0 p1 y0 (by omega)).mp by'
    have ex : ∀ g v, 0 ≤ g → g < m → dE g = 0 → (pt g = v ∨ ph g = v) → ∃ z, JJ m pt ph al g v z := by
      intro g v g0 g1 g2 g4
      rcases g4 with z | z
      · exact ⟨ph g, g0, g1, (d1 g g0 g1 g2).1, Or.inl ⟨z, rfl⟩⟩
      · exact ⟨pt g, g0, g1, (d1 g g0 g1 g2).1, Or.inr ⟨rfl, z⟩⟩
    obtain ⟨za, ja⟩ := ex g v g0 g1 g2 g4
    obtain ⟨zb, jb⟩ := ex k y k0 k1 k2 k4
    refine l2 (piece_way (J := JJ m pt ph al) (pc := po) (D := fun i => dn i ≠ 0) (U := fun e => 0 ≤ e ∧ e < m ∧ dE e = 0) JJ_sym JJ_uni (p := p) (fun e f u v w j k he hf hu => ?_) (fun c hc e f he hf hpo ce => ?_) hvy g5 k5 ja jb ⟨g0, g1, g2⟩ ⟨k0, k1, k2⟩ g3 k3 (L := L) (fun i j h jh hu hpo hi hj lj => ?_) l1)
    · exact hP.2 e f j.1 j.2.1 k.1 k.2.1 he.2.2 hf.2.2 (shn_of e f u v w j k (Classical.byContradiction hu))
    · refine hP.1.2 c (fun e f e0 e1 f0 f1 he hf hs ce => ?_) e f he.1 he.2.1 hf.1 hf.2.1 he.2.2 hf.2.2 hpo ce
      rcases hs with ⟨a, w⟩ | ⟨a, w⟩
      · obtain ⟨z, jz⟩ := ex e (pt e) e0 e1 he (Or.inl rfl)
        obtain ⟨z', jz'⟩ := ex f (pt e) f0 f1 hf w
        exact hc e f _ _ _ jz jz' ⟨e0, e1, he⟩ ⟨f0, f1, hf⟩ (fun q => q a) ce
      · obtain ⟨z, jz⟩ := ex e (ph e) e0 e1 he (Or.inr rfl)
        obtain ⟨z', jz'⟩ := ex f (ph e) f0 f1 hf w
        exact hc e f _ _ _ jz jz' ⟨e0, e1, he⟩ ⟨f0, f1, hf⟩ (fun q => q a) ce
    · have r := JJ_rng hg jh
      refine l3 i j r.1 r.2.1 r.2.2.1 r.2.2.2 ⟨h, jh.1, jh.2.1, ⟨hu.2.2, Or.inr hpo⟩, jh.2.2.2⟩ ⟨?_, ?_⟩ lj
      · rcases hj with z | z
        · exact Or.inr (Or.inl z)
        · exact Or.inr (Or.inr (Classical.byContradiction z))
      · rcases hi with z | z
        · exact Or.inr (Or.inl z)
        · exact Or.inr (Or.inr (Classical.byContradiction z))
/-! the loops of wayOf -/
def WA (ends : Int → Int) (p a : Int) : Prop := ∀ i, 0 ≤ i → i < a → ¬ bit (ends p) i
def WE (ends : Int → Int) (p a : Int) : Prop := bit (ends p) a
def wyb (n m : Int) (pt ph al dE po dn ends way : Int → Int) (p a best : Int) : Prop := ∃ y, y ≠ a ∧ bit (ends p) y ∧ WAY n m p pt ph al dE po dn way a y 1 best
def WB (n m : Int) (pt ph al dE po dn ends bw : Int → Int) (p a best b : Int) : Prop := (best = 0 ∧ ∀ y, 0 ≤ y → y < b → y ≠ a → ¬ bit (ends p) y) ∨ wyb n m pt ph al dE po dn ends bw p a best
def WC (n m wm : Int) (pt ph al dE po dn ends way bw : Int → Int) (p a b best j : Int) : Prop := best = wm ∧ b ≠ a ∧ bit (ends p) b ∧ WAY n m p pt ph al dE po dn way a b 1 wm ∧ ∀ k, 0 ≤ k → k < j → bw k = way k
def WD (n m : Int) (pt ph al dE po dn ends way bw : Int → Int) (p a best j : Int) : Prop := wyb n m pt ph al dE po dn ends bw p a best ∧ ∀ k, 0 ≤ k → k < j → way k = bw k
def WOP (n m wm : Int) (pt ph al dE po dn ends way : Int → Int) (p : Int) : Prop := ∃ a, bit (ends p) a ∧ wyb n m pt ph al dE po dn ends way p a wm
theorem way_cp {n m p : Int} {pt ph al dE po dn way bw : Int → Int} {a b nw wm : Int} (h : WAY n m p pt ph al dE po dn way a b nw wm) (hc : ∀ k, 0 ≤ k → k < wm → bw k = way k) : WAY n m p pt ph al dE po dn bw a b nw wm := by
  obtain ⟨h1, h2, h3, h4, h5, h6, h7, h8⟩ := h
  refine ⟨h1, h2, by rw [hc 0 (by omega) (by omega)]; exact h3, by rw [hc (wm - 1) (by omega) (by omega)]; exact h4, fun k k0 k1 => by rw [hc k k0 k1]; exact h5 k k0 k1, fun k l k0 k1 k2 => by rw [hc k k0 (by omega), hc l (by omega) k2]; exact h6 k l k0 k1 k2, fun k k0 k1 => by rw [hc k k0 (by omega), hc (k + 1) (by omega) k1]; exact h7 k k0 k1, fun k k0 k1 => by rw [hc k (by omega) (by omega)]; exact h8 k k0 k1⟩
theorem wpr_a {n m : Int} {pt ph dE po dn ends : Int → Int} {p a : Int} (h : WPR n m pt ph dE po dn ends p) (ha : WA ends p a) : a < n := by
  obtain ⟨⟨v, y, h1, h2, h3, h4, h5, h6, h7⟩, _⟩ := h
  exact Classical.byContradiction (fun z => ha v h2 (by omega) h6)
theorem wb_end {n m : Int} {pt ph al dE po dn ends bw : Int → Int} {p a best b : Int} (h : WPR n m pt ph dE po dn ends p) (hw : WB n m pt ph al dE po dn ends bw p a best b) (hb : n ≤ b) : wyb n m pt ph al dE po dn ends bw p a best := by
  rcases hw with ⟨_, hw⟩ | hw
  · exfalso
    obtain ⟨⟨v, y, h1, h2, h3, h4, h5, h6, h7⟩, _⟩ := h
    by_cases q : v = a
    · exact hw y h4 (by omega) (fun z => h1 (q.trans z.symm)) h7
    · exact hw v h2 (by omega) q h6
  · exact hw
theorem wb_skip {n m : Int} {pt ph al dE po dn ends bw : Int → Int} {p a best b : Int} (hw : WB n m pt ph al dE po dn ends bw p a best b) (hb : b = a ∨ ¬ bit (ends p) b) : WB n m pt ph al dE po dn ends bw p a best (b + 1) := by
  rcases hw with ⟨h0, hw⟩ | hw
  · refine Or.inl ⟨h0, fun y y0 y1 y2 => ?_⟩
    by_cases q : y = b
    · rcases hb with z | z
      · exact absurd (q.trans z) y2
      · rw [q]; exact z
    · exact hw y y0 (by omega) y2
  · exact Or.inr hw
theorem wb_any {n m : Int} {pt ph al dE po dn ends bw : Int → Int} {p a best b c : Int} (hw : WB n m pt ph al dE po dn ends bw p a best b) (hb : best ≠ 0) : WB n m pt ph al dE po dn ends bw p a best c := by
  rcases hw with ⟨h0, hw⟩ | hw
  · exact absurd h0 hb
  · exact Or.inr hw
theorem wy_rng {n m : Int} {pt ph al dE po dn ends bw : Int → Int} {p a best b : Int} (hn : 0 ≤ n) (hw : WB n m pt ph al dE po dn ends bw p a best b) : 0 ≤ best ∧ best ≤ n := by
  rcases hw with ⟨h0, hw⟩ | ⟨y, _, _, hw⟩
  · omega
  · have := hw.1; have := hw.2.1; omega
theorem shp_way {n m wm p : Int} {pt ph al dE po dn ends way : Int → Int} {a b : Int} (h : WPR n m pt ph dE po dn ends p) (hs : SHP n m p wm pt ph al dE po dn way a b 1) (hab : b ≠ a) (a0 : 0 ≤ a) (a1 : a < n) (b0 : 0 ≤ b) (b1 : b < n) (ha : bit (ends p) a) (hb : bit (ends p) b) : WAY n m p pt ph al dE po dn way a b 1 wm := by
  rcases hs with ⟨_, z⟩ | z
  · exact absurd z (h.2 a b (fun e => hab e.symm) a0 a1 b0 b1 ha hb)
  · exact z
def WC0 (n m wm : Int) (pt ph al dE po dn ends way : Int → Int) (p a b best : Int) : Prop := best = wm ∧ b ≠ a ∧ bit (ends p) b ∧ WAY n m p pt ph al dE po dn way a b 1 wm
theorem wb_skip2 {n m : Int} {pt ph al dE po dn ends bw : Int → Int} {p a best b c r : Int} (hw : WB n m pt ph al dE po dn ends bw p a best b) (hc : c = b + 1) (hi : ISE ends p b r) (hr : r = 0) : WB n m pt ph al dE po dn ends bw p a best c := by
  rw [hc]; exact wb_skip hw (Or.inr (fun z => (hi.mpr z) hr))
theorem wb_skip1 {n m : Int} {pt ph al dE po dn ends bw : Int → Int} {p a best b c : Int} (hw : WB n m pt ph al dE po dn ends bw p a best b) (hc : c = b + 1) (hr : b = a) : WB n m pt ph al dE po dn ends bw p a best c := by
  rw [hc]; exact wb_skip hw (Or.inl hr)
theorem wb_wc {n m wm : Int} {pt ph al dE po dn ends way bw : Int → Int} {p a b best j c : Int} (h : WC n m wm pt ph al dE po dn ends way bw p a b best j) (hj : best ≤ j) : WB n m pt ph al dE po dn ends bw p a best c :=
  Or.inr ⟨b, h.2.1, h.2.2.1, by rw [h.1]; exact way_cp h.2.2.2.1 (fun k k0 k1 => h.2.2.2.2 k k0 (by have := h.1; omega))⟩
theorem wc_shp {n m wm only p : Int} {pt ph al dE po dn ends way : Int → Int} {a b best nw r : Int} (h : WPR n m pt ph dE po dn ends p) (he : WE ends p a) (hi : ISE ends p b r) (hs : SHP n m only wm pt ph al dE po dn way a b nw) (hr : r ≠ 0) (ho : only = p) (hw : nw = 1) (hab : b ≠ a) (a0 : 0 ≤ a) (a1 : a < n) (b0 : 0 ≤ b) (b1 : b < n) (hb : best = wm) : WC0 n m wm pt ph al dE po dn ends way p a b best := by
  subst ho; subst hw
  exact ⟨hb, hab, hi.mp hr, shp_way h hs hab a0 a1 b0 b1 he (hi.mp hr)⟩
theorem wc_0 {n m wm : Int} {pt ph al dE po dn ends way bw : Int → Int} {p a b best j : Int} (h : WC0 n m wm pt ph al dE po dn ends way p a b best) {best' : Int} (hb : best' = wm) (hj : j = 0) : WC n m wm pt ph al dE po dn ends way bw p a b best' j :=
  ⟨hb, h.2.1, h.2.2.1, h.2.2.2, fun k k0 k1 => by omega⟩
theorem wc_n0 {n m wm : Int} {pt ph al dE po dn ends way bw : Int → Int} {p a b best c : Int} (hw : WB n m pt ph al dE po dn ends bw p a best b) (h : WC0 n m wm pt ph al dE po dn ends way p a b best) : WB n m pt ph al dE po dn ends bw p a best c :=
  wb_any hw (by have := h.2.2.2.1; have := h.1; omega)
theorem wc_next {n m wm : Int} {pt ph al dE po dn ends way bw bw' : Int → Int} {p a b best j j' : Int} (h : WC n m wm pt ph al dE po dn ends way bw p a b best j) (hj : j' = j + 1) (hv : bw' j = way j) (ho : ∀ k, 0 ≤ k → k ≠ j → bw' k = bw k) : WC n m wm pt ph al dE po dn ends way bw' p a b best j' :=
  ⟨h.1, h.2.1, h.2.2.1, h.2.2.2.1, fun k k0 k1 => by
    by_cases q : k = j
    · rw [q]; exact hv
    · rw [ho k k0 q]; exact h.2.2.2.2 k k0 (by omega)⟩
theorem wd_next {n m : Int} {pt ph al dE po dn ends way way' bw : Int → Int} {p a best j j' : Int} (h : WD n m pt ph al dE po dn ends way bw p a best j) (hj : j' = j + 1) (hv : way' j = bw j) (ho : ∀ k, 0 ≤ k → k ≠ j → way' k = way k) : WD n m pt ph al dE po dn ends way' bw p a best j' :=
  ⟨h.1, fun k k0 k1 => by
    by_cases q : k = j
    · rw [q]; exact hv
    · rw [ho k k0 q]; exact h.2 k k0 (by omega)⟩
theorem wd_end {n m wm : Int} {pt ph al dE po dn ends way bw : Int → Int} {p a best j : Int} (h : WD n m pt ph al dE po dn ends way bw p a best j) (he : WE ends p a) (hj : best ≤ j) (hw : wm = best) : WOP n m wm pt ph al dE po dn ends way p := by
  obtain ⟨⟨y, y1, y2, y3⟩, h2⟩ := h
  rw [hw]
  exact ⟨a, he, y, y1, y2, way_cp y3 (fun k k0 k1 => h2 k k0 (by omega))⟩
