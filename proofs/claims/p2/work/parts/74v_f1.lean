/-! rounds of darts: dart d goes along edge d / 2, from its tail where d is even -/
def dto (pt ph : Int → Int) (d : Int) : Int := if d % 2 = 0 then ph (d / 2) else pt (d / 2)
def dfr (pt ph : Int → Int) (d : Int) : Int := if d % 2 = 0 then pt (d / 2) else ph (d / 2)
def liv (m : Int) (al : Int → Int) (d : Int) : Prop := 0 ≤ d ∧ d < 2 * m ∧ al (d / 2) = 1
def NDT (m : Int) (pt ph rm rot : Int → Int) (d d' : Int) : Prop := 0 ≤ d' ∧ d' < 2 * m ∧ dfr pt ph d' = dto pt ph d ∧ ∃ k, 0 ≤ k ∧ k < rm (dto pt ph d) ∧ rt rot (dto pt ph d) k = d / 2 ∧ rt rot (dto pt ph d) (nr (rm (dto pt ph d)) k) = d' / 2
theorem dart_J {m : Int} {pt ph al : Int → Int} {d : Int} (h : liv m al d) : JJ m pt ph al (d / 2) (dfr pt ph d) (dto pt ph d) := by
  refine ⟨by have := h.1; omega, by have := h.2.1; omega, h.2.2, ?_⟩
  unfold dto dfr
  by_cases q : d % 2 = 0
  · rw [if_pos q, if_pos q]; exact Or.inl ⟨rfl, rfl⟩
  · rw [if_neg q, if_neg q]; exact Or.inr ⟨rfl, rfl⟩
theorem dart_eq {n m : Int} {pt ph al : Int → Int} {d d' : Int} (hg : GOK n m pt ph) (h : liv m al d) (he : d / 2 = d' / 2) (ht : dto pt ph d = dto pt ph d') : d = d' := by
  have r := hg.1 (d / 2) (by have := h.1; omega) (by have := h.2.1; omega)
  unfold dto at ht
  rw [← he] at ht
  by_cases q : d % 2 = 0 <;> by_cases q' : d' % 2 = 0
  · omega
  · rw [if_pos q, if_neg q'] at ht; exact absurd ht.symm r.2.2.2.2
  · rw [if_neg q, if_pos q'] at ht; exact absurd ht r.2.2.2.2
  · omega
theorem nr_inj {L k l : Int} (k0 : 0 ≤ k) (k1 : k < L) (l0 : 0 ≤ l) (l1 : l < L) (h : nr L k = nr L l) : k = l := by
  unfold nr at h
  revert h
  split <;> split <;> omega
/-- the rows list every living edge, and follow a plane map -/
def EML (n m : Int) (pt ph al rm rot : Int → Int) : Prop := EMI n m pt ph al (fun _ => 0) rm rot 1
theorem eml_of {n m : Int} {pt ph al bl rm rot : Int → Int} {many b : Int} (hB : BK m pt ph al bl many) (hb : many ≤ b) (h : EMI n m pt ph al bl rm rot b) : EML n m pt ph al rm rot := by
  have hl : lA m pt ph al (fun _ => 0) 1 = lA m pt ph al bl b := by
    funext u v
    exact propext ⟨fun ⟨e, j, _⟩ => ⟨e, j, by have := ((hB.2.2.1 e j.1 j.2.1).1 j.2.2.1).2; omega⟩, fun ⟨e, j, _⟩ => ⟨e, j, by show (0 : Int) < 1; omega⟩⟩
  unfold EML EMI
  rw [hl]
  refine ⟨fun i i0 i1 => ?_, h.2⟩
  obtain ⟨r1, r2, r3, r4⟩ := h.1 i i0 i1
  exact ⟨r1, fun k k0 k1 => by obtain ⟨x, j, _⟩ := r2 k k0 k1; exact ⟨x, j, by show (0 : Int) < 1; omega⟩, r3, fun e x j _ => r4 e x j (by have := ((hB.2.2.1 e j.1 j.2.1).1 j.2.2.1).2; omega)⟩
theorem emq_row {n m : Int} {pt ph al rm rot : Int → Int} (h : EML n m pt ph al rm rot) {i e x : Int} (i0 : 0 ≤ i) (i1 : i < n) (hj : JJ m pt ph al e i x) : ∃ k, 0 ≤ k ∧ k < rm i ∧ rt rot i k = e :=
  (h.1 i i0 i1).2.2.2 e x hj (by show (0 : Int) < 1; omega)
theorem ndt_liv {n m : Int} {pt ph al bl rm rot : Int → Int} {b d d' : Int} (hg : GOK n m pt ph) (h : EMI n m pt ph al bl rm rot b) (hd : liv m al d) (hn : NDT m pt ph rm rot d d') : liv m al d' := by
  have r := JJ_rng hg (dart_J (pt := pt) (ph := ph) hd)
  obtain ⟨a, c, _, k, k0, k1, _, k3⟩ := hn
  have z := nr_rng k0 k1
  obtain ⟨x, jx, _⟩ := (h.1 _ r.2.2.1 r.2.2.2).2.1 _ z.1 z.2
  rw [k3] at jx
  exact ⟨a, c, jx.2.2.1⟩
theorem ndt_inj {n m : Int} {pt ph al bl rm rot : Int → Int} {b d1 d2 d' : Int} (hg : GOK n m pt ph) (h : EMI n m pt ph al bl rm rot b) (h1 : liv m al d1) (h2 : liv m al d2) (n1 : NDT m pt ph rm rot d1 d') (n2 : NDT m pt ph rm rot d2 d') : d1 = d2 := by
  have r := JJ_rng hg (dart_J (pt := pt) (ph := ph) h1)
  obtain ⟨_, _, a1, k, k0, k1, k2, k3⟩ := n1
  obtain ⟨_, _, a2, l, l0, l1, l2, l3⟩ := n2
  have ht : dto pt ph d1 = dto pt ph d2 := a1.symm.trans a2
  rw [← ht] at l1 l2 l3
  have z1 := nr_rng k0 k1
  have z2 := nr_rng l0 l1
  have hds := (h.1 _ r.2.2.1 r.2.2.2).2.2.1
  have hk : nr (rm (dto pt ph d1)) k = nr (rm (dto pt ph d1)) l := by
    rcases Int.lt_trichotomy (nr (rm (dto pt ph d1)) k) (nr (rm (dto pt ph d1)) l) with q | q | q
    · exact absurd (k3.trans l3.symm) (hds _ _ z1.1 q z2.2)
    · exact q
    · exact absurd (l3.trans k3.symm) (hds _ _ z2.1 q z1.2)
  have := nr_inj k0 k1 l0 l1 hk
  rw [this] at k2
  exact dart_eq hg h1 (k2.symm.trans l2) ht
/-- the next dart of a row is the map's -/
theorem ndt_nx {n m : Int} {pt ph al bl rm rot : Int → Int} {b d d' : Int} {nx : Int → Int → Int} (hg : GOK n m pt ph) (hr : EMR n m pt ph al bl rm rot b) (hx : ∀ i, 0 ≤ i → i < n → ∀ k, 0 ≤ k → k < rm i → nx (acr pt ph (rt rot i k) i) i = acr pt ph (rt rot i (nr (rm i) k)) i) (hd : liv m al d) (hl : liv m al d') (hn : NDT m pt ph rm rot d d') : dto pt ph d' = nx (dfr pt ph d) (dto pt ph d) := by
  have hi := JJ_irr (al := al) hg
  have j := dart_J (pt := pt) (ph := ph) hd
  have j' := dart_J (pt := pt) (ph := ph) hl
  have r := JJ_rng hg j
  obtain ⟨_, _, a1, k, k0, k1, k2, k3⟩ := hn
  have := hx _ r.2.2.1 r.2.2.2 k k0 k1
  rw [k2, k3, acr_is (fun z => hi _ _ _ j z.symm) (JJ_sym _ _ _ j)] at this
  rw [a1] at j'
  rw [acr_is (hi _ _ _ j') j'] at this
  exact this.symm
def DFR (pt ph : Int → Int) (d r : Int) : Prop := r = dfr pt ph d
def DTO (pt ph : Int → Int) (d r : Int) : Prop := r = dto pt ph d
def LIV (m : Int) (al : Int → Int) (d : Int) : Prop := liv m al d
def ND1 (pt ph rot : Int → Int) (d i e k : Int) : Prop := (i = dto pt ph d ∧ e = d / 2) ∧ ∀ j, 0 ≤ j → j < k → rt rot i j ≠ e
theorem nd1_lt {n m : Int} {pt ph al rm rot : Int → Int} {d i e k : Int} (hg : GOK n m pt ph) (hE : EML n m pt ph al rm rot) (hd : LIV m al d) (h : ND1 pt ph rot d i e k) : 0 ≤ i ∧ i < n ∧ k < rm i ∧ rm i ≤ 80 := by
  have hI := hE
  have j := dart_J (pt := pt) (ph := ph) hd
  have r := JJ_rng hg j
  obtain ⟨⟨h1, h2⟩, h3⟩ := h
  rw [← h1, ← h2] at j
  rw [← h1] at r
  obtain ⟨l, l0, l1, l2⟩ := emq_row hE r.2.2.1 r.2.2.2 (JJ_sym _ _ _ j)
  refine ⟨r.2.2.1, r.2.2.2, ?_, (hI.1 i r.2.2.1 r.2.2.2).1.2⟩
  exact Classical.byContradiction (fun z => h3 l l0 (by omega) l2)
theorem nd1_next {pt ph rot : Int → Int} {d i e k k' : Int} (h : ND1 pt ph rot d i e k) (hk : k' = k + 1) (hn : rt rot i k ≠ e) : ND1 pt ph rot d i e k' := by
  refine ⟨h.1, fun j j0 j1 => ?_⟩
  by_cases q : j = k
  · rw [q]; exact hn
  · exact h.2 j j0 (by omega)
theorem ndt_of {n m : Int} {pt ph al rm rot : Int → Int} {d i e k f d' : Int} (hg : GOK n m pt ph) (hE : EML n m pt ph al rm rot) (hd : LIV m al d) (h : ND1 pt ph rot d i e k) (k0 : 0 ≤ k) (he : rt rot i k = e) (hf : rt rot i (nr (rm i) k) = f) (hc : (pt f = i ∧ d' = 2 * f) ∨ (pt f ≠ i ∧ d' = 2 * f + 1)) : NDT m pt ph rm rot d d' := by
  have hl := nd1_lt hg hE hd h
  have hI := hE
  obtain ⟨⟨h1, h2⟩, h3⟩ := h
  have z := nr_rng k0 hl.2.2.1
  obtain ⟨x, jx, _⟩ := (hI.1 i hl.1 hl.2.1).2.1 _ z.1 z.2
  rw [hf] at jx
  have f0 := jx.1
  have f1 := jx.2.1
  have hd2 : d' / 2 = f := by rcases hc with ⟨_, w⟩ | ⟨_, w⟩ <;> omega
  refine ⟨by rcases hc with ⟨_, w⟩ | ⟨_, w⟩ <;> omega, by rcases hc with ⟨_, w⟩ | ⟨_, w⟩ <;> omega, ?_, k, k0, by rw [← h1]; exact hl.2.2.1, by rw [← h1, he, h2], by rw [← h1, hf, hd2]⟩
  rw [← h1]
  unfold dfr
  rw [hd2]
  rcases hc with ⟨w1, w⟩ | ⟨w1, w⟩
  · rw [if_pos (by omega)]; exact w1
  · rw [if_neg (by omega)]
    rcases jx.2.2.2 with ⟨y, _⟩ | ⟨_, y⟩
    · exact absurd y w1
    · exact y
