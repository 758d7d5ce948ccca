/-! goRound: rounds of darts -/
def wrd (rd : Int → Int) (N d : Int) : Prop := ∃ p, 0 ≤ p ∧ p < N ∧ rd p = d
/-- the first B darts are whole rounds -/
def HOL (m : Int) (pt ph rm rot rd : Int → Int) (B : Int) : Prop := ∀ p, 0 ≤ p → p < B → ∃ q, 0 ≤ q ∧ q < B ∧ NDT m pt ph rm rot (rd q) (rd p)
def nxb (rb : Int → Int) (R N r : Int) : Int := if r + 1 = R then N else rb (r + 1)
def RND (m : Int) (pt ph rm rot rb rd : Int → Int) (R N : Int) : Prop := 0 ≤ R ∧ R ≤ N ∧ (R = 0 → N = 0) ∧ (0 < R → rb 0 = 0) ∧ ∀ r, 0 ≤ r → r < R → 0 ≤ rb r ∧ rb r < nxb rb R N r ∧ nxb rb R N r ≤ N ∧ ∀ p, rb r ≤ p → p < nxb rb R N r → NDT m pt ph rm rot (rd p) (rd (if p + 1 = nxb rb R N r then rb r else p + 1))
def DST (m : Int) (al rd : Int → Int) (N : Int) : Prop := 0 ≤ N ∧ (∀ p, 0 ≤ p → p < N → liv m al (rd p)) ∧ ∀ p q, 0 ≤ p → p < q → q < N → rd p ≠ rd q
theorem dst_len {m : Int} {al rd : Int → Int} {N x : Int} (h : DST m al rd N) (hx : liv m al x) (hn : ¬ wrd rd N x) : N + 1 ≤ 2 * m := by
  obtain ⟨n0, h1, h2⟩ := h
  have := php (N + 1).toNat (2 * m).toNat (fun t => (if (t : Int) < N then rd t else x).toNat) (fun t ht => ?_) (fun s t hs ht z => ?_)
  · have := hx.1; have := hx.2.1; omega
  · show (if (t : Int) < N then rd t else x).toNat < (2 * m).toNat
    split
    · next q => have := h1 t (by omega) q; have := this.1; have := (h1 t (by omega) q).2.1; omega
    · have := hx.1; have := hx.2.1; omega
  · have z' : (if (s : Int) < N then rd s else x).toNat = (if (t : Int) < N then rd t else x).toNat := z
    have x0 := hx.1
    by_cases qs : (s : Int) < N <;> by_cases qt : (t : Int) < N
    · rw [if_pos qs, if_pos qt] at z'
      have p1 := (h1 s (by omega) qs).1
      have p2 := (h1 t (by omega) qt).1
      rcases Nat.lt_trichotomy s t with q | q | q
      · exact absurd (by omega) (h2 s t (by omega) (by omega) qt)
      · exact q
      · exact absurd (by omega) (h2 t s (by omega) (by omega) qs)
    · rw [if_pos qs, if_neg qt] at z'
      have p1 := (h1 s (by omega) qs).1
      exact absurd ⟨s, by omega, qs, by omega⟩ hn
    · rw [if_neg qs, if_pos qt] at z'
      have p1 := (h1 t (by omega) qt).1
      exact absurd ⟨t, by omega, qt, by omega⟩ hn
    · omega
theorem dst_le {m : Int} {al rd : Int → Int} {N : Int} (hm : 0 ≤ m) (h : DST m al rd N) : N ≤ 2 * m := by
  by_cases q : N = 0
  · omega
  · have n0 := h.1
    have := dst_len (N := N - 1) (x := rd (N - 1)) ⟨by omega, fun p p0 p1 => h.2.1 p p0 (by omega), fun p q p0 p1 p2 => h.2.2 p q p0 p1 (by omega)⟩ (h.2.1 _ (by omega) (by omega)) (fun ⟨p, p0, p1, p2⟩ => h.2.2 p (N - 1) p0 p1 (by omega) p2)
    omega
/-- a way of steps that begins at place B with dart d; x comes next -/
def CHN (m : Int) (pt ph rm rot rd : Int → Int) (B N d : Int) : Prop := B ≤ N ∧ (∀ p, B ≤ p → p + 1 < N → NDT m pt ph rm rot (rd p) (rd (p + 1))) ∧ (B < N → rd B = d)
/-- the next one is new, or the first -/
theorem chn_new {n m : Int} {pt ph al bl rm rot rd : Int → Int} {b B N d x' : Int} (hg : GOK n m pt ph) (hE : EMI n m pt ph al bl rm rot b) (hD : DST m al rd N) (hH : HOL m pt ph rm rot rd B) (hC : CHN m pt ph rm rot rd B N d) (B0 : 0 ≤ B) (hN : B < N) (hs : NDT m pt ph rm rot (rd (N - 1)) x') (hne : x' ≠ d) : ¬ wrd rd N x' := by
  rintro ⟨p, p0, p1, p2⟩
  have l1 := hD.2.1 (N - 1) (by omega) (by omega)
  have key : ∀ q, 0 ≤ q → q < N → q ≠ N - 1 → NDT m pt ph rm rot (rd q) x' → False := by
    intro q q0 q1 q2 hq
    have := ndt_inj hg hE (hD.2.1 q q0 q1) l1 hq hs
    exact hD.2.2 q (N - 1) q0 (by omega) (by omega) this
  by_cases c : p < B
  · obtain ⟨q, q0, q1, q2⟩ := hH p p0 c
    rw [p2] at q2
    exact key q q0 (by omega) (by omega) q2
  · by_cases c2 : p = B
    · rw [c2] at p2; exact hne (p2.symm.trans (hC.2.2 hN))
    · have := hC.2.1 (p - 1) (by omega) (by omega)
      rw [show p - 1 + 1 = p by omega, p2] at this
      exact key (p - 1) (by omega) (by omega) (by omega) this
/-- in its round -/
def inR (rb rd : Int → Int) (R N r y : Int) : Prop := 0 ≤ r ∧ r < R ∧ ∃ p, rb r ≤ p ∧ p < nxb rb R N r ∧ rd p = y
def RO0 (ro : Int → Int) (d : Int) : Prop := ∀ j, 0 ≤ j → j < d → ro j = -1
def GOI (m R : Int) (pt ph al rm rot ro rb rd : Int → Int) (N d : Int) : Prop := RND m pt ph rm rot rb rd R N ∧ DST m al rd N ∧ HOL m pt ph rm rot rd N ∧ (∀ y, liv m al y → (ro y = -1 ∧ ¬ wrd rd N y) ∨ inR rb rd R N (ro y) y) ∧ ∀ y, liv m al y → y < d → wrd rd N y
def GIC (m R : Int) (pt ph al rm rot ro rb rd : Int → Int) (N d : Int) : Prop := RND m pt ph rm rot rb rd R (rb R) ∧ HOL m pt ph rm rot rd (rb R) ∧ DST m al rd N ∧ CHN m pt ph rm rot rd (rb R) N d ∧ liv m al d ∧ (∀ y, liv m al y → (ro y = -1 ∧ ¬ wrd rd N y) ∨ inR rb rd R (rb R) (ro y) y ∨ (ro y = R ∧ ∃ p, rb R ≤ p ∧ p < N ∧ rd p = y)) ∧ ∀ y, liv m al y → y < d → wrd rd (rb R) y
def GII (m R : Int) (pt ph al rm rot ro rb rd : Int → Int) (N d x : Int) : Prop := GIC m R pt ph al rm rot ro rb rd N d ∧ (rb R < N → NDT m pt ph rm rot (rd (N - 1)) x) ∧ (N = rb R → x = d) ∧ ¬ wrd rd N x ∧ liv m al x
def GIA (m R : Int) (pt ph al rm rot ro rb rd : Int → Int) (N d x : Int) : Prop := GIC m R pt ph al rm rot ro rb rd N d ∧ rb R < N ∧ rd (N - 1) = x
def GIT (m R : Int) (pt ph al rm rot ro rb rd : Int → Int) (N d x : Int) : Prop := GIC m R pt ph al rm rot ro rb rd N d ∧ rb R < N ∧ NDT m pt ph rm rot (rd (N - 1)) x
def GRD (m R : Int) (pt ph al rm rot ro rb rd : Int → Int) : Prop := RND m pt ph rm rot rb rd R (rb R) ∧ DST m al rd (rb R) ∧ ∀ y, liv m al y → inR rb rd R (rb R) (ro y) y
theorem wrd_le {rd : Int → Int} {N N' d : Int} (h : wrd rd N d) (hn : N ≤ N') : wrd rd N' d := by
  obtain ⟨p, p0, p1, p2⟩ := h; exact ⟨p, p0, by omega, p2⟩
theorem inR_wrd {m : Int} {pt ph rm rot rb rd : Int → Int} {R N r y : Int} (h : RND m pt ph rm rot rb rd R N) (k : inR rb rd R N r y) : wrd rd N y := by
  obtain ⟨r0, r1, p, p0, p1, p2⟩ := k
  have z := h.2.2.2.2 r r0 r1
  exact ⟨p, by omega, by omega, p2⟩
theorem goi_start {m R d N e : Int} {pt ph al rm rot ro rb rd : Int → Int} (h : RO0 ro d) (hd : 2 * m ≤ d) (hR : R = 0) (hN : N = 0) (he : e = 0) : GOI m R pt ph al rm rot ro rb rd N e := by
  subst hR; subst hN; subst he
  refine ⟨⟨by omega, by omega, fun _ => rfl, fun q => by omega, fun r r0 r1 => by omega⟩, ⟨by omega, fun p p0 p1 => by omega, fun p q p0 p1 p2 => by omega⟩, fun p p0 p1 => by omega, fun y hy => Or.inl ⟨h y hy.1 (by have := hy.2.1; omega), fun ⟨p, p0, p1, _⟩ => by omega⟩, fun y hy q => by have := hy.1; omega⟩
theorem goi_skip {m R N d d' : Int} {pt ph al rm rot ro rb rd : Int → Int} (h : GOI m R pt ph al rm rot ro rb rd N d) (hd : d' = d + 1) (hs : al (d / 2) ≠ 1 ∨ 0 ≤ ro d) : GOI m R pt ph al rm rot ro rb rd N d' := by
  obtain ⟨h1, h2, h3, h4, h5⟩ := h
  refine ⟨h1, h2, h3, h4, fun y hy q => ?_⟩
  by_cases e : y = d
  · rcases hs with hs | hs
    · rw [e] at hy; exact absurd hy.2.2 hs
    · rcases h4 y hy with ⟨z, _⟩ | z
      · rw [e] at z; omega
      · exact inR_wrd h1 z
  · exact h5 y hy (by omega)
theorem nxb_st {rb rb' : Int → Int} {R N p v r : Int} (hs : st1 rb rb' p v) (hp : p = R) (hv : v = N) (r0 : 0 ≤ r) (r1 : r < R) : rb' r = rb r ∧ nxb rb' R N r = nxb rb R N r ∧ nxb rb' R (rb' R) r = nxb rb R N r := by
  have a := (hs r r0).2 (by omega)
  have b := (hs R (by omega)).1 (by omega)
  refine ⟨a, ?_, ?_⟩
  · unfold nxb
    split
    · rfl
    · exact (hs (r + 1) (by omega)).2 (by omega)
  · unfold nxb
    split
    · rw [b, hv]
    · exact (hs (r + 1) (by omega)).2 (by omega)
theorem rnd_st {m : Int} {pt ph rm rot rb rb' rd : Int → Int} {R N p v : Int} (h : RND m pt ph rm rot rb rd R N) (hs : st1 rb rb' p v) (hp : p = R) (hv : v = N) : RND m pt ph rm rot rb' rd R (rb' R) ∧ rb' R = N := by
  have b : rb' R = N := ((hs R h.1).1 hp.symm).trans hv
  refine ⟨?_, b⟩
  obtain ⟨h1, h2, h3, h4, h5⟩ := h
  refine ⟨h1, by omega, fun q => by rw [b]; exact h3 q, fun q => ?_, fun r r0 r1 => ?_⟩
  · rw [(nxb_st hs hp hv (r := 0) (by omega) q).1]; exact h4 q
  · obtain ⟨e1, _, e2⟩ := nxb_st hs hp hv r0 r1
    rw [e1, e2, b]
    exact h5 r r0 r1
theorem inR_st {rb rb' rd : Int → Int} {R N p v r y : Int} (hs : st1 rb rb' p v) (hp : p = R) (hv : v = N) (h : inR rb rd R N r y) : inR rb' rd R (rb' R) r y := by
  obtain ⟨r0, r1, h2⟩ := h
  obtain ⟨e1, _, e2⟩ := nxb_st hs hp hv r0 r1
  unfold inR
  rw [e1, e2]
  exact ⟨r0, r1, h2⟩
theorem gii_start {m R N d p v x : Int} {pt ph al rm rot ro rb rb' rd : Int → Int} (h : GOI m R pt ph al rm rot ro rb rd N d) (d0 : 0 ≤ d) (d1 : d < 2 * m) (ha : al (d / 2) = 1) (hr : ro d < 0) (hs : st1 rb rb' p v) (hp : p = R) (hv : v = N) (hx : x = d) : GII m R pt ph al rm rot ro rb' rd N d x := by
  obtain ⟨h1, h2, h3, h4, h5⟩ := h
  obtain ⟨k1, k2⟩ := rnd_st h1 hs hp hv
  have hl : liv m al d := ⟨d0, d1, ha⟩
  have hw : ¬ wrd rd N d := by
    rcases h4 d hl with z | z
    · exact z.2
    · have := z.1; omega
  refine ⟨⟨k1, by rw [k2]; exact h3, h2, ⟨by omega, fun p a b => by omega, fun a => by omega⟩, hl, fun y hy => ?_, fun y hy q => by rw [k2]; exact h5 y hy q⟩, fun a => by omega, fun _ => hx, by rw [hx]; exact hw, by rw [hx]; exact hl⟩
  rcases h4 y hy with z | z
  · exact Or.inl z
  · exact Or.inr (Or.inl (inR_st hs hp hv z))
theorem gii_len {m R N d x : Int} {pt ph al rm rot ro rb rd : Int → Int} (h : GII m R pt ph al rm rot ro rb rd N d x) : 0 ≤ N ∧ N + 1 ≤ 2 * m ∧ 0 ≤ x ∧ x < 2 * m ∧ LIV m al x := ⟨h.1.2.2.1.1, dst_len h.1.2.2.1 h.2.2.2.2 h.2.2.2.1, h.2.2.2.2.1, h.2.2.2.2.2.1, h.2.2.2.2⟩
theorem goi_len {m R N d : Int} {pt ph al rm rot ro rb rd : Int → Int} (hm : 0 ≤ m) (h : GOI m R pt ph al rm rot ro rb rd N d) : 0 ≤ R ∧ R ≤ N ∧ N ≤ 2 * m := ⟨h.1.1, h.1.2.1, dst_le hm h.2.1⟩
/-- darts that stand ahead of the new one -/
theorem rnd_app {m : Int} {pt ph rm rot rb rd rd' : Int → Int} {R B : Int} (h : RND m pt ph rm rot rb rd R B) (hs : ∀ j, 0 ≤ j → j < B → rd' j = rd j) : RND m pt ph rm rot rb rd' R B := by
  obtain ⟨h1, h2, h3, h4, h5⟩ := h
  refine ⟨h1, h2, h3, h4, fun r r0 r1 => ?_⟩
  obtain ⟨a, b, c, e⟩ := h5 r r0 r1
  refine ⟨a, b, c, fun p p0 p1 => ?_⟩
  have := e p p0 p1
  rw [hs p (by omega) (by omega), hs (if p + 1 = nxb rb R B r then rb r else p + 1) (by split <;> omega) (by split <;> omega)]
  exact this
theorem gii_app {m R N d x N' p v q w : Int} {pt ph al rm rot ro ro' rb rd rd' : Int → Int} (h : GII m R pt ph al rm rot ro rb rd N d x) (ho : st1 ro ro' p v) (hp : p = x) (hv : v = R) (hd : st1 rd rd' q w) (hq : q = N) (hw : w = x) (hn : N' = N + 1) : GIA m R pt ph al rm rot ro' rb rd' N' d x := by
  obtain ⟨⟨h1, h2, h3, h4, h5, h6, h7⟩, g2, g3, g4, g5⟩ := h
  have n0 := h3.1
  have hB := h4.1
  have hold : ∀ j, 0 ≤ j → j < N → rd' j = rd j := fun j a b => (hd j a).2 (by omega)
  have hnew : rd' N = x := ((hd N n0).1 hq.symm).trans hw
  have hwr : ∀ M y, M ≤ N → (wrd rd' M y ↔ wrd rd M y) := fun M y hM => ⟨fun ⟨p, a, b, c⟩ => ⟨p, a, b, by rw [← hold p a (by omega)]; exact c⟩, fun ⟨p, a, b, c⟩ => ⟨p, a, b, by rw [hold p a (by omega)]; exact c⟩⟩
  have hD : DST m al rd' N' := by
    refine ⟨by omega, fun p a b => ?_, fun p q a b c => ?_⟩
    · by_cases e : p = N
      · rw [e, hnew]; exact g5
      · rw [hold p a (by omega)]; exact h3.2.1 p a (by omega)
    · rw [hold p a (by omega)]
      by_cases e : q = N
      · rw [e, hnew]; exact fun z => g4 ⟨p, a, by omega, z⟩
      · rw [hold q (by omega) (by omega)]; exact h3.2.2 p q a b (by omega)
  have b0 : 0 ≤ rb R := by have := h1.2.1; have := h1.1; omega
  refine ⟨⟨rnd_app h1 (fun j a b => hold j a (by omega)), fun p a b => ?_, hD, ⟨by omega, fun p a b => ?_, fun a => ?_⟩, h5, fun y hy => ?_, fun y hy z => (hwr _ _ hB).2 (h7 y hy z)⟩, by omega, by rw [show N' - 1 = N by omega]; exact hnew⟩
  · obtain ⟨q, q0, q1, q2⟩ := h2 p a b
    exact ⟨q, q0, q1, by rw [hold q q0 (by omega), hold p a (by omega)]; exact q2⟩
  · rw [hold p (by omega) (by omega)]
    by_cases e : p + 1 = N
    · rw [e, hnew]
      have := g2 (by omega)
      rw [show N - 1 = p by omega] at this
      exact this
    · rw [hold (p + 1) (by omega) (by omega)]; exact h4.2.1 p a (by omega)
  · by_cases e : rb R = N
    · rw [e, hnew]; exact g3 e.symm
    · rw [hold _ b0 (by omega)]; exact h4.2.2 (by omega)
  · by_cases e : y = x
    · refine Or.inr (Or.inr ⟨((ho y hy.1).1 (by omega)).trans hv, N, hB, by omega, by rw [e]; exact hnew⟩)
    · have er : ro' y = ro y := (ho y hy.1).2 (by omega)
      rw [er]
      rcases h6 y hy with ⟨a, b⟩ | ⟨r0, r1, p, p0, p1, p2⟩ | ⟨a, p, p0, p1, p2⟩
      · refine Or.inl ⟨a, fun ⟨p, c0, c1, c2⟩ => ?_⟩
        by_cases e2 : p = N
        · rw [e2, hnew] at c2; exact e c2.symm
        · exact b ⟨p, c0, by omega, by rw [← hold p c0 (by omega)]; exact c2⟩
      · have z := h1.2.2.2.2 _ r0 r1
        exact Or.inr (Or.inl ⟨r0, r1, p, p0, p1, by rw [hold p (by omega) (by omega)]; exact p2⟩)
      · exact Or.inr (Or.inr ⟨a, p, p0, by omega, by rw [hold p (by omega) (by omega)]; exact p2⟩)
theorem git_of {m R N d x x' : Int} {pt ph al rm rot ro rb rd : Int → Int} (h : GIA m R pt ph al rm rot ro rb rd N d x) (hs : NDT m pt ph rm rot x x') : GIT m R pt ph al rm rot ro rb rd N d x' := ⟨h.1, h.2.1, by rw [h.2.2]; exact hs⟩
theorem git_next {n m R N d x : Int} {pt ph al rm rot ro rb rd : Int → Int} (hg : GOK n m pt ph) (hE : EML n m pt ph al rm rot) (h : GIT m R pt ph al rm rot ro rb rd N d x) (hne : x ≠ d) : GII m R pt ph al rm rot ro rb rd N d x := by
  obtain ⟨hc, hb, hs⟩ := h
  have b0 : 0 ≤ rb R := by have := hc.1.2.1; have := hc.1.1; omega
  exact ⟨hc, fun _ => hs, fun z => by omega, chn_new hg hE hc.2.2.1 hc.2.1 hc.2.2.2.1 b0 hb hs hne, ndt_liv hg hE (hc.2.2.1.2.1 (N - 1) (by omega) (by omega)) hs⟩
theorem git_end {m R N d x R' d' : Int} {pt ph al rm rot ro rb rd : Int → Int} (h : GIT m R pt ph al rm rot ro rb rd N d x) (he : x = d) (hR : R' = R + 1) (hd : d' = d + 1) : GOI m R' pt ph al rm rot ro rb rd N d' := by
  subst he; subst hR; subst hd
  obtain ⟨⟨h1, h2, h3, h4, h5, h6, h7⟩, hb, hs⟩ := h
  have b0 : 0 ≤ rb R := by have := h1.2.1; have := h1.1; omega
  have hfst := h4.2.2 hb
  have hn1 : ∀ r, 0 ≤ r → r < R → nxb rb (R + 1) N r = nxb rb R (rb R) r := fun r r0 r1 => by
    unfold nxb
    rw [if_neg (by omega)]
    split
    · next q => rw [q]
    · rfl
  have hn2 : nxb rb (R + 1) N R = N := by unfold nxb; rw [if_pos rfl]
  have hR0 : R = 0 → rb R = 0 := h1.2.2.1
  refine ⟨⟨by have := h1.1; omega, by have := h1.2.1; omega, fun z => by have := h1.1; omega, fun _ => ?_, fun r r0 r1 => ?_⟩, h3, fun p a b => ?_, fun y hy => ?_, fun y hy z => ?_⟩
  · by_cases q : R = 0
    · rw [q] at hR0; exact hR0 rfl
    · exact h1.2.2.2.1 (by have := h1.1; omega)
  · by_cases q : r = R
    · rw [q, hn2]
      refine ⟨b0, hb, by omega, fun p p0 p1 => ?_⟩
      by_cases e : p + 1 = N
      · rw [if_pos e, hfst, show p = N - 1 by omega]; exact hs
      · rw [if_neg e]; exact h4.2.1 p p0 (by omega)
    · have z := h1.2.2.2.2 r r0 (by omega)
      rw [hn1 r r0 (by omega)]
      exact ⟨z.1, z.2.1, by omega, z.2.2.2⟩
  · by_cases q : p < rb R
    · obtain ⟨t, t0, t1, t2⟩ := h2 p a q
      exact ⟨t, t0, by omega, t2⟩
    · by_cases e : p = rb R
      · exact ⟨N - 1, by omega, by omega, by rw [e, hfst]; exact hs⟩
      · have := h4.2.1 (p - 1) (by omega) (by omega)
        rw [show p - 1 + 1 = p by omega] at this
        exact ⟨p - 1, by omega, by omega, this⟩
  · rcases h6 y hy with z | ⟨r0, r1, p, p0, p1, p2⟩ | ⟨a, p, p0, p1, p2⟩
    · exact Or.inl z
    · exact Or.inr ⟨r0, by omega, p, p0, by rw [hn1 _ r0 r1]; exact p1, p2⟩
    · refine Or.inr ⟨by rw [a]; exact h1.1, by omega, p, by rw [a]; exact p0, by rw [a, hn2]; exact p1, p2⟩
  · by_cases e : y = x
    · exact ⟨rb R, b0, hb, by rw [e]; exact hfst⟩
    · exact wrd_le (h7 y hy (by omega)) (by omega)
theorem goi_end {m R N d p v : Int} {pt ph al rm rot ro rb rb' rd : Int → Int} (h : GOI m R pt ph al rm rot ro rb rd N d) (hd : 2 * m ≤ d) (hs : st1 rb rb' p v) (hp : p = R) (hv : v = N) : GRD m R pt ph al rm rot ro rb' rd := by
  obtain ⟨h1, h2, h3, h4, h5⟩ := h
  obtain ⟨k1, k2⟩ := rnd_st h1 hs hp hv
  refine ⟨k1, by rw [k2]; exact h2, fun y hy => ?_⟩
  rcases h4 y hy with z | z
  · exact absurd (h5 y hy (by have := hy.2.1; omega)) z.2
  · exact inR_st hs hp hv z
