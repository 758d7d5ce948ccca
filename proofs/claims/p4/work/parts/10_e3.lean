/-! turnRound: its loop -/
def rt (rot : Int → Int) (i k : Int) : Int := rot (80 * i + k)
def lA (m : Int) (pt ph al bl : Int → Int) (b u v : Int) : Prop := ∃ e, JJ m pt ph al e u v ∧ bl e < b
def EMR (n m : Int) (pt ph al bl rm rot : Int → Int) (b : Int) : Prop := ∀ i, 0 ≤ i → i < n → (0 ≤ rm i ∧ rm i ≤ 80) ∧ (∀ k, 0 ≤ k → k < rm i → ∃ x, JJ m pt ph al (rt rot i k) i x ∧ bl (rt rot i k) < b) ∧ (∀ k l, 0 ≤ k → k < l → l < rm i → rt rot i k ≠ rt rot i l) ∧ ∀ e x, JJ m pt ph al e i x → bl e < b → ∃ k, 0 ≤ k ∧ k < rm i ∧ rt rot i k = e
def EMI (n m : Int) (pt ph al bl rm rot : Int → Int) (b : Int) : Prop := EMR n m pt ph al bl rm rot b ∧ ∃ nx ρ, mp (lA m pt ph al bl b) nx ∧ pls (lA m pt ph al bl b) nx ρ ∧ ∀ i, 0 ≤ i → i < n → ∀ k, 0 ≤ k → k < rm i → nx (acr pt ph (rt rot i k) i) i = acr pt ph (rt rot i (nr (rm i) k)) i
def CYC (m faces : Int) (pt ph al bl fm face C : Int → Int) (b i c : Int) : Prop := 0 ≤ c ∧ (∀ t, 0 ≤ t → t < c → ∃ x, JJ m pt ph al (C t) i x ∧ bl (C t) = b) ∧ (∀ s t, 0 ≤ s → s < t → t < c → C s ≠ C t) ∧ (∀ e x, JJ m pt ph al e i x → bl e = b → ∃ t, 0 ≤ t ∧ t < c ∧ C t = e) ∧ (2 ≤ faces → ∀ t, 0 ≤ t → t < c → STP m faces pt ph al fm face i (C t) (C (nr c t)))
def EXT (m faces : Int) (pt ph al bl fm face rm0 rot0 rm rot : Int → Int) (b i : Int) : Prop := ∃ c, (rm i = rm0 i + c ∧ 0 ≤ rm0 i ∧ rm i ≤ 80) ∧ (∀ k, 0 ≤ k → k < rm0 i → rt rot i k = rt rot0 i k) ∧ CYC m faces pt ph al bl fm face (fun t => rt rot i (rm0 i + t)) b i c
def KEP (rm0 rot0 rm rot : Int → Int) (i : Int) : Prop := (rm i = rm0 i ∧ rm i ≤ 80) ∧ ∀ k, 0 ≤ k → k < rm0 i → rt rot i k = rt rot0 i k
def MID (n m faces : Int) (pt ph al bl fm face rm rot : Int → Int) (b i0 : Int) : Prop := ∃ rm0 rot0, EMI n m pt ph al bl rm0 rot0 b ∧ (∀ i, 0 ≤ i → i < i0 → i < n → EXT m faces pt ph al bl fm face rm0 rot0 rm rot b i) ∧ ∀ i, 0 ≤ i → i0 ≤ i → i < n → KEP rm0 rot0 rm rot i
def MIE (n m faces : Int) (pt ph al bl fm face rm rot : Int → Int) (b i : Int) : Prop := MID n m faces pt ph al bl fm face rm rot b (i + 1)
/-- c edges of the block are written, a way of steps from fi -/
def trc (m faces : Int) (pt ph al bl fm face C : Int → Int) (b i fi c : Int) : Prop := 0 ≤ c ∧ (∀ t, 0 ≤ t → t < c → ∃ x, JJ m pt ph al (C t) i x ∧ bl (C t) = b) ∧ (∀ s t, 0 ≤ s → s < t → t < c → C s ≠ C t) ∧ (∀ t, 0 ≤ t → t + 1 < c → 2 ≤ faces ∧ STP m faces pt ph al fm face i (C t) (C (t + 1))) ∧ (0 < c → C 0 = fi)
def TRI (n m faces : Int) (pt ph al bl fm face rm rot : Int → Int) (b i fi e : Int) : Prop := ∃ rm0 rot0 c, EMI n m pt ph al bl rm0 rot0 b ∧ (∀ j, 0 ≤ j → j < i → j < n → EXT m faces pt ph al bl fm face rm0 rot0 rm rot b j) ∧ (∀ j, 0 ≤ j → i < j → j < n → KEP rm0 rot0 rm rot j) ∧ rm i = rm0 i + c ∧ (∀ k, 0 ≤ k → k < rm0 i → rt rot i k = rt rot0 i k) ∧ trc m faces pt ph al bl fm face (fun t => rt rot i (rm0 i + t)) b i fi c ∧ (c = 0 → e = fi) ∧ (0 < c → 2 ≤ faces ∧ STP m faces pt ph al fm face i (rt rot i (rm0 i + (c - 1))) e) ∧ (∀ t, 0 ≤ t → t < c → rt rot i (rm0 i + t) ≠ e) ∧ ∃ x, JJ m pt ph al e i x ∧ bl e = b
def TRA (n m faces : Int) (pt ph al bl fm face rm rot : Int → Int) (b i fi e : Int) : Prop := ∃ rm0 rot0 c, EMI n m pt ph al bl rm0 rot0 b ∧ (∀ j, 0 ≤ j → j < i → j < n → EXT m faces pt ph al bl fm face rm0 rot0 rm rot b j) ∧ (∀ j, 0 ≤ j → i < j → j < n → KEP rm0 rot0 rm rot j) ∧ rm i = rm0 i + c ∧ (∀ k, 0 ≤ k → k < rm0 i → rt rot i k = rt rot0 i k) ∧ trc m faces pt ph al bl fm face (fun t => rt rot i (rm0 i + t)) b i fi c ∧ 0 < c ∧ rt rot i (rm0 i + (c - 1)) = e ∧ rm i ≤ 80
/-- the row has room -/
theorem tri_len {n m faces : Int} {pt ph al bl fm face rm rot : Int → Int} {b i fi e : Int} (h : TRI n m faces pt ph al bl fm face rm rot b i fi e) (i0 : 0 ≤ i) (i1 : i < n) : 0 ≤ rm i ∧ rm i + 1 ≤ m := by
  obtain ⟨rm0, rot0, c, ⟨hE, _⟩, _, _, h1, h2, ⟨c0, t1, t2, _⟩, _, _, h3, x, jx, bx⟩ := h
  obtain ⟨r0, r1, r2, _⟩ := hE i i0 i1
  refine ⟨by omega, ?_⟩
  -- the places 0 .. rm i: the old ones, the new ones, e
  have val : ∀ k : Int, 0 ≤ k → k ≤ rm i → ∃ g, 0 ≤ g ∧ g < m ∧ ((k < rm i ∧ rt rot i k = g) ∨ (k = rm i ∧ g = e)) := by
    intro k k0 k1
    by_cases q : k = rm i
    · exact ⟨e, jx.1, jx.2.1, Or.inr ⟨q, rfl⟩⟩
    · refine ⟨rt rot i k, ?_, ?_, Or.inl ⟨by omega, rfl⟩⟩
      · by_cases q2 : k < rm0 i
        · rw [h2 k k0 q2]; obtain ⟨y, jy, _⟩ := r1 k k0 q2; exact jy.1
        · obtain ⟨y, jy, _⟩ := t1 (k - rm0 i) (by omega) (by omega)
          simp only [show rm0 i + (k - rm0 i) = k by omega] at jy; exact jy.1
      · by_cases q2 : k < rm0 i
        · rw [h2 k k0 q2]; obtain ⟨y, jy, _⟩ := r1 k k0 q2; exact jy.2.1
        · obtain ⟨y, jy, _⟩ := t1 (k - rm0 i) (by omega) (by omega)
          simp only [show rm0 i + (k - rm0 i) = k by omega] at jy; exact jy.2.1
  have bb : ∀ k, 0 ≤ k → k < rm i → (k < rm0 i ∧ bl (rt rot i k) < b) ∨ (rm0 i ≤ k ∧ bl (rt rot i k) = b) := by
    intro k k0 k1
    by_cases q2 : k < rm0 i
    · rw [h2 k k0 q2]; obtain ⟨y, _, jy⟩ := r1 k k0 q2; exact Or.inl ⟨q2, jy⟩
    · obtain ⟨y, _, jy⟩ := t1 (k - rm0 i) (by omega) (by omega)
      simp only [show rm0 i + (k - rm0 i) = k by omega] at jy; exact Or.inr ⟨by omega, jy⟩
  have ds : ∀ k l, 0 ≤ k → k < l → l < rm i → rt rot i k ≠ rt rot i l := by
    intro k l k0 k1 k2 z
    have hk := bb k k0 (by omega)
    have hl := bb l (by omega) k2
    rw [z] at hk
    by_cases q : l < rm0 i
    · rw [h2 k k0 (by omega), h2 l (by omega) q] at z; exact r2 k l k0 k1 q z
    · by_cases q2 : k < rm0 i
      · omega
      · have := t2 (k - rm0 i) (l - rm0 i) (by omega) (by omega) (by omega)
        simp only [show rm0 i + (k - rm0 i) = k by omega, show rm0 i + (l - rm0 i) = l by omega] at this
        exact this z
  have de : ∀ k, 0 ≤ k → k < rm i → rt rot i k ≠ e := by
    intro k k0 k1 z
    have hk := bb k k0 k1
    rw [z] at hk
    by_cases q2 : k < rm0 i
    · omega
    · have := h3 (k - rm0 i) (by omega) (by omega)
      rw [show rm0 i + (k - rm0 i) = k by omega] at this
      exact this z
  have := php (rm i + 1).toNat m.toNat (fun t => (if (t : Int) < rm i then rt rot i t else e).toNat) (fun t ht => ?_) (fun s t hs ht z => ?_)
  · have := jx.1; have := jx.2.1; omega
  · show (if (t : Int) < rm i then rt rot i t else e).toNat < m.toNat
    obtain ⟨g, g0, g1, g2⟩ := val t (by omega) (by omega)
    split
    · rcases g2 with ⟨_, z⟩ | ⟨z, _⟩ <;> omega
    · have := jx.1; have := jx.2.1; omega
  · have z' : (if (s : Int) < rm i then rt rot i s else e).toNat = (if (t : Int) < rm i then rt rot i t else e).toNat := z
    have pos : ∀ k : Int, 0 ≤ k → k < rm i → 0 ≤ rt rot i k := fun k k0 k1 => by
      obtain ⟨g, g0, g1, g2⟩ := val k k0 (by omega)
      rcases g2 with ⟨_, z⟩ | ⟨z, _⟩ <;> omega
    have ep := jx.1
    by_cases qs : (s : Int) < rm i <;> by_cases qt : (t : Int) < rm i
    · rw [if_pos qs, if_pos qt] at z'
      have p1 := pos s (by omega) qs
      have p2 := pos t (by omega) qt
      rcases Nat.lt_trichotomy s t with q | q | q
      · exact absurd (by omega) (ds s t (by omega) (by omega) qt)
      · exact q
      · exact absurd (by omega) (ds t s (by omega) (by omega) qs)
    · rw [if_pos qs, if_neg qt] at z'
      have p1 := pos s (by omega) qs
      exact absurd (by omega) (de s (by omega) qs)
    · rw [if_neg qs, if_pos qt] at z'
      have p1 := pos t (by omega) qt
      exact absurd (by omega) (de t (by omega) qt)
    · omega
theorem tr_rows {rot rot' rm rm' : Int → Int} {i p v q w : Int} (hs : st1 rot rot' p v) (hp : p = 80 * i + rm i) (hr : st1 rm rm' q w) (hq : q = i) (i0 : 0 ≤ i) (r0 : 0 ≤ rm i) (r1 : rm i < 80) : rt rot' i (rm i) = v ∧ (∀ k, 0 ≤ k → k ≠ rm i → rt rot' i k = rt rot i k) ∧ (∀ j k, 0 ≤ j → j ≠ i → 0 ≤ k → k < 80 → rt rot' j k = rt rot j k) ∧ rm' i = w ∧ ∀ j, 0 ≤ j → j ≠ i → rm' j = rm j := by
  subst hp; subst hq
  exact ⟨(hs _ (by omega)).1 rfl, fun k k0 k1 => (hs _ (by omega)).2 (by omega), fun j k j0 j1 k0 k1 => (hs _ (by omega)).2 (by omega), (hr _ i0).1 rfl, fun j j0 j1 => (hr j j0).2 j1⟩
theorem ext_keep {m faces : Int} {pt ph al bl fm face rm0 rot0 rm rot rm' rot' : Int → Int} {b j : Int} (h : EXT m faces pt ph al bl fm face rm0 rot0 rm rot b j) (h1 : rm' j = rm j) (h2 : ∀ k, 0 ≤ k → k < 80 → rt rot' j k = rt rot j k) : EXT m faces pt ph al bl fm face rm0 rot0 rm' rot' b j := by
  obtain ⟨c, ⟨e1, e2, e3⟩, e4, c0, c1, c2, c3, c4⟩ := h
  have g : ∀ t, 0 ≤ t → t < c → rt rot' j (rm0 j + t) = rt rot j (rm0 j + t) := fun t t0 t1 => h2 _ (by omega) (by omega)
  refine ⟨c, ⟨by omega, e2, by omega⟩, fun k k0 k1 => by rw [h2 k k0 (by omega)]; exact e4 k k0 k1, c0, fun t t0 t1 => ?_, fun s t s0 s1 t1 => ?_, fun e x je be => ?_, fun hf t t0 t1 => ?_⟩
  · simp only [g t t0 t1]; exact c1 t t0 t1
  · simp only [g s s0 (by omega), g t (by omega) t1]; exact c2 s t s0 s1 t1
  · obtain ⟨t, t0, t1, t2⟩ := c3 e x je be
    exact ⟨t, t0, t1, by simp only [g t t0 t1]; exact t2⟩
  · have z := nr_rng t0 t1
    simp only [g t t0 t1, g _ z.1 z.2]; exact c4 hf t t0 t1
theorem kep_keep {rm0 rot0 rm rot rm' rot' : Int → Int} {j : Int} (h : KEP rm0 rot0 rm rot j) (h1 : rm' j = rm j) (h2 : ∀ k, 0 ≤ k → k < 80 → rt rot' j k = rt rot j k) : KEP rm0 rot0 rm' rot' j :=
  ⟨⟨by rw [h1]; exact h.1.1, by rw [h1]; exact h.1.2⟩, fun k k0 k1 => by rw [h2 k k0 (by have := h.1.1; have := h.1.2; omega)]; exact h.2 k k0 k1⟩
theorem tri_app {n m faces : Int} {pt ph al bl fm face rm rot rm' rot' : Int → Int} {b i fi e p v q w : Int} (h : TRI n m faces pt ph al bl fm face rm rot b i fi e) (i0 : 0 ≤ i) (i1 : i < n) (hm : m ≤ 80) (hs : st1 rot rot' p v) (hp : p = 80 * i + rm i) (hv : v = e) (hr : st1 rm rm' q w) (hq : q = i) (hw : w = rm i + 1) : TRA n m faces pt ph al bl fm face rm' rot' b i fi e := by
  have hl := tri_len h i0 i1
  obtain ⟨rm0, rot0, c, hE, hx, hk, h1, h2, ⟨c0, t1, t2, t3, t4⟩, h3, h4, h5, h6⟩ := h
  have r0 := (hE.1 i i0 i1).1.1
  obtain ⟨z1, z2, z3, z4, z5⟩ := tr_rows hs hp hr hq i0 hl.1 (by omega)
  have g : ∀ t, 0 ≤ t → t < c → rt rot' i (rm0 i + t) = rt rot i (rm0 i + t) := fun t t0 t1 => z2 _ (by omega) (by omega)
  have gc : rt rot' i (rm0 i + c) = e := by rw [← h1, z1, hv]
  refine ⟨rm0, rot0, c + 1, hE, fun j j0 j1 j2 => ext_keep (hx j j0 j1 j2) (z5 j j0 (by omega)) (fun k k0 k1 => z3 j k j0 (by omega) k0 k1), fun j j0 j1 j2 => kep_keep (hk j j0 j1 j2) (z5 j j0 (by omega)) (fun k k0 k1 => z3 j k j0 (by omega) k0 k1), by omega, fun k k0 k1 => by rw [z2 k k0 (by omega)]; exact h2 k k0 k1, ⟨by omega, fun t t0 tc => ?_, fun s t s0 s1 tc => ?_, fun t t0 tc => ?_, fun _ => ?_⟩, by omega, by rw [show c + 1 - 1 = c by omega]; exact gc, by omega⟩
  · by_cases y : t = c
    · subst y; simp only [gc]; exact h6
    · simp only [g t t0 (by omega)]; exact t1 t t0 (by omega)
  · by_cases y : t = c
    · subst y; simp only [gc, g s s0 s1]; exact h5 s s0 s1
    · simp only [g t (by omega) (by omega), g s s0 (by omega)]; exact t2 s t s0 s1 (by omega)
  · by_cases y : t + 1 = c
    · simp only [g t t0 (by omega), show rm0 i + (t + 1) = rm0 i + c by omega, gc]
      have := h4 (by omega)
      rw [show c - 1 = t by omega] at this; exact this
    · simp only [g t t0 (by omega), g (t + 1) (by omega) (by omega)]; exact t3 t t0 (by omega)
  · by_cases y : c = 0
    · subst y; simp only [gc]; exact h3 rfl
    · simp only [g 0 (by omega) (by omega)]; exact t4 (by omega)
theorem tra_next {n m faces : Int} {pt ph al bl fm face rm rot : Int → Int} {b i fi e e' x : Int} (hg : GOK n m pt ph) (hD : DRB m faces pt ph al bl fm face b) (h : TRA n m faces pt ph al bl fm face rm rot b i fi e) (hf : 0 < faces) (hst : STP m faces pt ph al fm face i e e') (hj : JJ m pt ph al e' i x) (hb : bl e' = b) (hne : e' ≠ fi) : TRI n m faces pt ph al bl fm face rm rot b i fi e' := by
  obtain ⟨rm0, rot0, c, hE, hx, hk, h1, h2, ⟨c0, t1, t2, t3, t4⟩, h3, h4, h5⟩ := h
  rcases hD with ⟨z, _⟩ | ⟨hf2, nx, ρ, hF⟩
  · omega
  · refine ⟨rm0, rot0, c, hE, hx, hk, h1, h2, ⟨c0, t1, t2, t3, t4⟩, fun z => by omega, fun _ => ⟨hf2, by rw [h4]; exact hst⟩, fun t t0 tc z => ?_, x, hj, hb⟩
    by_cases y : t = 0
    · subst y; exact hne (z.symm.trans (t4 h3))
    · have s1 := (t3 (t - 1) (by omega) (by omega)).2
      simp only [show t - 1 + 1 = t by omega, z] at s1
      obtain ⟨y1, j1, _⟩ := t1 (t - 1) (by omega) (by omega)
      obtain ⟨y2, j2, _⟩ := t1 (c - 1) (by omega) (by omega)
      have j2' : JJ m pt ph al e i y2 := by rw [← h4]; exact j2
      have := stp_inj hg hF j1 j2' s1 hst
      rw [← h4] at this
      exact t2 (t - 1) (c - 1) (by omega) (by omega) (by omega) this
theorem tra_end {n m faces : Int} {pt ph al bl fm face rm rot : Int → Int} {b i fi e : Int} (hg : GOK n m pt ph) (i0 : 0 ≤ i) (i1 : i < n) (hD : DRB m faces pt ph al bl fm face b) (h : TRA n m faces pt ph al bl fm face rm rot b i fi e) (hst : faces = 0 ∨ STP m faces pt ph al fm face i e fi) : MIE n m faces pt ph al bl fm face rm rot b i := by
  obtain ⟨rm0, rot0, c, hE, hx, hk, h1, h2, ⟨c0, t1, t2, t3, t4⟩, h3, h4, h5⟩ := h
  have r0 := (hE.1 i i0 i1).1.1
  refine ⟨rm0, rot0, hE, fun j j0 j1 j2 => ?_, fun j j0 j1 j2 => hk j j0 (by omega) j2⟩
  by_cases q : j = i
  · subst q
    refine ⟨c, ⟨h1, r0, h5⟩, h2, c0, t1, t2, fun f x jf bf => ?_, fun hf t t0 tc => ?_⟩
    · rcases hD with ⟨z, g, hg1, hg2⟩ | ⟨hf2, nx, ρ, hF⟩
      · obtain ⟨y, jy, by'⟩ := t1 0 (by omega) (by omega)
        exact ⟨0, by omega, by omega, (hg2 _ ⟨jy.1, jy.2.1, jy.2.2.1, by'⟩).trans (hg2 f ⟨jf.1, jf.2.1, jf.2.2.1, bf⟩).symm⟩
      · obtain ⟨y, jy, by'⟩ := t1 0 (by omega) (by omega)
        refine stp_all hg hF (fun g => ∃ t, 0 ≤ t ∧ t < c ∧ rt rot j (rm0 j + t) = g) (fun g1 x1 k1 k2 ⟨t, t0, tc, t5⟩ => ?_) jy by' ⟨0, by omega, by omega, rfl⟩ jf bf
        by_cases y2 : t + 1 = c
        · rcases hst with w | w
          · omega
          · refine ⟨fi, ?_, 0, by omega, by omega, t4 h3⟩
            rw [← t5, show t = c - 1 by omega, h4]; exact w
        · exact ⟨rt rot j (rm0 j + (t + 1)), by rw [← t5]; exact (t3 t t0 (by omega)).2, t + 1, by omega, by omega, rfl⟩
    · by_cases y2 : t + 1 = c
      · rw [nr_eq y2]
        rcases hst with w | w
        · omega
        · have e0 : rt rot j (rm0 j + 0) = fi := t4 h3
          simp only [e0, show t = c - 1 by omega, h4]; exact w
      · rw [nr_lt (by omega)]; exact (t3 t t0 (by omega)).2
  · exact hx j j0 (by omega) j2
