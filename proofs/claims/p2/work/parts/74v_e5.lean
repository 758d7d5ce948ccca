/-! embed: one more block is glued to the rows -/
theorem acr_inj {n m : Int} {pt ph al : Int → Int} {e f i x y : Int} (hg : GOK n m pt ph) (h : JJ m pt ph al e i x) (k : JJ m pt ph al f i y) (he : acr pt ph e i = acr pt ph f i) : e = f := by
  have hi := JJ_irr (al := al) hg
  rw [acr_is (hi _ _ _ h) h, acr_is (hi _ _ _ k) k] at he
  rw [he] at h
  exact JJ_one hg h k
theorem drb_nx {n m faces : Int} {pt ph al bl fm face : Int → Int} {b : Int} (hg : GOK n m pt ph) (hD : DRB m faces pt ph al bl fm face b) : ∃ nx ρ, mp (bA m pt ph al bl b) nx ∧ pls (bA m pt ph al bl b) nx ρ ∧ ∀ C i c, CYC m faces pt ph al bl fm face C b i c → ∀ t, 0 ≤ t → t < c → nx (acr pt ph (C t) i) i = acr pt ph (C (nr c t)) i := by
  have hi := JJ_irr (al := al) hg
  rcases hD with ⟨hf, l, ⟨l0, l1, l2, l3⟩, hu⟩ | ⟨hf, nx, ρ, hF⟩
  · have r := hg.1 l l0 l1
    have e : bA m pt ph al bl b = (fun u v => (u = pt l ∧ v = ph l) ∨ (u = ph l ∧ v = pt l)) := by
      funext u v
      apply propext
      constructor
      · rintro ⟨g, j, gb⟩
        have := hu g ⟨j.1, j.2.1, j.2.2.1, gb⟩
        subst this
        rcases j.2.2.2 with ⟨x, y⟩ | ⟨x, y⟩
        · exact Or.inl ⟨x.symm, y.symm⟩
        · exact Or.inr ⟨y.symm, x.symm⟩
      · rintro (⟨x, y⟩ | ⟨x, y⟩)
        · exact ⟨l, ⟨l0, l1, l2, Or.inl ⟨x.symm, y.symm⟩⟩, l3⟩
        · exact ⟨l, ⟨l0, l1, l2, Or.inr ⟨y.symm, x.symm⟩⟩, l3⟩
    rw [e]
    refine ⟨_, _, one_mp r.2.2.2.2, one_pls r.2.2.2.2, fun C i c ⟨c0, c1, c2, _, _⟩ t t0 tc => ?_⟩
    have hc : c = 1 := by
      by_cases q : c = 1
      · exact q
      · obtain ⟨x0, j0, b0⟩ := c1 0 (by omega) (by omega)
        obtain ⟨x1, j1, b1⟩ := c1 1 (by omega) (by omega)
        exact absurd ((hu _ ⟨j0.1, j0.2.1, j0.2.2.1, b0⟩).trans (hu _ ⟨j1.1, j1.2.1, j1.2.2.1, b1⟩).symm) (c2 0 1 (by omega) (by omega) (by omega))
    subst hc
    have : t = 0 := by omega
    subst this
    rw [nr_eq (by omega)]
  · refine ⟨nx, ρ, hF.1, hF.2.1, fun C i c ⟨c0, c1, c2, _, c4⟩ t t0 tc => ?_⟩
    obtain ⟨r, s1, s2⟩ := c4 hf t t0 tc
    obtain ⟨x, j, _⟩ := c1 t t0 tc
    have z := bhp_nx hF s1
    rw [← z.2, acr_is (hi _ _ _ s2) s2]
theorem emi_glue {n m faces : Int} {pt ph al bl fm face rm rot : Int → Int} {b : Int} (hg : GOK n m pt ph) (hB : ∀ e f i j x y, JJ m pt ph al e i x → JJ m pt ph al f j y → bl e = b → bl f = b → rc (lA m pt ph al bl b) i j → i = j) (hD : DRB m faces pt ph al bl fm face b) (h : MID n m faces pt ph al bl fm face rm rot b n) : EMI n m pt ph al bl rm rot (b + 1) := by
  have hi := JJ_irr (al := al) hg
  obtain ⟨rm0, rot0, ⟨hR, nx1, ρ1, p1, p2, p3⟩, hx, _⟩ := h
  obtain ⟨nx2, ρ2, q1, q2, q3⟩ := drb_nx hg hD
  have hX : ∀ i, 0 ≤ i → i < n → EXT m faces pt ph al bl fm face rm0 rot0 rm rot b i := fun i i0 i1 => hx i i0 i1 i1
  -- the rows
  have row : EMR n m pt ph al bl rm rot (b + 1) := by
    intro i i0 i1
    obtain ⟨c, ⟨e1, e2, e3⟩, e4, c0, c1, c2, c3, _⟩ := hX i i0 i1
    obtain ⟨r0, r1, r2, r3⟩ := hR i i0 i1
    have bb : ∀ k, 0 ≤ k → k < rm i → (k < rm0 i ∧ bl (rt rot i k) < b) ∨ (rm0 i ≤ k ∧ bl (rt rot i k) = b) := by
      intro k k0 k1
      by_cases q : k < rm0 i
      · rw [e4 k k0 q]; obtain ⟨y, _, jy⟩ := r1 k k0 q; exact Or.inl ⟨q, jy⟩
      · obtain ⟨y, _, jy⟩ := c1 (k - rm0 i) (by omega) (by omega)
        simp only [show rm0 i + (k - rm0 i) = k by omega] at jy; exact Or.inr ⟨by omega, jy⟩
    refine ⟨⟨by omega, e3⟩, fun k k0 k1 => ?_, fun k l k0 k1 k2 z => ?_, fun e x je be => ?_⟩
    · by_cases q : k < rm0 i
      · rw [e4 k k0 q]; obtain ⟨y, j, jy⟩ := r1 k k0 q; exact ⟨y, j, by omega⟩
      · obtain ⟨y, j, jy⟩ := c1 (k - rm0 i) (by omega) (by omega)
        simp only [show rm0 i + (k - rm0 i) = k by omega] at j jy; exact ⟨y, j, by omega⟩
    · have hk := bb k k0 (by omega)
      have hl := bb l (by omega) k2
      rw [z] at hk
      by_cases q : l < rm0 i
      · rw [e4 k k0 (by omega), e4 l (by omega) q] at z; exact r2 k l k0 k1 q z
      · by_cases q2 : k < rm0 i
        · omega
        · have := c2 (k - rm0 i) (l - rm0 i) (by omega) (by omega) (by omega)
          simp only [show rm0 i + (k - rm0 i) = k by omega, show rm0 i + (l - rm0 i) = l by omega] at this
          exact this z
    · by_cases q : bl e < b
      · obtain ⟨k, k0, k1, k2⟩ := r3 e x je q
        exact ⟨k, k0, by omega, by rw [e4 k k0 k1]; exact k2⟩
      · obtain ⟨t, t0, t1, t2⟩ := c3 e x je (by omega)
        exact ⟨rm0 i + t, by omega, by omega, t2⟩
  -- who comes behind, by the row
  have hpos : ∀ u v, ∃ w, ∀ k, 0 ≤ v → v < n → 0 ≤ k → k < rm v → acr pt ph (rt rot v k) v = u → w = acr pt ph (rt rot v (nr (rm v) k)) v := by
    intro u v
    by_cases q : ∃ k, 0 ≤ v ∧ v < n ∧ 0 ≤ k ∧ k < rm v ∧ acr pt ph (rt rot v k) v = u
    · obtain ⟨k, v0, v1, k0, k1, k2⟩ := q
      refine ⟨acr pt ph (rt rot v (nr (rm v) k)) v, fun l _ _ l0 l1 l2 => ?_⟩
      obtain ⟨x, j, _⟩ := (row v v0 v1).2.1 k k0 k1
      obtain ⟨y, j', _⟩ := (row v v0 v1).2.1 l l0 l1
      have e := acr_inj hg j j' (k2.trans l2.symm)
      have : k = l := by
        rcases Int.lt_trichotomy k l with z | z | z
        · exact absurd e ((row v v0 v1).2.2.1 k l k0 z l1)
        · exact z
        · exact absurd e.symm ((row v v0 v1).2.2.1 l k l0 z k1)
      rw [this]
    · exact ⟨0, fun k v0 v1 k0 k1 k2 => absurd ⟨k, v0, v1, k0, k1, k2⟩ q⟩
  have hN : ∃ nx : Int → Int → Int, ∀ v k, 0 ≤ v → v < n → 0 ≤ k → k < rm v → nx (acr pt ph (rt rot v k) v) v = acr pt ph (rt rot v (nr (rm v) k)) v :=
    ⟨fun u v => Classical.choose (hpos u v), fun v k v0 v1 k0 k1 => Classical.choose_spec (hpos (acr pt ph (rt rot v k) v) v) k v0 v1 k0 k1 rfl⟩
  obtain ⟨nx, hnx⟩ := hN
  have e : (fun u v => lA m pt ph al bl b u v ∨ bA m pt ph al bl b u v) = lA m pt ph al bl (b + 1) := by
    funext u v
    apply propext
    constructor
    · rintro (⟨g, j, z⟩ | ⟨g, j, z⟩)
      · exact ⟨g, j, by omega⟩
      · exact ⟨g, j, by omega⟩
    · rintro ⟨g, j, z⟩
      by_cases q : bl g < b
      · exact Or.inl ⟨g, j, q⟩
      · exact Or.inr ⟨g, j, by omega⟩
  have glue : glu (lA m pt ph al bl b) (bA m pt ph al bl b) nx1 nx2 nx (fun v => acr pt ph (rt rot0 v (rm0 v - 1)) v) (fun v => acr pt ph (rt rot v (rm v - 1)) v) := by
    refine ⟨fun i j ⟨_, u, g, g1, g2⟩ ⟨_, u', g', g1', g2'⟩ hr => ?_, fun v ⟨⟨u, g, g1, g2⟩, u', g', g1', g2'⟩ => ?_, fun u v ⟨g, g1, g2⟩ hn => ?_, fun u v ⟨g, g1, g2⟩ hn => ?_⟩
    · exact hB _ _ _ _ _ _ (JJ_sym _ _ _ g1) (JJ_sym _ _ _ g1') g2 g2' hr
    · have rv := JJ_rng hg g1
      have v0 := rv.2.2.1
      have v1 := rv.2.2.2
      obtain ⟨c, ⟨e1, e2, e3⟩, e4, hc⟩ := hX v v0 v1
      obtain ⟨r0, r1, r2, r3⟩ := hR v v0 v1
      obtain ⟨k, k0, k1, k2⟩ := r3 g u (JJ_sym _ _ _ g1) g2
      obtain ⟨t, t0, t1, t2⟩ := hc.2.2.2.1 g' u' (JJ_sym _ _ _ g1') g2'
      obtain ⟨x, jx, bx⟩ := r1 (rm0 v - 1) (by omega) (by omega)
      obtain ⟨y, jy, by'⟩ := hc.2.1 (c - 1) (by omega) (by omega)
      simp only [show rm0 v + (c - 1) = rm v - 1 by omega] at jy by'
      refine ⟨⟨_, by show JJ m pt ph al _ (acr pt ph (rt rot0 v (rm0 v - 1)) v) v; rw [acr_is (hi _ _ _ jx) jx]; exact JJ_sym _ _ _ jx, bx⟩, ⟨_, by show JJ m pt ph al _ (acr pt ph (rt rot v (rm v - 1)) v) v; rw [acr_is (hi _ _ _ jy) jy]; exact JJ_sym _ _ _ jy, by'⟩, ?_, ?_⟩
      · have a1 := hnx v (rm0 v - 1) v0 v1 (by omega) (by omega)
        rw [e4 _ (by omega) (by omega), nr_lt (by omega), show rm0 v - 1 + 1 = rm0 v by omega] at a1
        have a2 := q3 _ v c hc (c - 1) (by omega) (by omega)
        rw [nr_eq (by omega)] at a2
        simp only [show rm0 v + (c - 1) = rm v - 1 by omega, show rm0 v + 0 = rm0 v by omega] at a2
        exact a1.trans a2.symm
      · have a1 := hnx v (rm v - 1) v0 v1 (by omega) (by omega)
        rw [nr_eq (by omega), e4 0 (by omega) (by omega)] at a1
        have a2 := p3 v v0 v1 (rm0 v - 1) (by omega) (by omega)
        rw [nr_eq (by omega)] at a2
        exact a1.trans a2.symm
    · have rv := JJ_rng hg g1
      have v0 := rv.2.2.1
      have v1 := rv.2.2.2
      obtain ⟨c, ⟨e1, e2, e3⟩, e4, hc⟩ := hX v v0 v1
      obtain ⟨r0, r1, r2, r3⟩ := hR v v0 v1
      obtain ⟨k, k0, k1, k2⟩ := r3 g u (JJ_sym _ _ _ g1) g2
      have ek : acr pt ph (rt rot0 v k) v = u := by rw [k2]; exact acr_is (hi _ _ _ (JJ_sym _ _ _ g1)) (JJ_sym _ _ _ g1)
      have a1 := hnx v k v0 v1 k0 (by have := hc.1; omega)
      have a2 := p3 v v0 v1 k k0 k1
      rw [e4 k k0 k1, ek] at a1
      rw [ek] at a2
      by_cases q : k + 1 < rm0 v
      · rw [nr_lt (by have := hc.1; omega), e4 _ (by omega) q] at a1
        rw [nr_lt q] at a2
        exact a1.trans a2.symm
      · have c0 : c = 0 := Classical.byContradiction (fun z => by
          obtain ⟨y, jy, by'⟩ := hc.2.1 0 (by omega) (by have := hc.1; omega)
          refine hn ⟨⟨⟨u, g, g1, g2⟩, y, _, JJ_sym _ _ _ jy, by'⟩, ?_⟩
          show u = acr pt ph (rt rot0 v (rm0 v - 1)) v
          rw [show rm0 v - 1 = k by omega]; exact ek.symm)
        rw [nr_eq (by omega), e4 0 (by omega) (by omega)] at a1
        rw [nr_eq (by omega)] at a2
        exact a1.trans a2.symm
    · have rv := JJ_rng hg g1
      have v0 := rv.2.2.1
      have v1 := rv.2.2.2
      obtain ⟨c, ⟨e1, e2, e3⟩, e4, hc⟩ := hX v v0 v1
      obtain ⟨r0, r1, r2, r3⟩ := hR v v0 v1
      obtain ⟨t, t0, t1, t2⟩ := hc.2.2.2.1 g u (JJ_sym _ _ _ g1) g2
      have t2' : rt rot v (rm0 v + t) = g := t2
      have ek : acr pt ph (rt rot v (rm0 v + t)) v = u := by rw [t2']; exact acr_is (hi _ _ _ (JJ_sym _ _ _ g1)) (JJ_sym _ _ _ g1)
      have a1 := hnx v (rm0 v + t) v0 v1 (by omega) (by omega)
      have a2 := q3 _ v c hc t t0 t1
      rw [ek] at a1
      simp only [ek] at a2
      by_cases q : t + 1 < c
      · rw [nr_lt (by omega), show rm0 v + t + 1 = rm0 v + (t + 1) by omega] at a1
        rw [nr_lt q] at a2
        exact a1.trans a2.symm
      · have c0 : rm0 v = 0 := Classical.byContradiction (fun z => by
          obtain ⟨y, jy, by'⟩ := r1 0 (by omega) (by omega)
          refine hn ⟨⟨⟨y, _, JJ_sym _ _ _ jy, by'⟩, u, g, g1, g2⟩, ?_⟩
          show u = acr pt ph (rt rot v (rm v - 1)) v
          rw [show rm v - 1 = rm0 v + t by omega]; exact ek.symm)
        rw [nr_eq (by omega)] at a1
        rw [nr_eq (by omega)] at a2
        simp only [show rm0 v + 0 = 0 by omega] at a2
        exact a1.trans a2.symm
  refine ⟨row, nx, glr (lA m pt ph al bl b) (bA m pt ph al bl b) ρ1 ρ2, ?_, ?_, fun i i0 i1 k k0 k1 => hnx i k i0 i1 k0 k1⟩
  · rw [← e]; exact glu_mp p1 q1 glue
  · rw [← e]; exact glu_pls p1 q1 glue p2 q2
theorem emi_step {n m faces : Int} {pt ph al bl fm face rm rot : Int → Int} {b many : Int} (hg : GOK n m pt ph) (hB : BK m pt ph al bl many) (hD : DRB m faces pt ph al bl fm face b) (h : MID n m faces pt ph al bl fm face rm rot b n) : EMI n m pt ph al bl rm rot (b + 1) :=
  emi_glue hg (fun e f i j x y he hf be bf hr => blk_meet JJ_sym JJ_uni hB.1 he hf be bf (rc_mono (fun a c ⟨k, k1, k2⟩ => ⟨k, k1, by omega⟩) hr)) hD h
