/-! turnRound: the edges of a block around a node -/
theorem acr_is {m : Int} {pt ph al : Int → Int} {e i x : Int} (hi : i ≠ x) (h : JJ m pt ph al e i x) : acr pt ph e i = x := by
  unfold acr
  rcases h.2.2.2 with ⟨a, b⟩ | ⟨a, b⟩
  · rw [if_pos a]; exact b
  · rw [if_neg (fun z => hi (z.symm.trans a))]; exact a
theorem JJ_same {m : Int} {pt ph al : Int → Int} {e i x y : Int} (hi : jirr (JJ m pt ph al)) (h : JJ m pt ph al e i x) (k : JJ m pt ph al e i y) : x = y := by
  rcases JJ_uni e i x i y h k with ⟨_, a⟩ | ⟨a, _⟩
  · exact a.symm
  · exact absurd a (hi e i x h)
def DRB (m faces : Int) (pt ph al bl fm face : Int → Int) (b : Int) : Prop := (faces = 0 ∧ ∃ e, inB m al bl b e ∧ ∀ f, inB m al bl b f → f = e) ∨ (2 ≤ faces ∧ ∃ nx ρ, FIX (bA m pt ph al bl b) nx ρ faces fm (rwf face))
def STP (m faces : Int) (pt ph al fm face : Int → Int) (i e e' : Int) : Prop := ∃ r, BHP faces fm face (acr pt ph e i) i r ∧ JJ m pt ph al e' i r
theorem bhp_nx {A : pa_T} {nx : Int → Int → Int} {ρ : Int → Int → Int → Bool} {faces : Int} {fm face : Int → Int} {u i r : Int} (hF : FIX A nx ρ faces fm (rwf face)) (h : BHP faces fm face u i r) : A u i ∧ r = nx u i := by
  obtain ⟨f, k, f0, f1, k0, k1, h1, h2, h3⟩ := h
  have := (hF.2.2.1 f f0 f1).2.1 k k0 k1
  rw [h1, h2, h3] at this
  exact ⟨this.1, this.2.symm⟩
theorem stp_inj {n m faces : Int} {pt ph al bl fm face : Int → Int} {b i e1 e2 e' x1 x2 : Int} {nx : Int → Int → Int} {ρ : Int → Int → Int → Bool} (hg : GOK n m pt ph) (hF : FIX (bA m pt ph al bl b) nx ρ faces fm (rwf face)) (h1 : JJ m pt ph al e1 i x1) (h2 : JJ m pt ph al e2 i x2) (s1 : STP m faces pt ph al fm face i e1 e') (s2 : STP m faces pt ph al fm face i e2 e') : e1 = e2 := by
  obtain ⟨r1, a1, j1⟩ := s1
  obtain ⟨r2, a2, j2⟩ := s2
  have hi := JJ_irr (al := al) hg
  have hr := JJ_same hi j1 j2
  rw [acr_is (hi _ _ _ h1) h1] at a1
  rw [acr_is (hi _ _ _ h2) h2] at a2
  have b1 := bhp_nx hF a1
  have b2 := bhp_nx hF a2
  have := hF.1.2.2.1 x1 x2 i b1.1 b2.1 (b1.2.symm.trans (hr.trans b2.2))
  rw [this] at h1
  exact JJ_one hg h1 h2
theorem bhe_of {n m faces : Int} {pt ph al bl fm face : Int → Int} {b i e x : Int} {nx : Int → Int → Int} {ρ : Int → Int → Int → Bool} (hg : GOK n m pt ph) (hF : FIX (bA m pt ph al bl b) nx ρ faces fm (rwf face)) (h : JJ m pt ph al e i x) (hb : bl e = b) : BHE faces fm face (acr pt ph e i) i := by
  rw [acr_is (JJ_irr (al := al) hg _ _ _ h) h]
  obtain ⟨f, k, f0, f1, k0, k1, e1, e2⟩ := hF.2.2.2.1 x i ⟨e, JJ_sym _ _ _ h, hb⟩
  exact ⟨f, k, f0, f1, k0, k1, e1, e2⟩
theorem stp_blk {n m faces : Int} {pt ph al bl fm face : Int → Int} {b i e e' x r : Int} {nx : Int → Int → Int} {ρ : Int → Int → Int → Bool} (hg : GOK n m pt ph) (hF : FIX (bA m pt ph al bl b) nx ρ faces fm (rwf face)) (h : JJ m pt ph al e i x) (hr : BHP faces fm face (acr pt ph e i) i r) : ∃ e', JJ m pt ph al e' i r ∧ bl e' = b := by
  rw [acr_is (JJ_irr (al := al) hg _ _ _ h) h] at hr
  have b1 := bhp_nx hF hr
  have := hF.1.2.1 x i b1.1
  rw [← b1.2] at this
  exact this
/-- around a node: closed under steps is all -/
theorem stp_all {n m faces : Int} {pt ph al bl fm face : Int → Int} {b i e x : Int} {nx : Int → Int → Int} {ρ : Int → Int → Int → Bool} (hg : GOK n m pt ph) (hF : FIX (bA m pt ph al bl b) nx ρ faces fm (rwf face)) (P : Int → Prop) (hP : ∀ e1 x1, JJ m pt ph al e1 i x1 → bl e1 = b → P e1 → ∃ e2, STP m faces pt ph al fm face i e1 e2 ∧ P e2) (h : JJ m pt ph al e i x) (hb : bl e = b) (he : P e) {f y : Int} (hf : JJ m pt ph al f i y) (bf : bl f = b) : P f := by
  have hi := JJ_irr (al := al) hg
  have := hF.1.2.2.2 i (fun u => ∃ e1, JJ m pt ph al e1 i u ∧ bl e1 = b ∧ P e1) (fun u hu ⟨e1, j1, b1, p1⟩ => ?_) x y ⟨e, JJ_sym _ _ _ h, hb⟩ ⟨f, JJ_sym _ _ _ hf, bf⟩ ⟨e, h, hb, he⟩
  · obtain ⟨e1, j1, b1, p1⟩ := this
    rw [← JJ_one hg j1 hf]; exact p1
  · obtain ⟨e2, ⟨r, s1, s2⟩, p2⟩ := hP e1 u j1 b1 p1
    rw [acr_is (hi _ _ _ j1) j1] at s1
    have z := bhp_nx hF s1
    have bb := hF.1.2.1 u i z.1
    obtain ⟨e3, j3, b3⟩ := bb
    rw [← z.2] at j3 ⊢
    have := JJ_one hg j3 s2
    rw [this] at b3
    exact ⟨e2, s2, b3, p2⟩
theorem fmb_of {n m faces : Int} {pt ph al bl fm face : Int → Int} {b : Int} (hg : GOK n m pt ph) (hn : n ≤ 25) (h : DRB m faces pt ph al bl fm face b) : FMB faces fm := by
  intro f f0 f1
  rcases h with ⟨z, _⟩ | ⟨_, nx, ρ, hF⟩
  · omega
  · have e : bA m pt ph al bl b = dA m pt ph al bl (fun _ => 1) b := by
      funext u v
      apply propext
      exact ⟨fun ⟨e, j, z⟩ => ⟨e, j, z, fun w => absurd w (by decide : (1 : Int) ≠ 0)⟩, fun ⟨e, j, z, _⟩ => ⟨e, j, z⟩⟩
    rw [e] at hF
    have := row_len hg (hF.2.2.1 f f0 f1)
    omega
