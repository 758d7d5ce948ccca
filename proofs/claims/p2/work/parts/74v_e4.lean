/-! turnRound: begin and end -/
def TF (m : Int) (pt ph al bl : Int → Int) (i b fi e : Int) : Prop := ((fi = -1 ∧ ∀ f, e < f → (∀ x, ¬ (JJ m pt ph al f i x ∧ bl f = b))) ∨ ∃ x, JJ m pt ph al fi i x ∧ bl fi = b) ∧ e < m
def TRN (n m faces : Int) (pt ph al bl fm face rm rot : Int → Int) (b i fi e : Int) : Prop := (e = fi → MIE n m faces pt ph al bl fm face rm rot b i) ∧ (e ≠ fi → TRI n m faces pt ph al bl fm face rm rot b i fi e)
theorem tf_skip {m : Int} {pt ph al bl : Int → Int} {i b fi e e' r : Int} (h : TF m pt ph al bl i b fi e) (he : e' = e - 1) (hn : (ATP pt ph al e i r ∧ r = 0) ∨ bl e ≠ b) : TF m pt ph al bl i b fi e' := by
  refine ⟨?_, by have := h.2; omega⟩
  rcases h.1 with ⟨a, z⟩ | z
  · refine Or.inl ⟨a, fun f hf x w => ?_⟩
    by_cases q : f = e
    · subst q
      rcases hn with ⟨y1, y2⟩ | y
      · exact (y1.mpr ⟨w.1.2.2.1, by rcases w.1.2.2.2 with ⟨u, _⟩ | ⟨_, u⟩; exact Or.inl u; exact Or.inr u⟩) y2
      · exact y w.2
    · exact z f (by omega) x w
  · exact Or.inr z
theorem tf_take {m : Int} {pt ph al bl : Int → Int} {i b fi e e' r : Int} (h : TF m pt ph al bl i b fi e) (he : e' = e - 1) (e0 : 0 ≤ e) (hn : ATP pt ph al e i r) (hr : r ≠ 0) (hb : bl e = b) : TF m pt ph al bl i b e e' := by
  refine ⟨Or.inr ⟨_, acr_J e0 h.2 (hn.mp hr), hb⟩, by have := h.2; omega⟩
theorem mie_none {n m faces : Int} {pt ph al bl fm face rm rot : Int → Int} {b i fi e : Int} (h : MID n m faces pt ph al bl fm face rm rot b i) (i0 : 0 ≤ i) (i1 : i < n) (hf : TF m pt ph al bl i b fi e) (hfi : fi < 0) (he : e < 0) : MIE n m faces pt ph al bl fm face rm rot b i := by
  obtain ⟨rm0, rot0, hE, hx, hk⟩ := h
  have r0 := (hE.1 i i0 i1).1.1
  refine ⟨rm0, rot0, hE, fun j j0 j1 j2 => ?_, fun j j0 j1 j2 => hk j j0 (by omega) j2⟩
  by_cases q : j = i
  · subst q
    have k := hk j j0 (Int.le_refl _) i1
    refine ⟨0, ⟨by have := k.1.1; omega, r0, k.1.2⟩, k.2, by omega, fun t t0 t1 => by omega, fun s t s0 s1 t1 => by omega, fun f x jf bf => ?_, fun _ t t0 t1 => by omega⟩
    rcases hf.1 with ⟨_, z⟩ | ⟨x, jx, _⟩
    · exact absurd ⟨jf, bf⟩ (z f (by have := jf.1; omega) x)
    · have := jx.1; omega
  · exact hx j j0 (by omega) j2
theorem tri_start {n m faces : Int} {pt ph al bl fm face rm rot : Int → Int} {b i fi e : Int} (h : MID n m faces pt ph al bl fm face rm rot b i) (i0 : 0 ≤ i) (i1 : i < n) (hf : TF m pt ph al bl i b fi e) (hfi : 0 ≤ fi) : TRI n m faces pt ph al bl fm face rm rot b i fi fi := by
  obtain ⟨rm0, rot0, hE, hx, hk⟩ := h
  have k := hk i i0 (Int.le_refl _) i1
  refine ⟨rm0, rot0, 0, hE, hx, fun j j0 j1 j2 => hk j j0 (by omega) j2, by have := k.1.1; omega, k.2, ⟨by omega, fun t t0 t1 => by omega, fun s t s0 s1 t1 => by omega, fun t t0 t1 => by omega, fun z => by omega⟩, fun _ => rfl, fun z => by omega, fun t t0 t1 => by omega, ?_⟩
  rcases hf.1 with ⟨z, _⟩ | z
  · omega
  · exact z
theorem trn_0 {n m faces : Int} {pt ph al bl fm face rm rot : Int → Int} {b i fi e : Int} (hg : GOK n m pt ph) (i0 : 0 ≤ i) (i1 : i < n) (hD : DRB m faces pt ph al bl fm face b) (h : TRA n m faces pt ph al bl fm face rm rot b i fi e) (hf : faces ≤ 0) : TRN n m faces pt ph al bl fm face rm rot b i fi e := by
  have hf0 : faces = 0 := by
    rcases hD with ⟨z, _⟩ | ⟨z, _⟩ <;> omega
  have he : e = fi := by
    obtain ⟨rm0, rot0, c, _, _, _, _, _, ⟨c0, t1, t2, t3, t4⟩, h3, h4, _⟩ := h
    by_cases q : c = 1
    · subst q; rw [← h4]; exact t4 h3
    · have := (t3 0 (by omega) (by omega)).1; omega
  exact ⟨fun _ => tra_end hg i0 i1 hD h (Or.inl hf0), fun z => absurd he z⟩
theorem tra_blk {n m faces : Int} {pt ph al bl fm face rm rot : Int → Int} {b i fi e : Int} (h : TRA n m faces pt ph al bl fm face rm rot b i fi e) : ∃ x, JJ m pt ph al e i x ∧ bl e = b := by
  obtain ⟨rm0, rot0, c, _, _, _, _, _, ⟨c0, t1, t2, t3, t4⟩, h3, h4, _⟩ := h
  have := t1 (c - 1) (by omega) (by omega)
  simp only [h4] at this; exact this
theorem tra_bhe {n m faces : Int} {pt ph al bl fm face rm rot : Int → Int} {b i fi e u : Int} (hg : GOK n m pt ph) (hD : DRB m faces pt ph al bl fm face b) (h : TRA n m faces pt ph al bl fm face rm rot b i fi e) (hf : 0 < faces) (hu : ACR pt ph e i u) : BHE faces fm face u i := by
  obtain ⟨x, jx, bx⟩ := tra_blk h
  rcases hD with ⟨z, _⟩ | ⟨_, nx, ρ, hF⟩
  · omega
  · rw [show u = acr pt ph e i from hu]; exact bhe_of hg hF jx bx
theorem tra_edge {n m faces : Int} {pt ph al bl fm face rm rot : Int → Int} {b i fi e u r e' : Int} (hg : GOK n m pt ph) (hD : DRB m faces pt ph al bl fm face b) (h : TRA n m faces pt ph al bl fm face rm rot b i fi e) (hf : 0 < faces) (hu : ACR pt ph e i u) (hr : BHP faces fm face u i r) (he : EOF m pt ph al i r e') : JJ m pt ph al e' i r ∧ bl e' = b ∧ STP m faces pt ph al fm face i e e' := by
  obtain ⟨x, jx, bx⟩ := tra_blk h
  rw [show u = acr pt ph e i from hu] at hr
  rcases hD with ⟨z, _⟩ | ⟨_, nx, ρ, hF⟩
  · omega
  · obtain ⟨g, g1, g2⟩ := stp_blk (e' := 0) hg hF jx hr
    rcases he with ⟨_, z⟩ | z
    · exact absurd g1 (z g)
    · have := JJ_one hg g1 z
      exact ⟨z, by rw [← this]; exact g2, r, hr, z⟩
theorem trn_1 {n m faces : Int} {pt ph al bl fm face rm rot : Int → Int} {b i fi e u r e' : Int} (hg : GOK n m pt ph) (i0 : 0 ≤ i) (i1 : i < n) (hD : DRB m faces pt ph al bl fm face b) (h : TRA n m faces pt ph al bl fm face rm rot b i fi e) (hf : 0 < faces) (hu : ACR pt ph e i u) (hr : BHP faces fm face u i r) (he : EOF m pt ph al i r e') : TRN n m faces pt ph al bl fm face rm rot b i fi e' := by
  obtain ⟨x1, x2, x3⟩ := tra_edge hg hD h hf hu hr he
  exact ⟨fun z => tra_end hg i0 i1 hD h (Or.inr (z ▸ x3)), fun z => tra_next hg hD h hf x3 x1 x2 z⟩
