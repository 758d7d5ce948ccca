theorem rcA_sym {A : pa_T} (h : mp1 A) {x y : Int} (r : rc A x y) : rc A y x := rc_symm h.1 r
/-- the shared node of a node's part -/
def gat (A1 A2 : pa_T) (w : Int) : Prop := ∃ i, shd A1 A2 i ∧ rc A1 i w
noncomputable def gtn (A1 A2 : pa_T) (w : Int) : Int := @dite Int (gat A1 A2 w) (Classical.propDecidable _) (fun h => Classical.choose h) (fun _ => w)
theorem gtn_is {A1 A2 : pa_T} (h1 : mp1 A1) (hg : ∀ i j, shd A1 A2 i → shd A1 A2 j → rc A1 i j → i = j) {w i : Int} (hi : shd A1 A2 i) (hr : rc A1 i w) : gtn A1 A2 w = i := by
  have h : gat A1 A2 w := ⟨i, hi, hr⟩
  unfold gtn
  rw [dif_pos h]
  have q := Classical.choose_spec h
  exact hg _ _ q.1 hi (rc_trans q.2 (rcA_sym h1 hr))
theorem gtn_no {A1 A2 : pa_T} {w : Int} (h : ¬ gat A1 A2 w) : gtn A1 A2 w = w := by unfold gtn; rw [dif_neg h]
theorem gat_step {A1 A2 : pa_T} {u v : Int} (h : A1 u v) (g : gat A1 A2 u) : gat A1 A2 v := by
  obtain ⟨i, hi, hr⟩ := g
  exact ⟨i, hi, rc_trans hr (rc_step h)⟩
/-- who is reached by steps of A1 is the start or has an edge of A1 -/
theorem rc_has {A1 : pa_T} {i w : Int} (h : rc A1 i w) : w = i ∨ ∃ u, A1 u w := rc_ind (L := fun w => w = i ∨ ∃ u, A1 u w) h (Or.inl rfl) (fun a b _ r _ => Or.inr ⟨a, r⟩)
noncomputable def glr (A1 A2 : pa_T) (ρ1 ρ2 : Int → Int → Int → Bool) (w x y : Int) : Bool :=
  bif pb (A1 x y) then (bif pb (∃ u, A1 u w) then (ρ1 w x y ^^ (bif pb (gat A1 A2 w) then ρ1 (gtn A1 A2 w) x y else false)) else false)
  else (bif pb (gat A1 A2 w ∨ ∃ u, A2 u w) then ρ2 (gtn A1 A2 w) x y else false)
theorem glu_pls {A1 A2 : pa_T} {nx1 nx2 nx : Int → Int → Int} {l1 l2 : Int → Int} {ρ1 ρ2 : Int → Int → Int → Bool} (m1 : mp A1 nx1) (m2 : mp A2 nx2) (hg : glu A1 A2 nx1 nx2 nx l1 l2) (p1 : pls A1 nx1 ρ1) (p2 : pls A2 nx2 ρ2) : pls (fun u v => A1 u v ∨ A2 u v) nx (glr A1 A2 ρ1 ρ2) := by
  obtain ⟨hs1, a2, a3, a4⟩ := m1
  obtain ⟨hs2, b2, b3, b4⟩ := m2
  obtain ⟨g1, g2, g3, g4⟩ := hg
  have hd : ∀ {x y : Int}, A1 x y → A2 x y → False := fun a b => glu_dis hs1 hs2 g1 a b
  have gi : ∀ {w i : Int}, shd A1 A2 i → rc A1 i w → gtn A1 A2 w = i := fun a b => gtn_is hs1 g1 a b
  -- a value of each shared node, spread over its part
  have sp : ∀ (c : Int → Bool), ∃ γ : Int → Bool, (∀ x y, A1 x y → γ x = γ y) ∧ ∀ i, shd A1 A2 i → γ i = c i := by
    intro c
    refine ⟨fun x => pb (∃ i, shd A1 A2 i ∧ rc A1 i x ∧ c i = true), fun x y h => pb_iff ⟨fun ⟨i, h1, h2, h3⟩ => ⟨i, h1, rc_trans h2 (rc_step h), h3⟩, fun ⟨i, h1, h2, h3⟩ => ⟨i, h1, rc_trans h2 (rc_step (hs1.1 _ _ h)), h3⟩⟩, fun i hi => ?_⟩
    cases hc : c i with
    | true => exact pb_t ⟨i, hi, rc_refl _ _, hc⟩
    | false =>
      refine pb_f (fun ⟨j, h1, h2, h3⟩ => ?_)
      rw [g1 j i h1 hi h2, hc] at h3; cases h3
  intro u v huv
  rcases huv with huv | huv
  · -- an edge of the first
    obtain ⟨χ1, hinv, hbd⟩ := p1 u v huv
    obtain ⟨γ, hγ, hγi⟩ := sp (fun i => χ1 (l1 i) i)
    refine ⟨fun x y => bif pb (A1 x y) then (χ1 x y ^^ γ x) else false, ?_, ?_⟩
    · intro x y h
      show (bif pb (A1 y (nx x y)) then (χ1 y (nx x y) ^^ γ y) else false) = (bif pb (A1 x y) then (χ1 x y ^^ γ x) else false)
      rcases h with h | h
      · by_cases q : shd A1 A2 y ∧ x = l1 y
        · obtain ⟨c1, c2, c3, c4⟩ := g2 y q.1
          have e2 : A2 y (nx x y) := by rw [q.2, c3]; exact b2 _ _ c2
          rw [pb_f (fun z => hd z e2), pb_t h, hγ x y h, hγi y q.1, ← q.2]
          simp
        · have e1 : A1 y (nx x y) := by rw [g3 x y h q]; exact a2 x y h
          rw [pb_t e1, pb_t h, g3 x y h q, hinv x y h, hγ x y h]
      · by_cases q : shd A1 A2 y ∧ x = l2 y
        · obtain ⟨c1, c2, c3, c4⟩ := g2 y q.1
          have e2 : A1 y (nx x y) := by rw [q.2, c4]; exact a2 _ _ c1
          rw [pb_f (fun z => hd z h), pb_t e2, q.2, c4, hinv _ _ c1, hγi y q.1]
          simp
        · have e1 : A2 y (nx x y) := by rw [g4 x y h q]; exact b2 x y h
          rw [pb_f (fun z => hd z h), pb_f (fun z => hd z e1)]; rfl
    · intro x y h
      unfold fbd glr
      have gv : gat A1 A2 u ↔ gat A1 A2 v := ⟨gat_step huv, gat_step (hs1.1 _ _ huv)⟩
      have ge : gat A1 A2 u → gtn A1 A2 u = gtn A1 A2 v := fun ⟨i, h1, h2⟩ => by rw [gi h1 h2, gi h1 (rc_trans h2 (rc_step huv))]
      rcases h with h | h
      · have hb := hbd x y h
        unfold fbd at hb
        simp only [pb_t h, pb_t (hs1.1 _ _ h), pb_t (⟨v, hs1.1 _ _ huv⟩ : ∃ z, A1 z u), pb_t (⟨u, huv⟩ : ∃ z, A1 z v), cond_true]
        rw [hγ x y h, pb_iff gv]
        by_cases q : gat A1 A2 v
        · rw [pb_t q, ge (gv.mpr q)]
          simp only [cond_true]
          generalize ρ1 (gtn A1 A2 v) x y = r
          generalize γ y = r2
          revert hb
          generalize χ1 x y = r3
          generalize χ1 y x = r4
          generalize ρ1 u x y = r5
          generalize ρ1 v x y = r6
          generalize eI u v x y = r7
          revert r r2 r3 r4 r5 r6 r7
          decide
        · rw [pb_f q]
          simp only [cond_false]
          generalize γ y = r2
          revert hb
          generalize χ1 x y = r3
          generalize χ1 y x = r4
          generalize ρ1 u x y = r5
          generalize ρ1 v x y = r6
          generalize eI u v x y = r7
          revert r2 r3 r4 r5 r6 r7
          decide
      · have n1 : ¬ A1 x y := fun z => hd z h
        have n2 : ¬ A1 y x := fun z => hd (hs1.1 _ _ z) h
        have n3 : eI u v x y = false := eI_no hs2 (fun z => hd huv z) h
        have hu2 : gat A1 A2 u ∨ (∃ z, A2 z u) ↔ gat A1 A2 u := ⟨fun z => z.elim id (fun z => ⟨u, ⟨⟨v, hs1.1 _ _ huv⟩, z⟩, rc_refl _ _⟩), Or.inl⟩
        have hv2 : gat A1 A2 v ∨ (∃ z, A2 z v) ↔ gat A1 A2 v := ⟨fun z => z.elim id (fun z => ⟨v, ⟨⟨u, huv⟩, z⟩, rc_refl _ _⟩), Or.inl⟩
        simp only [pb_f n1, pb_f n2, n3, cond_false, pb_iff hu2, pb_iff hv2, pb_iff gv]
        by_cases q : gat A1 A2 v
        · rw [pb_t q, ge (gv.mpr q)]; simp
        · rw [pb_f q]; rfl
  · obtain ⟨χ2, hinv, hbd⟩ := p2 u v huv
    obtain ⟨γ, hγ, hγi⟩ := sp (fun i => χ2 (l2 i) i)
    refine ⟨fun x y => bif pb (A1 x y) then γ x else χ2 x y, ?_, ?_⟩
    · intro x y h
      show (bif pb (A1 y (nx x y)) then γ y else χ2 y (nx x y)) = (bif pb (A1 x y) then γ x else χ2 x y)
      rcases h with h | h
      · by_cases q : shd A1 A2 y ∧ x = l1 y
        · obtain ⟨c1, c2, c3, c4⟩ := g2 y q.1
          have e2 : A2 y (nx x y) := by rw [q.2, c3]; exact b2 _ _ c2
          rw [pb_f (fun z => hd z e2), pb_t h, hγ x y h, hγi y q.1, q.2, c3]
          exact hinv _ _ c2
        · have e1 : A1 y (nx x y) := by rw [g3 x y h q]; exact a2 x y h
          rw [pb_t e1, pb_t h, hγ x y h]; rfl
      · by_cases q : shd A1 A2 y ∧ x = l2 y
        · obtain ⟨c1, c2, c3, c4⟩ := g2 y q.1
          have e2 : A1 y (nx x y) := by rw [q.2, c4]; exact a2 _ _ c1
          rw [pb_f (fun z => hd z h), pb_t e2, hγi y q.1, ← q.2]; rfl
        · have e1 : A2 y (nx x y) := by rw [g4 x y h q]; exact b2 x y h
          rw [pb_f (fun z => hd z h), pb_f (fun z => hd z e1), g4 x y h q]
          exact hinv x y h
    · intro x y h
      unfold fbd glr
      -- an end of an edge of the second is its own gate
      have gw : ∀ w, (∃ z, A2 z w) → gtn A1 A2 w = w ∧ ((∃ z, A1 z w) → gat A1 A2 w) := by
        intro w hw
        refine ⟨?_, fun h1 => ⟨w, ⟨h1, hw⟩, rc_refl _ _⟩⟩
        by_cases q : gat A1 A2 w
        · obtain ⟨i, h1, h2⟩ := q
          rcases rc_has h2 with e | e
          · subst e; exact gi h1 h2
          · exact gi ⟨e, hw⟩ (rc_refl _ _)
        · exact gtn_no q
      obtain ⟨u1, u2⟩ := gw u ⟨v, hs2.1 _ _ huv⟩
      obtain ⟨v1, v2⟩ := gw v ⟨u, huv⟩
      rcases h with h | h
      · have n3 : eI u v x y = false := eI_no hs1 (fun z => hd z huv) h
        have z : ∀ w, (∃ z, A2 z w) → (bif pb (∃ u, A1 u w) then (ρ1 w x y ^^ (bif pb (gat A1 A2 w) then ρ1 (gtn A1 A2 w) x y else false)) else false) = false := by
          intro w hw
          obtain ⟨w1, w2⟩ := gw w hw
          by_cases q : ∃ u, A1 u w
          · rw [pb_t q, pb_t (w2 q), w1]; simp
          · rw [pb_f q]; rfl
        simp only [pb_t h, pb_t (hs1.1 _ _ h), cond_true, n3, z u ⟨v, hs2.1 _ _ huv⟩, z v ⟨u, huv⟩, hγ x y h]
        simp
      · have n1 : ¬ A1 x y := fun z => hd z h
        have n2 : ¬ A1 y x := fun z => hd (hs1.1 _ _ z) h
        have hb := hbd x y h
        unfold fbd at hb
        simp only [pb_f n1, pb_f n2, cond_false, u1, v1, pb_t (Or.inr ⟨v, hs2.1 _ _ huv⟩ : gat A1 A2 u ∨ ∃ z, A2 z u), pb_t (Or.inr ⟨u, huv⟩ : gat A1 A2 v ∨ ∃ z, A2 z v), cond_true]
        exact hb
