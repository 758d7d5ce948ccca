/-! maps: A u v: u and v are neighbours; nx u v: who comes behind u and v on a face's round -/
abbrev pa_T : Type := Int → Int → Prop
noncomputable def pb (P : Prop) : Bool := @decide P (Classical.propDecidable P)
theorem pb_t {P : Prop} (h : P) : pb P = true := @decide_eq_true P (Classical.propDecidable P) h
theorem pb_f {P : Prop} (h : ¬ P) : pb P = false := @decide_eq_false P (Classical.propDecidable P) h
theorem pb_i {P : Prop} (h : pb P = true) : P := @of_decide_eq_true P (Classical.propDecidable P) h
theorem pb_iff {P Q : Prop} (h : P ↔ Q) : pb P = pb Q := by
  by_cases p : P
  · rw [pb_t p, pb_t (h.mp p)]
  · rw [pb_f p, pb_f (fun q => p (h.mpr q))]
/-- symmetric, no loops; each goes on; no two meet; around each node all hang together -/
def mp1 (A : pa_T) : Prop := (∀ u v, A u v → A v u) ∧ ∀ u v, A u v → u ≠ v
def mp2 (A : pa_T) (nx : Int → Int → Int) : Prop := ∀ u v, A u v → A v (nx u v)
def mp3 (A : pa_T) (nx : Int → Int → Int) : Prop := ∀ u u' v, A u v → A u' v → nx u v = nx u' v → u = u'
def mp4 (A : pa_T) (nx : Int → Int → Int) : Prop := ∀ v (L : Int → Prop), (∀ u, A u v → L u → L (nx u v)) → ∀ u u', A u v → A u' v → L u → L u'
def mp (A : pa_T) (nx : Int → Int → Int) : Prop := mp1 A ∧ mp2 A nx ∧ mp3 A nx ∧ mp4 A nx
/-- the same on each face -/
def finv (A : pa_T) (nx : Int → Int → Int) (χ : Int → Int → Bool) : Prop := ∀ u v, A u v → χ v (nx u v) = χ u v
/-- where both sides of an edge differ -/
def fbd (χ : Int → Int → Bool) (x y : Int) : Bool := χ x y ^^ χ y x
def eI (u v x y : Int) : Bool := decide ((x = u ∧ y = v) ∨ (x = v ∧ y = u))
/-- every closed way bounds: by ways ρ to each node -/
def pls (A : pa_T) (nx : Int → Int → Int) (ρ : Int → Int → Int → Bool) : Prop := ∀ u v, A u v → ∃ χ, finv A nx χ ∧ ∀ x y, A x y → fbd χ x y = ((ρ u x y ^^ ρ v x y) ^^ eI u v x y)
theorem fbd_sym (χ : Int → Int → Bool) (x y : Int) : fbd χ x y = fbd χ y x := by unfold fbd; exact Bool.xor_comm _ _
theorem eI_no {A : pa_T} (h1 : mp1 A) {u v x y : Int} (huv : ¬ A u v) (hxy : A x y) : eI u v x y = false := by
  unfold eI
  refine decide_eq_false (fun h => ?_)
  rcases h with ⟨rfl, rfl⟩ | ⟨rfl, rfl⟩
  · exact huv hxy
  · exact huv (h1.1 _ _ hxy)
/-- along a ring from the one behind l one comes to l -/
theorem ring_to {A : pa_T} {nx : Int → Int → Int} (h2 : mp2 A nx) (h1 : mp1 A) (h4 : mp4 A nx) {v l : Int} (hl : A l v) : ∀ u, A u v → rc (fun a b => A a v ∧ a ≠ l ∧ b = nx a v) (nx l v) u := by
  intro u hu
  refine h4 v (fun u => rc (fun a b => A a v ∧ a ≠ l ∧ b = nx a v) (nx l v) u) (fun a ha hL => ?_) (nx l v) u (h1.1 _ _ (h2 l v hl)) hu (rc_refl _ _)
  by_cases e : a = l
  · rw [e]; exact rc_refl _ _
  · exact rc_trans hL (rc_step ⟨ha, e, rfl⟩)
/-- where two maps are put together at nodes that lie in parts of the first of their own -/
def shd (A1 A2 : pa_T) (i : Int) : Prop := (∃ u, A1 u i) ∧ ∃ u, A2 u i
def glu (A1 A2 : pa_T) (nx1 nx2 nx : Int → Int → Int) (l1 l2 : Int → Int) : Prop :=
  (∀ i j, shd A1 A2 i → shd A1 A2 j → rc A1 i j → i = j) ∧
  (∀ v, shd A1 A2 v → A1 (l1 v) v ∧ A2 (l2 v) v ∧ nx (l1 v) v = nx2 (l2 v) v ∧ nx (l2 v) v = nx1 (l1 v) v) ∧
  (∀ u v, A1 u v → ¬ (shd A1 A2 v ∧ u = l1 v) → nx u v = nx1 u v) ∧
  (∀ u v, A2 u v → ¬ (shd A1 A2 v ∧ u = l2 v) → nx u v = nx2 u v)
theorem glu_dis {A1 A2 : pa_T} (h1 : mp1 A1) (h2 : mp1 A2) (hg : ∀ i j, shd A1 A2 i → shd A1 A2 j → rc A1 i j → i = j) {x y : Int} (a : A1 x y) (b : A2 x y) : False :=
  h1.2 x y a (hg x y ⟨⟨y, h1.1 _ _ a⟩, y, h2.1 _ _ b⟩ ⟨⟨x, a⟩, x, b⟩ (rc_step a))
theorem glu_mp {A1 A2 : pa_T} {nx1 nx2 nx : Int → Int → Int} {l1 l2 : Int → Int} (m1 : mp A1 nx1) (m2 : mp A2 nx2) (hg : glu A1 A2 nx1 nx2 nx l1 l2) : mp (fun u v => A1 u v ∨ A2 u v) nx := by
  obtain ⟨⟨s1, i1⟩, a2, a3, a4⟩ := m1
  obtain ⟨⟨s2, i2⟩, b2, b3, b4⟩ := m2
  obtain ⟨g1, g2, g3, g4⟩ := hg
  have hd : ∀ {x y : Int}, A1 x y → A2 x y → False := fun a b => glu_dis ⟨s1, i1⟩ ⟨s2, i2⟩ g1 a b
  refine ⟨⟨fun u v h => h.elim (fun h => Or.inl (s1 u v h)) (fun h => Or.inr (s2 u v h)), fun u v h => h.elim (i1 u v) (i2 u v)⟩, ?_, ?_, ?_⟩
  · intro u v h
    rcases h with h | h
    · by_cases q : shd A1 A2 v ∧ u = l1 v
      · rw [q.2, (g2 v q.1).2.2.1]; exact Or.inr (b2 _ _ (g2 v q.1).2.1)
      · rw [g3 u v h q]; exact Or.inl (a2 u v h)
    · by_cases q : shd A1 A2 v ∧ u = l2 v
      · rw [q.2, (g2 v q.1).2.2.2]; exact Or.inl (a2 _ _ (g2 v q.1).1)
      · rw [g4 u v h q]; exact Or.inr (b2 u v h)
  · have key : ∀ u u' v, A1 u v → A1 u' v → nx u v = nx u' v → u = u' := by
      intro u u' v h h' e
      by_cases q : shd A1 A2 v ∧ u = l1 v
      · by_cases q' : shd A1 A2 v ∧ u' = l1 v
        · rw [q.2, q'.2]
        · rw [q.2, (g2 v q.1).2.2.1, g3 u' v h' q'] at e
          have z1 := b2 _ _ (g2 v q.1).2.1
          rw [e] at z1
          exact (hd (a2 u' v h') z1).elim
      · by_cases q' : shd A1 A2 v ∧ u' = l1 v
        · rw [q'.2, (g2 v q'.1).2.2.1, g3 u v h q] at e
          have z1 := b2 _ _ (g2 v q'.1).2.1
          rw [← e] at z1
          exact (hd (a2 u v h) z1).elim
        · rw [g3 u v h q, g3 u' v h' q'] at e; exact a3 u u' v h h' e
    have key2 : ∀ u u' v, A2 u v → A2 u' v → nx u v = nx u' v → u = u' := by
      intro u u' v h h' e
      by_cases q : shd A1 A2 v ∧ u = l2 v
      · by_cases q' : shd A1 A2 v ∧ u' = l2 v
        · rw [q.2, q'.2]
        · rw [q.2, (g2 v q.1).2.2.2, g4 u' v h' q'] at e
          have z1 := a2 _ _ (g2 v q.1).1
          rw [e] at z1
          exact (hd z1 (b2 u' v h')).elim
      · by_cases q' : shd A1 A2 v ∧ u' = l2 v
        · rw [q'.2, (g2 v q'.1).2.2.2, g4 u v h q] at e
          have z1 := a2 _ _ (g2 v q'.1).1
          rw [← e] at z1
          exact (hd z1 (b2 u v h)).elim
        · rw [g4 u v h q, g4 u' v h' q'] at e; exact b3 u u' v h h' e
    have key3 : ∀ u u' v, A1 u v → A2 u' v → nx u v = nx u' v → False := by
      intro u u' v h h' e
      have hv : shd A1 A2 v := ⟨⟨u, h⟩, u', h'⟩
      by_cases q : u = l1 v
      · by_cases q' : u' = l2 v
        · rw [q, q', (g2 v hv).2.2.1, (g2 v hv).2.2.2] at e
          have z1 := a2 _ _ (g2 v hv).1
          rw [← e] at z1
          exact hd z1 (b2 _ _ (g2 v hv).2.1)
        · rw [q, (g2 v hv).2.2.1, g4 u' v h' (fun z => q' z.2)] at e
          exact q' (b3 _ _ v (g2 v hv).2.1 h' e).symm
      · by_cases q' : u' = l2 v
        · rw [q', (g2 v hv).2.2.2, g3 u v h (fun z => q z.2)] at e
          exact q (a3 _ _ v h (g2 v hv).1 e)
        · rw [g3 u v h (fun z => q z.2), g4 u' v h' (fun z => q' z.2)] at e
          have z1 := a2 u v h
          rw [e] at z1
          exact hd z1 (b2 u' v h')
    intro u u' v h h' e
    rcases h with h | h
    · rcases h' with h' | h'
      · exact key u u' v h h' e
      · exact (key3 u u' v h h' e).elim
    · rcases h' with h' | h'
      · exact (key3 u' u v h' h e.symm).elim
      · exact key2 u u' v h h' e
  · intro v L hL
    by_cases hv : shd A1 A2 v
    · obtain ⟨c1, c2, c3, c4⟩ := g2 v hv
      have t2 : L (nx2 (l2 v) v) → ∀ u, A2 u v → L u := by
        intro h0 u hu
        refine ring_to b2 ⟨s2, i2⟩ b4 c2 u hu L (fun a b r ha => ?_) h0
        have := hL a (Or.inr r.1) ha
        rw [g4 a v r.1 (fun z => r.2.1 z.2), ← r.2.2] at this; exact this
      have t1 : L (nx1 (l1 v) v) → ∀ u, A1 u v → L u := by
        intro h0 u hu
        refine ring_to a2 ⟨s1, i1⟩ a4 c1 u hu L (fun a b r ha => ?_) h0
        have := hL a (Or.inl r.1) ha
        rw [g3 a v r.1 (fun z => r.2.1 z.2), ← r.2.2] at this; exact this
      have all1 : (∀ u, A1 u v → L u) → ∀ u, A2 u v → L u := fun h => t2 (by rw [← c3]; exact hL _ (Or.inl c1) (h _ c1))
      have all2 : (∀ u, A2 u v → L u) → ∀ u, A1 u v → L u := fun h => t1 (by rw [← c4]; exact hL _ (Or.inr c2) (h _ c2))
      have from1 : ∀ u, A1 u v → L u → ∀ w, A1 w v → L w := by
        intro u hu hLu w hw
        refine a4 v L (fun a ha hLa => ?_) u w hu hw hLu
        by_cases q : a = l1 v
        · have z1 := hL a (Or.inl ha) hLa
          rw [q, c3] at z1
          have z2 := hL (l2 v) (Or.inr c2) (t2 z1 _ c2)
          rw [c4] at z2
          rw [q]; exact z2
        · have := hL a (Or.inl ha) hLa
          rw [g3 a v ha (fun z => q z.2)] at this; exact this
      have from2 : ∀ u, A2 u v → L u → ∀ w, A2 w v → L w := by
        intro u hu hLu w hw
        refine b4 v L (fun a ha hLa => ?_) u w hu hw hLu
        by_cases q : a = l2 v
        · have z1 := hL a (Or.inr ha) hLa
          rw [q, c4] at z1
          have z2 := hL (l1 v) (Or.inl c1) (t1 z1 _ c1)
          rw [c3] at z2
          rw [q]; exact z2
        · have := hL a (Or.inr ha) hLa
          rw [g4 a v ha (fun z => q z.2)] at this; exact this
      intro u u' hu hu' hLu
      rcases hu with hu | hu
      · have z := from1 u hu hLu
        rcases hu' with hu' | hu'
        · exact z u' hu'
        · exact all1 z u' hu'
      · have z := from2 u hu hLu
        rcases hu' with hu' | hu'
        · exact all2 z u' hu'
        · exact z u' hu'
    · intro u u' hu hu' hLu
      rcases hu with hu | hu
      · rcases hu' with hu' | hu'
        · refine a4 v L (fun a ha hLa => ?_) u u' hu hu' hLu
          have := hL a (Or.inl ha) hLa
          rw [g3 a v ha (fun z => hv z.1)] at this; exact this
        · exact absurd ⟨⟨u, hu⟩, u', hu'⟩ hv
      · rcases hu' with hu' | hu'
        · exact absurd ⟨⟨u', hu'⟩, u, hu⟩ hv
        · refine b4 v L (fun a ha hLa => ?_) u u' hu hu' hLu
          have := hL a (Or.inr ha) hLa
          rw [g4 a v ha (fun z => hv z.1)] at this; exact this
