/-! a new edge between two corners of one face -/
def chA (A : pa_T) (a b u v : Int) : Prop := A u v ∨ (u = a ∧ v = b) ∨ (u = b ∧ v = a)
def cnx (nx : Int → Int → Int) (p a p' b u v : Int) : Int := if u = p ∧ v = a then b else if u = b ∧ v = a then nx p a else if u = p' ∧ v = b then a else if u = a ∧ v = b then nx p' b else nx u v
theorem cnx_1 {nx : Int → Int → Int} {p a p' b : Int} : cnx nx p a p' b p a = b := by unfold cnx; rw [if_pos ⟨rfl, rfl⟩]
theorem cnx_2 {nx : Int → Int → Int} {p a p' b : Int} (h : b ≠ p) : cnx nx p a p' b b a = nx p a := by unfold cnx; rw [if_neg (fun e => h e.1), if_pos ⟨rfl, rfl⟩]
theorem cnx_3 {nx : Int → Int → Int} {p a p' b : Int} (h : b ≠ a) : cnx nx p a p' b p' b = a := by unfold cnx; rw [if_neg (fun e => h e.2), if_neg (fun e => h e.2), if_pos ⟨rfl, rfl⟩]
theorem cnx_4 {nx : Int → Int → Int} {p a p' b : Int} (h : b ≠ a) (h2 : a ≠ p') : cnx nx p a p' b a b = nx p' b := by unfold cnx; rw [if_neg (fun e => h e.2), if_neg (fun e => h e.2), if_neg (fun e => h2 e.1), if_pos ⟨rfl, rfl⟩]
theorem cnx_o {nx : Int → Int → Int} {p a p' b u v : Int} (h : ¬ (u = p ∧ v = a)) (h1 : ¬ (u = b ∧ v = a)) (h2 : ¬ (u = p' ∧ v = b)) (h3 : ¬ (u = a ∧ v = b)) : cnx nx p a p' b u v = nx u v := by unfold cnx; rw [if_neg h, if_neg h1, if_neg h2, if_neg h3]
theorem chord_mp {A : pa_T} {nx : Int → Int → Int} {p a p' b : Int} (m : mp A nx) (hp : A p a) (hp' : A p' b) (hab : ¬ A a b) (hne : a ≠ b) : mp (chA A a b) (cnx nx p a p' b) := by
  obtain ⟨⟨hs, hi⟩, a2, a3, a4⟩ := m
  have hba : ¬ A b a := fun h => hab (hs _ _ h)
  have hne' : b ≠ a := fun e => hne e.symm
  have hbp : b ≠ p := fun e => hba (e ▸ hp)
  have hap : a ≠ p' := fun e => hab (e ▸ hp')
  have n1 : ∀ {u v}, A u v → ¬ (u = b ∧ v = a) := fun h e => hba (e.1 ▸ e.2 ▸ h)
  have n2 : ∀ {u v}, A u v → ¬ (u = a ∧ v = b) := fun h e => hab (e.1 ▸ e.2 ▸ h)
  have qb : nx p a ≠ b := fun e => hab (e ▸ a2 _ _ hp)
  have qa : nx p' b ≠ a := fun e => hba (e ▸ a2 _ _ hp')
  refine ⟨⟨?_, ?_⟩, ?_, ?_, ?_⟩
  · rintro u v (h | ⟨h1, h2⟩ | ⟨h1, h2⟩)
    · exact Or.inl (hs _ _ h)
    · exact Or.inr (Or.inr ⟨h2, h1⟩)
    · exact Or.inr (Or.inl ⟨h2, h1⟩)
  · rintro u v (h | ⟨h1, h2⟩ | ⟨h1, h2⟩)
    · exact hi _ _ h
    · rw [h1, h2]; exact hne
    · rw [h1, h2]; exact hne'
  · rintro u v (h | ⟨h1, h2⟩ | ⟨h1, h2⟩)
    · by_cases q : u = p ∧ v = a
      · rw [q.1, q.2, cnx_1]; exact Or.inr (Or.inl ⟨rfl, rfl⟩)
      · by_cases q' : u = p' ∧ v = b
        · rw [q'.1, q'.2, cnx_3 hne']; exact Or.inr (Or.inr ⟨rfl, rfl⟩)
        · rw [cnx_o q (n1 h) q' (n2 h)]; exact Or.inl (a2 u v h)
    · rw [h1, h2, cnx_4 hne' hap]; exact Or.inl (a2 _ _ hp')
    · rw [h1, h2, cnx_2 hbp]; exact Or.inl (a2 _ _ hp)
  · -- at a, at b, elsewhere
    have va : ∀ u, chA A a b u a → A u a ∨ u = b := by
      rintro u (h | ⟨h1, h2⟩ | ⟨h1, h2⟩)
      · exact Or.inl h
      · exact absurd h2 hne
      · exact Or.inr h1
    have vb : ∀ u, chA A a b u b → A u b ∨ u = a := by
      rintro u (h | ⟨h1, h2⟩ | ⟨h1, h2⟩)
      · exact Or.inl h
      · exact Or.inr h1
      · exact absurd h2 hne'
    have xa : ∀ u, A u a → u ≠ p → cnx nx p a p' b u a = nx u a := fun u h q => cnx_o (fun z => q z.1) (n1 h) (fun z => hne z.2) (n2 h)
    have xb : ∀ u, A u b → u ≠ p' → cnx nx p a p' b u b = nx u b := fun u h q => cnx_o (fun z => hne' z.2) (n1 h) (fun z => q z.1) (n2 h)
    have key : ∀ u u', (A u a ∨ u = b) → (A u' a ∨ u' = b) → cnx nx p a p' b u a = cnx nx p a p' b u' a → u = u' := by
      intro u u' hu hu' e
      have ev : ∀ w, (A w a ∨ w = b) → (w = p ∧ cnx nx p a p' b w a = b) ∨ (w = b ∧ cnx nx p a p' b w a = nx p a) ∨ (A w a ∧ w ≠ p ∧ cnx nx p a p' b w a = nx w a) := by
        intro w hw
        rcases hw with hw | hw
        · by_cases q : w = p
          · exact Or.inl ⟨q, by rw [q]; exact cnx_1⟩
          · exact Or.inr (Or.inr ⟨hw, q, xa w hw q⟩)
        · exact Or.inr (Or.inl ⟨hw, by rw [hw]; exact cnx_2 hbp⟩)
      rcases ev u hu with ⟨q1, q2⟩ | ⟨q1, q2⟩ | ⟨q0, q1, q2⟩ <;> rcases ev u' hu' with ⟨r1, r2⟩ | ⟨r1, r2⟩ | ⟨r0, r1, r2⟩ <;> rw [q2, r2] at e
      · rw [q1, r1]
      · exact absurd e.symm qb
      · exact absurd (e ▸ a2 _ _ r0) hab
      · exact absurd e qb
      · rw [q1, r1]
      · exact absurd (a3 _ _ _ hp r0 e).symm r1
      · exact absurd (e.symm ▸ a2 _ _ q0) hab
      · exact absurd (a3 _ _ _ q0 hp e) q1
      · exact a3 _ _ _ q0 r0 e
    have key2 : ∀ u u', (A u b ∨ u = a) → (A u' b ∨ u' = a) → cnx nx p a p' b u b = cnx nx p a p' b u' b → u = u' := by
      intro u u' hu hu' e
      have ev : ∀ w, (A w b ∨ w = a) → (w = p' ∧ cnx nx p a p' b w b = a) ∨ (w = a ∧ cnx nx p a p' b w b = nx p' b) ∨ (A w b ∧ w ≠ p' ∧ cnx nx p a p' b w b = nx w b) := by
        intro w hw
        rcases hw with hw | hw
        · by_cases q : w = p'
          · exact Or.inl ⟨q, by rw [q]; exact cnx_3 hne'⟩
          · exact Or.inr (Or.inr ⟨hw, q, xb w hw q⟩)
        · exact Or.inr (Or.inl ⟨hw, by rw [hw]; exact cnx_4 hne' hap⟩)
      rcases ev u hu with ⟨q1, q2⟩ | ⟨q1, q2⟩ | ⟨q0, q1, q2⟩ <;> rcases ev u' hu' with ⟨r1, r2⟩ | ⟨r1, r2⟩ | ⟨r0, r1, r2⟩ <;> rw [q2, r2] at e
      · rw [q1, r1]
      · exact absurd e.symm qa
      · exact absurd (e ▸ a2 _ _ r0) hba
      · exact absurd e qa
      · rw [q1, r1]
      · exact absurd (a3 _ _ _ hp' r0 e).symm r1
      · exact absurd (e.symm ▸ a2 _ _ q0) hba
      · exact absurd (a3 _ _ _ q0 hp' e) q1
      · exact a3 _ _ _ q0 r0 e
    intro u u' v h h' e
    by_cases hva : v = a
    · subst hva; exact key u u' (va u h) (va u' h') e
    · by_cases hvb : v = b
      · subst hvb; exact key2 u u' (vb u h) (vb u' h') e
      · have o : ∀ w, chA A a b w v → A w v := by
          rintro w (h | ⟨h1, h2⟩ | ⟨h1, h2⟩)
          · exact h
          · exact absurd h2 hvb
          · exact absurd h2 hva
        rw [cnx_o (fun z => hva z.2) (fun z => hva z.2) (fun z => hvb z.2) (fun z => hvb z.2), cnx_o (fun z => hva z.2) (fun z => hva z.2) (fun z => hvb z.2) (fun z => hvb z.2)] at e
        exact a3 u u' v (o u h) (o u' h') e
  · intro v L hL
    by_cases hva : v = a
    · subst hva
      have c1 : L p → L b := fun h => by have := hL p (Or.inl hp) h; rw [cnx_1] at this; exact this
      have c2 : L b → L (nx p v) := fun h => by have := hL b (Or.inr (Or.inr ⟨rfl, rfl⟩)) h; rw [cnx_2 hbp] at this; exact this
      have cl : ∀ u, A u v → L u → L (nx u v) := fun u h hu => by
        by_cases q : u = p
        · rw [q]; rw [q] at hu; exact c2 (c1 hu)
        · have := hL u (Or.inl h) hu
          rw [cnx_o (fun z => q z.1) (n1 h) (fun z => hne z.2) (n2 h)] at this; exact this
      have hq : A (nx p v) v := hs _ _ (a2 _ _ hp)
      rintro u u' (h | ⟨h1, h2⟩ | ⟨h1, h2⟩) (h' | ⟨h1', h2'⟩ | ⟨h1', h2'⟩) hu
      · exact a4 v L cl u u' h h' hu
      · exact absurd h2' hne
      · rw [h1']; exact c1 (a4 v L cl u p h hp hu)
      · exact absurd h2 hne
      · exact absurd h2 hne
      · exact absurd h2 hne
      · rw [h1] at hu; exact a4 v L cl _ u' hq h' (c2 hu)
      · exact absurd h2' hne
      · rw [h1']; rw [h1] at hu; exact hu
    · by_cases hvb : v = b
      · subst hvb
        have c1 : L p' → L a := fun h => by have := hL p' (Or.inl hp') h; rw [cnx_3 hne'] at this; exact this
        have c2 : L a → L (nx p' v) := fun h => by have := hL a (Or.inr (Or.inl ⟨rfl, rfl⟩)) h; rw [cnx_4 hne' hap] at this; exact this
        have cl : ∀ u, A u v → L u → L (nx u v) := fun u h hu => by
          by_cases q : u = p'
          · rw [q]; rw [q] at hu; exact c2 (c1 hu)
          · have := hL u (Or.inl h) hu
            rw [cnx_o (fun z => hva z.2) (fun z => hva z.2) (fun z => q z.1) (n2 h)] at this; exact this
        have hq : A (nx p' v) v := hs _ _ (a2 _ _ hp')
        rintro u u' (h | ⟨h1, h2⟩ | ⟨h1, h2⟩) (h' | ⟨h1', h2'⟩ | ⟨h1', h2'⟩) hu
        · exact a4 v L cl u u' h h' hu
        · rw [h1']; exact c1 (a4 v L cl u p' h hp' hu)
        · exact absurd h2' hva
        · rw [h1] at hu; exact a4 v L cl _ u' hq h' (c2 hu)
        · rw [h1']; rw [h1] at hu; exact hu
        · exact absurd h2' hva
        · exact absurd h2 hva
        · exact absurd h2 hva
        · exact absurd h2 hva
      · rintro u u' (h | ⟨h1, h2⟩ | ⟨h1, h2⟩) (h' | ⟨h1', h2'⟩ | ⟨h1', h2'⟩) hu
        · refine a4 v L (fun w hw hLw => ?_) u u' h h' hu
          have := hL w (Or.inl hw) hLw
          rw [cnx_o (fun z => hva z.2) (fun z => hva z.2) (fun z => hvb z.2) (fun z => hvb z.2)] at this; exact this
        · exact absurd h2' hvb
        · exact absurd h2' hva
        · exact absurd h2 hvb
        · exact absurd h2 hvb
        · exact absurd h2 hvb
        · exact absurd h2 hva
        · exact absurd h2 hva
        · exact absurd h2 hva
