/-! a new node in a corner -/
def pnA (A : pa_T) (a t u v : Int) : Prop := A u v ∨ (u = a ∧ v = t) ∨ (u = t ∧ v = a)
def pnx (nx : Int → Int → Int) (p a t u v : Int) : Int := if u = p ∧ v = a then t else if u = t ∧ v = a then nx p a else if u = a ∧ v = t then a else nx u v
theorem pnx_1 {nx : Int → Int → Int} {p a t : Int} : pnx nx p a t p a = t := by unfold pnx; rw [if_pos ⟨rfl, rfl⟩]
theorem pnx_2 {nx : Int → Int → Int} {p a t : Int} (h : t ≠ p) : pnx nx p a t t a = nx p a := by unfold pnx; rw [if_neg (fun e => h e.1), if_pos ⟨rfl, rfl⟩]
theorem pnx_3 {nx : Int → Int → Int} {p a t : Int} (h : t ≠ a) : pnx nx p a t a t = a := by unfold pnx; rw [if_neg (fun e => h e.2), if_neg (fun e => h e.2), if_pos ⟨rfl, rfl⟩]
theorem pnx_o {nx : Int → Int → Int} {p a t u v : Int} (h : ¬ (u = p ∧ v = a)) (h1 : u ≠ t) (h2 : v ≠ t) : pnx nx p a t u v = nx u v := by unfold pnx; rw [if_neg h, if_neg (fun e => h1 e.1), if_neg (fun e => h2 e.2)]
theorem pend_mp {A : pa_T} {nx : Int → Int → Int} {p a t : Int} (m : mp A nx) (hp : A p a) (ht : ∀ u, ¬ A u t) : mp (pnA A a t) (pnx nx p a t) := by
  obtain ⟨⟨hs, hi⟩, a2, a3, a4⟩ := m
  have htu : ∀ u, ¬ A t u := fun u h => ht u (hs _ _ h)
  have hta : t ≠ a := fun e => ht p (e ▸ hp)
  have htp : t ≠ p := fun e => htu a (e ▸ hp)
  have ne1 : ∀ {u v}, A u v → u ≠ t := fun h e => htu _ (e ▸ h)
  have ne2 : ∀ {u v}, A u v → v ≠ t := fun h e => ht _ (e ▸ h)
  refine ⟨⟨?_, ?_⟩, ?_, ?_, ?_⟩
  · rintro u v (h | ⟨h1, h2⟩ | ⟨h1, h2⟩)
    · exact Or.inl (hs _ _ h)
    · exact Or.inr (Or.inr ⟨h2, h1⟩)
    · exact Or.inr (Or.inl ⟨h2, h1⟩)
  · rintro u v (h | ⟨h1, h2⟩ | ⟨h1, h2⟩)
    · exact hi _ _ h
    · rw [h1, h2]; exact fun e => hta e.symm
    · rw [h1, h2]; exact hta
  · rintro u v (h | ⟨h1, h2⟩ | ⟨h1, h2⟩)
    · by_cases q : u = p ∧ v = a
      · rw [q.1, q.2, pnx_1]; exact Or.inr (Or.inl ⟨rfl, rfl⟩)
      · rw [pnx_o q (ne1 h) (ne2 h)]; exact Or.inl (a2 u v h)
    · rw [h1, h2, pnx_3 hta]; exact Or.inr (Or.inr ⟨rfl, rfl⟩)
    · rw [h1, h2, pnx_2 htp]; exact Or.inl (a2 _ _ hp)
  · rintro u u' v (h | ⟨h1, h2⟩ | ⟨h1, h2⟩) (h' | ⟨h1', h2'⟩ | ⟨h1', h2'⟩) e
    · by_cases q : u = p ∧ v = a
      · by_cases q' : u' = p ∧ v = a
        · rw [q.1, q'.1]
        · rw [q.1, q.2, pnx_1] at e
          rw [q.2] at h' q'
          rw [pnx_o q' (ne1 h') (ne2 h')] at e
          exact absurd (e ▸ a2 u' a h') (ht a)
      · by_cases q' : u' = p ∧ v = a
        · rw [q'.1, q'.2, pnx_1] at e
          rw [q'.2] at h q
          rw [pnx_o q (ne1 h) (ne2 h)] at e
          exact absurd (e ▸ a2 u a h) (ht a)
        · rw [pnx_o q (ne1 h) (ne2 h), pnx_o q' (ne1 h') (ne2 h')] at e
          exact a3 u u' v h h' e
    · exact absurd h (h2' ▸ ht u)
    · rw [h1', h2', pnx_2 htp] at e
      rw [h2'] at h
      by_cases q : u = p
      · rw [q, pnx_1] at e; exact absurd (e ▸ a2 p a hp) (ht a)
      · rw [pnx_o (fun z => q z.1) (ne1 h) (ne2 h)] at e
        exact absurd (a3 u p a h hp e) q
    · exact absurd h' (h2 ▸ ht u')
    · rw [h1, h1']
    · exact absurd (h2.symm.trans h2') hta
    · rw [h1, h2, pnx_2 htp] at e
      rw [h2] at h'
      by_cases q : u' = p
      · rw [q, pnx_1] at e; exact absurd (e.symm ▸ a2 p a hp) (ht a)
      · rw [pnx_o (fun z => q z.1) (ne1 h') (ne2 h')] at e
        exact absurd (a3 u' p a h' hp e.symm) q
    · exact absurd (h2'.symm.trans h2) hta
    · rw [h1, h1']
  · intro v L hL
    by_cases hv : v = a
    · subst hv
      have c1 : L p → L t := fun h => by have := hL p (Or.inl hp) h; rw [pnx_1] at this; exact this
      have c2 : L t → L (nx p v) := fun h => by have := hL t (Or.inr (Or.inr ⟨rfl, rfl⟩)) h; rw [pnx_2 htp] at this; exact this
      have cl : ∀ u, A u v → L u → L (nx u v) := fun u h hu => by
        by_cases q : u = p
        · rw [q]; rw [q] at hu; exact c2 (c1 hu)
        · have := hL u (Or.inl h) hu; rw [pnx_o (fun z => q z.1) (ne1 h) (ne2 h)] at this; exact this
      have hq : A (nx p v) v := hs _ _ (a2 _ _ hp)
      rintro u u' (h | ⟨h1, h2⟩ | ⟨h1, h2⟩) (h' | ⟨h1', h2'⟩ | ⟨h1', h2'⟩) hu
      · exact a4 v L cl u u' h h' hu
      · exact absurd h2'.symm hta
      · rw [h1']; exact c1 (a4 v L cl u p h hp hu)
      · exact absurd h2.symm hta
      · exact absurd h2.symm hta
      · exact absurd h2.symm hta
      · rw [h1] at hu; exact a4 v L cl _ u' hq h' (c2 hu)
      · exact absurd h2'.symm hta
      · rw [h1'] ; rw [h1] at hu; exact hu
    · by_cases hv2 : v = t
      · subst hv2
        rintro u u' (h | ⟨h1, h2⟩ | ⟨h1, h2⟩) (h' | ⟨h1', h2'⟩ | ⟨h1', h2'⟩) hu
        · exact absurd h (ht u)
        · exact absurd h (ht u)
        · exact absurd h (ht u)
        · exact absurd h' (ht u')
        · rw [h1']; rw [h1] at hu; exact hu
        · exact absurd h2' hv
        · exact absurd h2 hv
        · exact absurd h2 hv
        · exact absurd h2 hv
      · rintro u u' (h | ⟨h1, h2⟩ | ⟨h1, h2⟩) (h' | ⟨h1', h2'⟩ | ⟨h1', h2'⟩) hu
        · refine a4 v L (fun w hw hLw => ?_) u u' h h' hu
          have := hL w (Or.inl hw) hLw
          rw [pnx_o (fun z => hv z.2) (ne1 hw) hv2] at this; exact this
        · exact absurd h2' hv2
        · exact absurd h2' hv
        · exact absurd h2 hv2
        · exact absurd h2 hv2
        · exact absurd h2 hv2
        · exact absurd h2 hv
        · exact absurd h2 hv
        · exact absurd h2 hv
def prh (ρ : Int → Int → Int → Bool) (a t w x y : Int) : Bool := bif eI a t x y then decide (w = t) else bif decide (w = t) then ρ a x y else ρ w x y
theorem eI_self (u v : Int) : eI u v u v = true := by unfold eI; exact decide_eq_true (Or.inl ⟨rfl, rfl⟩)
theorem eI_self2 (u v : Int) : eI u v v u = true := by unfold eI; exact decide_eq_true (Or.inr ⟨rfl, rfl⟩)
theorem eI_comm (u v x y : Int) : eI u v x y = eI v u x y := by unfold eI; exact decide_eq_decide.mpr ⟨Or.symm, Or.symm⟩
theorem eI_swap (u v x y : Int) : eI u v x y = eI u v y x := by
  unfold eI
  exact decide_eq_decide.mpr ⟨fun h => h.elim (fun h => Or.inr ⟨h.2, h.1⟩) (fun h => Or.inl ⟨h.2, h.1⟩), fun h => h.elim (fun h => Or.inr ⟨h.2, h.1⟩) (fun h => Or.inl ⟨h.2, h.1⟩)⟩
theorem eI_ne {A : pa_T} (h1 : mp1 A) {a t x y : Int} (h : ¬ A a t) (hxy : A x y) : eI a t x y = false := eI_no h1 h hxy
theorem pend_pls {A : pa_T} {nx : Int → Int → Int} {ρ : Int → Int → Int → Bool} {p a t : Int} (m : mp A nx) (hp : A p a) (ht : ∀ u, ¬ A u t) (hl : pls A nx ρ) : pls (pnA A a t) (pnx nx p a t) (prh ρ a t) := by
  obtain ⟨⟨hs, hi⟩, a2, a3, a4⟩ := m
  have htu : ∀ u, ¬ A t u := fun u h => ht u (hs _ _ h)
  have hta : t ≠ a := fun e => ht p (e ▸ hp)
  have htp : t ≠ p := fun e => htu a (e ▸ hp)
  have ne1 : ∀ {u v}, A u v → u ≠ t := fun h e => htu _ (e ▸ h)
  have ne2 : ∀ {u v}, A u v → v ≠ t := fun h e => ht _ (e ▸ h)
  have nat : ¬ A a t := ht a
  have eo : ∀ {x y}, A x y → eI a t x y = false := fun h => eI_no ⟨hs, hi⟩ nat h
  have main : ∀ u v, A u v → ∃ χ, finv (pnA A a t) (pnx nx p a t) χ ∧ ∀ x y, pnA A a t x y → fbd χ x y = ((prh ρ a t u x y ^^ prh ρ a t v x y) ^^ eI u v x y) := by
    intro u v huv
    obtain ⟨χ, hinv, hbd⟩ := hl u v huv
    refine ⟨fun x y => bif eI a t x y then χ p a else χ x y, ?_, ?_⟩
    · rintro x y (h | ⟨h1, h2⟩ | ⟨h1, h2⟩)
      · show (bif eI a t y (pnx nx p a t x y) then χ p a else χ y (pnx nx p a t x y)) = (bif eI a t x y then χ p a else χ x y)
        rw [eo h]
        by_cases q : x = p ∧ y = a
        · rw [q.1, q.2, pnx_1, eI_self]; rfl
        · rw [pnx_o q (ne1 h) (ne2 h), eo (a2 x y h)]; exact hinv x y h
      · subst h1; subst h2
        show (bif eI x y y (pnx nx p x y x y) then χ p x else _) = (bif eI x y x y then χ p x else _)
        rw [pnx_3 hta, eI_self, eI_self2]; rfl
      · subst h1; subst h2
        show (bif eI y x y (pnx nx p y x x y) then χ p y else χ y (pnx nx p y x x y)) = (bif eI y x x y then χ p y else _)
        rw [pnx_2 htp, eI_self2, eo (a2 _ _ hp)]; exact hinv _ _ hp
    · intro x y h
      have e0 : eI a t y x = eI a t x y := (eI_swap a t x y).symm
      unfold fbd prh
      simp only [e0, decide_eq_false (ne1 huv), decide_eq_false (ne2 huv), cond_false]
      rcases h with h | h
      · rw [eo h]; exact hbd x y h
      · have e1 : eI a t x y = true := by
          rcases h with ⟨h1, h2⟩ | ⟨h1, h2⟩
          · rw [h1, h2]; exact eI_self _ _
          · rw [h1, h2]; exact eI_self2 _ _
        have e2 : eI u v x y = false := by
          unfold eI
          refine decide_eq_false (fun z => ?_)
          rcases h with ⟨h1, h2⟩ | ⟨h1, h2⟩ <;> rcases z with ⟨z1, z2⟩ | ⟨z1, z2⟩
          · exact ne2 huv (z2.symm.trans h2)
          · exact ne1 huv (z2.symm.trans h2)
          · exact ne1 huv (z1.symm.trans h1)
          · exact ne2 huv (z1.symm.trans h1)
        rw [e1, e2]; simp
  have edge : ∃ χ, finv (pnA A a t) (pnx nx p a t) χ ∧ ∀ x y, pnA A a t x y → fbd χ x y = ((prh ρ a t a x y ^^ prh ρ a t t x y) ^^ eI a t x y) := by
    refine ⟨fun _ _ => false, fun _ _ _ => rfl, fun x y h => ?_⟩
    unfold fbd prh
    simp only [decide_eq_false (fun e : a = t => hta e.symm), decide_eq_true (rfl : t = t), cond_true, cond_false]
    generalize ρ a x y = r
    generalize eI a t x y = r2
    cases r <;> cases r2 <;> simp
  rintro u v (h | ⟨h1, h2⟩ | ⟨h1, h2⟩)
  · exact main u v h
  · rw [h1, h2]; exact edge
  · rw [h1, h2]
    obtain ⟨χ, i1, i2⟩ := edge
    refine ⟨χ, i1, fun x y h => ?_⟩
    rw [i2 x y h, eI_comm t a, Bool.xor_comm (prh ρ a t t x y)]
