def juni (J : pj_T) : Prop := ∀ e u v u' v', J e u v → J e u' v' → (u' = u ∧ v' = v) ∨ (u' = v ∧ v' = u)
def jirr (J : pj_T) : Prop := ∀ e u v, J e u v → u ≠ v
theorem not_closed {c : Int → Prop} {J : pj_T} {bl : Int → Int} (hB : isBl J bl) {e1 f1 : Int} (h1 : ∃ u v, J e1 u v) (h2 : ∃ u v, J f1 u v) (hb : bl e1 = bl f1) (hc : c e1) (hn : ¬ c f1) : ∃ e f v x y, c e ∧ ¬ c f ∧ J e v x ∧ J f v y ∧ cnA J v x y := by
  apply Classical.byContradiction
  intro h
  refine hn (hB.2 c (fun e f hd he => ?_) e1 f1 h1 h2 hb hc)
  apply Classical.byContradiction
  intro hf
  obtain ⟨v, x, y, a, b, d⟩ := hd
  exact h ⟨e, f, v, x, y, he, hf, a, b, d⟩
/-- a block of two edges and more has a ring through each: its ends hang together without it -/
theorem ring_lem {J : pj_T} {bl : Int → Int} (hs : jsym J) (hu : juni J) (hi : jirr J) (hB : isBl J bl) {e0 f0 t h : Int} (h0 : J e0 t h) (h1 : ∃ u v, J f0 u v) (hne : f0 ≠ e0) (hb : bl e0 = bl f0) : rc (fun a b => ∃ g, J g a b ∧ bl g = bl e0 ∧ g ≠ e0) h t := by
  obtain ⟨e, f, v, x, y, he, hf, a, b, d⟩ := not_closed (c := fun e => e = e0) hB ⟨t, h, h0⟩ h1 hb rfl hne
  subst he
  have hbf : bl e = bl f := hB.1 e f ⟨v, x, y, a, b, d⟩
  have hsy : ∀ p q, (∃ g, J g p q ∧ bl g = bl e ∧ g ≠ e) → ∃ g, J g q p ∧ bl g = bl e ∧ g ≠ e := fun p q ⟨g, g1, g2, g3⟩ => ⟨g, hs g p q g1, g2, g3⟩
  have key : rc (fun a b => ∃ g, J g a b ∧ bl g = bl e ∧ g ≠ e) x v := by
    have hxy : rc (fun p q => q ≠ v ∧ p ≠ v ∧ ∃ h, J h p q ∧ bl h = bl e) x y := by
      apply Classical.byContradiction
      intro hn
      obtain ⟨g, s, z, g1, g2, g3, g4, g5⟩ := exit_lem (R := fun p q => q ≠ v ∧ p ≠ v ∧ ∃ h, J h p q ∧ bl h = bl e) hs hB a b (fun h => hi e v x a h.symm) (fun h => hi f v y b h.symm) (fun p q r => ⟨r.1, r.2.2⟩) d hn
      have hsv : s ≠ v := rc_ind g3 (fun h => hi e v x a h.symm) (fun p q _ r _ => r.1)
      exact g4 (rc_trans g3 (rc_step ⟨g5, hsv, g, g1, g2⟩))
    refine rc_trans (rc_mono (fun p q r => ?_) hxy) (rc_step ⟨f, hs f v y b, hbf.symm, hf⟩)
    obtain ⟨r1, r2, g, g1, g2⟩ := r
    refine ⟨g, g1, g2, fun hge => ?_⟩
    subst hge
    rcases hu g v x p q a g1 with ⟨z1, z2⟩ | ⟨z1, z2⟩
    · exact r2 z1
    · exact r1 z2
  rcases hu e v x t h a h0 with ⟨z1, z2⟩ | ⟨z1, z2⟩
  · rw [z1, z2]; exact key
  · rw [z1, z2]; exact rc_symm hsy key
/-- a piece of a block: the edges not drawn of one number; a piece has two ends -/
theorem two_ends {J : pj_T} {bl pc : Int → Int} {D dE : Int → Prop} (hs : jsym J) (hi : jirr J) (hB : isBl J bl)
    (hD : ∀ e u v, J e u v → dE e → D u ∧ D v) (hP : ∀ e f u v w, J e u v → J f u w → ¬ dE e → ¬ dE f → bl e = bl f → ¬ D u → pc e = pc f)
    {e1 f1 : Int} (h1 : ∃ u v, J e1 u v) (h2 : ∃ u v, J f1 u v) (hb : bl e1 = bl f1) (hn1 : ¬ dE e1) (hd1 : dE f1) :
    ∃ v y g k p q, v ≠ y ∧ D v ∧ D y ∧ J g v p ∧ J k y q ∧ bl g = bl e1 ∧ bl k = bl e1 ∧ ¬ dE g ∧ ¬ dE k ∧ pc g = pc e1 ∧ pc k = pc e1 := by
  obtain ⟨e, f, v, w, x, ⟨c1, c2, c3⟩, hf, a, b, d⟩ := not_closed (c := fun e => bl e = bl e1 ∧ ¬ dE e ∧ pc e = pc e1) hB h1 h2 hb ⟨rfl, hn1, rfl⟩ (fun h => h.2.1 hd1)
  have hbf : bl f = bl e1 := by rw [← c1]; exact (hB.1 e f ⟨v, w, x, a, b, d⟩).symm
  have hvD : D v := by
    apply Classical.byContradiction
    intro hn
    have hfn : ¬ dE f := fun h => hn (hD f v x b h).1
    exact hf ⟨hbf, hfn, by rw [← c3]; exact (hP e f v w x a b c2 hfn (by rw [c1, hbf]) hn).symm⟩
  by_cases hw : D w
  · exact ⟨v, w, e, e, w, v, hi e v w a, hvD, hw, a, hs e v w a, c1, c1, c2, c2, c3, c3⟩
  · let R : Int → Int → Prop := fun p q => ¬ D q ∧ ∃ h, J h p q ∧ bl h = bl e
    have hnew : ∀ s, rc R w s → ¬ D s := fun s h => rc_ind h hw (fun p q _ r _ => r.1)
    have hpc : ∀ s, rc R w s → ∀ g u, J g s u → bl g = bl e1 → ¬ dE g ∧ pc g = pc e1 := by
      intro s hS
      refine rc_ind (L := fun s => ∀ g u, J g s u → bl g = bl e1 → ¬ dE g ∧ pc g = pc e1) hS ?_ ?_
      · intro g u g1 g2
        have g3 : ¬ dE g := fun h => hw (hD g w u g1 h).1
        exact ⟨g3, by rw [← c3]; exact (hP e g w v u (hs e v w a) g1 c2 g3 (by rw [c1, g2]) hw).symm⟩
      · intro p q hp r ih g u g1 g2
        obtain ⟨r1, k, k1, k2⟩ := r
        have g3 : ¬ dE g := fun h => r1 (hD g q u g1 h).1
        obtain ⟨i1, i2⟩ := ih k q k1 (by rw [k2, c1])
        exact ⟨g3, by rw [← i2]; exact (hP k g q p u (hs k p q k1) g1 i1 g3 (by rw [k2, c1, g2]) r1).symm⟩
    have hxS : ¬ rc R w x := fun hx => by
      obtain ⟨i1, i2⟩ := hpc x hx f v (hs f v x b) hbf
      exact hf ⟨hbf, i1, i2⟩
    obtain ⟨g, s, y, g1, g2, g3, g4, g5⟩ := exit_lem (R := R) hs hB a b (fun h => hi e v w a h.symm) (fun h => hi f v x b h.symm) (fun p q r => ⟨fun h => r.1 (h ▸ hvD), r.2⟩) d hxS
    have hyD : D y := by
      apply Classical.byContradiction
      intro hn
      exact g4 (rc_trans g3 (rc_step ⟨hn, g, g1, g2⟩))
    obtain ⟨i1, i2⟩ := hpc s g3 g y g1 (by rw [g2, c1])
    exact ⟨v, y, e, g, w, s, fun h => g5 h.symm, hvD, hyD, a, hs g s y g1, c1, by rw [g2, c1], c2, i1, c3, i2⟩
/-- two ends of a piece hang together over new nodes: a set that holds the one and is closed backwards holds the other -/
theorem piece_way {J : pj_T} {pc : Int → Int} {D U : Int → Prop} (hs : jsym J) (hu : juni J) {p : Int} (hP : ∀ e f u v w, J e u v → J f u w → U e → U f → ¬ D u → pc e = pc f)
    (hG : ∀ c : Int → Prop, (∀ e f u v w, J e u v → J f u w → U e → U f → ¬ D u → c e → c f) → ∀ e f, U e → U f → pc e = pc f → c e → c f)
    {a b ea eb za zb : Int} (hab : a ≠ b) (ha : D a) (hb : D b) (h1 : J ea a za) (h2 : J eb b zb) (u1 : U ea) (u2 : U eb) (p1 : pc ea = p) (p2 : pc eb = p)
    {L : Int → Prop} (hL : ∀ i j h, J h i j → U h → pc h = p → (i = a ∨ ¬ D i) → (j = b ∨ ¬ D j) → L j → L i) (h0 : L b) : L a := by
  by_cases hz : D zb
  · -- an edge between drawn nodes is a piece of its own
    have e1 : ea = eb := by
      refine hG (fun e => e = eb) (fun e f u v w g1 g2 _ _ hn hc => ?_) eb ea u2 u1 (by rw [p1, p2]) rfl
      subst hc
      rcases hu e b zb u v h2 g1 with ⟨z1, _⟩ | ⟨z1, _⟩
      · exact absurd (z1 ▸ hb) hn
      · exact absurd (z1 ▸ hz) hn
    subst e1
    rcases hu ea b zb a za h2 h1 with ⟨z1, _⟩ | ⟨z1, z2⟩
    · exact absurd z1 hab
    · rw [z2] at h1
      exact hL a b ea h1 u1 p1 (Or.inl rfl) (Or.inl rfl) h0
  · have hc : ¬ D za ∧ ∀ u v, J ea u v → ¬ D u → L u := by
      have := hG (fun e => pc e = p ∧ (∃ u v, J e u v ∧ ¬ D u) ∧ ∀ u v, J e u v → ¬ D u → L u) (fun e f u v w g1 g2 ue uf hn hc => ?_) eb ea u2 u1 (by rw [p1, p2]) ⟨p2, ⟨zb, b, hs eb b zb h2, hz⟩, fun u v g hn => ?_⟩
      · obtain ⟨_, ⟨u, v, g, hn⟩, h3⟩ := this
        refine ⟨fun hz' => ?_, h3⟩
        rcases hu ea a za u v h1 g with ⟨z1, _⟩ | ⟨z1, _⟩
        · exact hn (z1 ▸ ha)
        · exact hn (z1 ▸ hz')
      · obtain ⟨q1, q2, q3⟩ := hc
        have hLu : L u := q3 u v g1 hn
        have hpf : pc f = p := by rw [← hP e f u v w g1 g2 ue uf hn]; exact q1
        refine ⟨hpf, ⟨u, w, g2, hn⟩, fun u' v' g hn' => ?_⟩
        rcases hu f u w u' v' g2 g with ⟨z1, z2⟩ | ⟨z1, z2⟩
        · rw [z1]; exact hLu
        · subst z1; subst z2
          exact hL u' v' f g uf hpf (Or.inr hn') (Or.inr hn) hLu
      · rcases hu eb b zb u v h2 g with ⟨z1, _⟩ | ⟨z1, z2⟩
        · exact absurd (z1 ▸ hb) hn
        · subst z1; subst z2
          exact hL u v eb g u2 p2 (Or.inr hn) (Or.inl rfl) h0
    exact hL a za ea h1 u1 p1 (Or.inl rfl) (Or.inr hc.1) (hc.2 za a (hs ea a za h1) hc.1)
/-- an ear: where all edges are of one block, an edge lies among the drawn nodes and a new node has an edge, a way leads over new nodes from one drawn node to another -/
theorem ear_lem {J : pj_T} {bl : Int → Int} {D : Int → Prop} (hs : jsym J) (hu : juni J) (hi : jirr J) (hB : isBl J bl) (hone : ∀ e f u v u' v', J e u v → J f u' v' → bl e = bl f)
    {f1 t h e1 z z' : Int} (h1 : J f1 t h) (ht : D t) (hh : D h) (h2 : J e1 z z') (hz : ¬ D z) :
    ∃ a b, a ≠ b ∧ D a ∧ D b ∧ ∀ L : Int → Prop, (∀ i j k, J k i j → ¬ (D i ∧ D j) → (i = a ∨ ¬ D i) → (j = b ∨ ¬ D j) → L j → L i) → L b → L a := by
  have hn1 : ¬ ∃ u v, J f1 u v ∧ ¬ D u := fun ⟨u, u', k1, k2⟩ => by
    rcases hu f1 t h u u' h1 k1 with ⟨z1, _⟩ | ⟨z1, _⟩
    · exact k2 (z1 ▸ ht)
    · exact k2 (z1 ▸ hh)
  obtain ⟨e, f, v, w, x, ⟨u, u', k1, k2⟩, hf, a, b, d⟩ := not_closed (c := fun e => ∃ u v, J e u v ∧ ¬ D u) hB ⟨z, z', h2⟩ ⟨t, h, h1⟩ (hone e1 f1 z z' t h h2 h1) ⟨z, z', h2, hz⟩ hn1
  have hv : D v := Classical.byContradiction (fun h => hf ⟨v, x, b, h⟩)
  have hx : D x := Classical.byContradiction (fun h => hf ⟨x, v, hs f v x b, h⟩)
  have hw : ¬ D w := by
    rcases hu e v w u u' a k1 with ⟨z1, _⟩ | ⟨z1, _⟩
    · exact absurd (z1 ▸ hv) k2
    · exact z1 ▸ k2
  let R : Int → Int → Prop := fun p q => ¬ D q ∧ ∃ h, J h p q ∧ bl h = bl e
  have hnew : ∀ s, rc R w s → ¬ D s := fun s h => rc_ind h hw (fun p q _ r _ => r.1)
  obtain ⟨g, s, y, g1, g2, g3, g4, g5⟩ := exit_lem (R := R) hs hB a b (fun h => hi e v w a h.symm) (fun h => hi f v x b h.symm) (fun p q r => ⟨fun h => r.1 (h ▸ hv), r.2⟩) d (fun h => hnew x h hx)
  have hyD : D y := Classical.byContradiction (fun hn => g4 (rc_trans g3 (rc_step ⟨hn, g, g1, g2⟩)))
  refine ⟨v, y, fun h => g5 h.symm, hv, hyD, fun L hL h0 => ?_⟩
  have hsn := hnew s g3
  have hLs : L s := hL s y g g1 (fun h => hsn h.1) (Or.inr hsn) (Or.inl rfl) h0
  -- back from s to w
  have hback : L w := by
    have : L s → L w := rc_ind (L := fun s => L s → L w) g3 id (fun p q hp r ih hq => by
      obtain ⟨r1, k, q1, q2⟩ := r
      exact ih (hL p q k q1 (fun h => r1 h.2) (Or.inr (hnew p hp)) (Or.inr r1) hq))
    exact this hLs
  exact hL v w e a (fun h => hw h.2) (Or.inl rfl) (Or.inr hw) hback
