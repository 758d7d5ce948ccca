/-! graphs: J e u v: the edge e joins u and v -/
abbrev pj_T : Type := Int → Int → Int → Prop
/-- y is in every set that holds x and is closed under the steps R -/
def rc (R : Int → Int → Prop) (x y : Int) : Prop := ∀ L : Int → Prop, (∀ a b, R a b → L a → L b) → L x → L y
theorem rc_refl (R : Int → Int → Prop) (x : Int) : rc R x x := fun _ _ h => h
theorem rc_trans {R : Int → Int → Prop} {x y z : Int} (h : rc R x y) (g : rc R y z) : rc R x z := fun L hL hx => g L hL (h L hL hx)
theorem rc_step {R : Int → Int → Prop} {x y : Int} (h : R x y) : rc R x y := fun _ hL hx => hL x y h hx
theorem rc_mono {R Q : Int → Int → Prop} (m : ∀ a b, R a b → Q a b) {x y : Int} (h : rc R x y) : rc Q x y := fun L hL hx => h L (fun a b r => hL a b (m a b r)) hx
theorem rc_symm {R : Int → Int → Prop} (s : ∀ a b, R a b → R b a) {x y : Int} (h : rc R x y) : rc R y x := by
  intro L hL hy
  exact h (fun z => rc R z x) (fun a b r g => rc_trans (rc_step (s a b r)) g) (rc_refl R x) L hL hy
/-- what every step out of x's closure keeps -/
theorem rc_ind {R : Int → Int → Prop} {x y : Int} (h : rc R x y) {L : Int → Prop} (h0 : L x) (h1 : ∀ a b, rc R x a → R a b → L a → L b) : L y :=
  (h (fun z => rc R x z ∧ L z) (fun a b r g => ⟨rc_trans g.1 (rc_step r), h1 a b g.1 r g.2⟩) ⟨rc_refl R x, h0⟩).2
/-- steps along edges that avoid v -/
def sv (J : pj_T) (v : Int) (a b : Int) : Prop := (∃ e, J e a b) ∧ a ≠ v ∧ b ≠ v
def cnA (J : pj_T) (v x y : Int) : Prop := rc (sv J v) x y
def jsym (J : pj_T) : Prop := ∀ e u v, J e u v → J e v u
theorem sv_sym {J : pj_T} (hs : jsym J) (v a b : Int) (h : sv J v a b) : sv J v b a := by
  obtain ⟨⟨e, h1⟩, h2, h3⟩ := h
  exact ⟨⟨e, hs e a b h1⟩, h3, h2⟩
/-- two edges at v whose other ends hang together without v -/
def dir (J : pj_T) (e f : Int) : Prop := ∃ v x y, J e v x ∧ J f v y ∧ cnA J v x y
/-- bl numbers the blocks: same for edges that hang together so, and no more than that -/
def isBl (J : pj_T) (bl : Int → Int) : Prop := (∀ e f, dir J e f → bl e = bl f) ∧ ∀ c : Int → Prop, (∀ e f, dir J e f → c e → c f) → ∀ e f, (∃ u v, J e u v) → (∃ u v, J f u v) → bl e = bl f → c e → c f
/-- an edge of the block leaves a set that hangs together: out of w, by steps of the block R that avoid v, where the graph without v leads from w to x outside -/
theorem exit_lem {J : pj_T} {bl : Int → Int} (hs : jsym J) (hB : isBl J bl) {v w x e f : Int} {R : Int → Int → Prop} (he : J e v w) (hf : J f v x) (hvw : w ≠ v) (hvx : x ≠ v) (hR : ∀ a b, R a b → b ≠ v ∧ ∃ h, J h a b ∧ bl h = bl e) (hc : cnA J v w x) (hx : ¬ rc R w x) : ∃ g s y, J g s y ∧ bl g = bl e ∧ rc R w s ∧ ¬ rc R w y ∧ y ≠ v := by
  have hSv : ∀ s, rc R w s → s ≠ v := fun s hs' => rc_ind hs' hvw (fun a b _ r _ => (hR a b r).1)
  -- what leads to x outside
  let Q : Int → Prop := fun q => rc (fun a b => sv J v a b ∧ ¬ rc R w a ∧ ¬ rc R w b) x q
  have hQS : ∀ q, Q q → ¬ rc R w q := fun q hq => rc_ind hq hx (fun a b _ r _ => r.2.2)
  have hQv : ∀ q, Q q → q ≠ v := fun q hq => rc_ind hq hvx (fun a b _ r _ => r.1.2.2)
  have hout : ∃ g a b, J g a b ∧ a ≠ v ∧ b ≠ v ∧ ¬ Q a ∧ Q b := by
    apply Classical.byContradiction
    intro hn
    have hcl : ∀ a b, sv J v a b → ¬ Q a → ¬ Q b := by
      intro a b hab ha hb
      obtain ⟨⟨g, hg⟩, h2, h3⟩ := hab
      exact hn ⟨g, a, b, hg, h2, h3, ha, hb⟩
    exact hc (fun q => ¬ Q q) hcl (fun hq => hQS w hq (rc_refl R w)) (rc_refl _ x)
  obtain ⟨g, s, y, hg, hsv, hyv, hsQ, hyQ⟩ := hout
  have hsS : rc R w s := by
    apply Classical.byContradiction
    intro hn
    exact hsQ (rc_trans hyQ (rc_step ⟨⟨⟨g, hs g s y hg⟩, hyv, hsv⟩, hQS y hyQ, hn⟩))
  refine ⟨g, s, y, hg, ?_, hsS, hQS y hyQ, hyv⟩
  have hsx : x ≠ s := fun h => hx (h ▸ hsS)
  -- y to x without s
  have c1 : cnA J s y x := by
    refine rc_symm (sv_sym hs s) ?_
    exact rc_mono (fun a b r => ⟨r.1.1, fun h => r.2.1 (h ▸ hsS), fun h => r.2.2 (h ▸ hsS)⟩) hyQ
  have c2 : cnA J s x v := rc_step ⟨⟨f, hs f v x hf⟩, hsx, fun h => hsv h.symm⟩
  by_cases hw : s = w
  · subst hw
    exact hB.1 g e ⟨s, y, v, hg, hs e v s he, rc_trans c1 c2⟩
  · have c3 : cnA J s v w := rc_step ⟨⟨e, he⟩, fun h => hsv h.symm, fun h => hw h.symm⟩
    -- the last step to s comes from what is reached without s
    have hlast : ∃ h s', J h s s' ∧ bl h = bl e ∧ rc (fun a b => R a b ∧ a ≠ s ∧ b ≠ s) w s' ∧ s' ≠ s := by
      apply Classical.byContradiction
      intro hn
      have hcl : ∀ a b, R a b → (rc (fun a b => R a b ∧ a ≠ s ∧ b ≠ s) w a ∧ a ≠ s) → (rc (fun a b => R a b ∧ a ≠ s ∧ b ≠ s) w b ∧ b ≠ s) := by
        intro a b r ha
        obtain ⟨hbv, h, hh, hb⟩ := hR a b r
        by_cases e1 : b = s
        · subst e1
          exact absurd ⟨h, a, hs h a b hh, hb, ha.1, ha.2⟩ hn
        · exact ⟨rc_trans ha.1 (rc_step ⟨r, ha.2, e1⟩), e1⟩
      exact (hsS _ hcl ⟨rc_refl _ w, fun h => hw h.symm⟩).2 rfl
    obtain ⟨h, s', hh, hb, hr, hne⟩ := hlast
    have c4 : cnA J s w s' := rc_mono (fun a b r => by obtain ⟨_, q, hq, _⟩ := hR a b r.1; exact ⟨⟨q, hq⟩, r.2.1, r.2.2⟩) hr
    rw [← hb]
    exact hB.1 g h ⟨s, y, s', hg, hh, rc_trans (rc_trans c1 c2) (rc_trans c3 c4)⟩
