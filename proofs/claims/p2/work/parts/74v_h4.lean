/-! reveal's loops, canonical, mayLeave -/
def RS1 (n m upper : Int) (pt ph al rm rot left U order row : Int → Int) (p many at' on k q : Int) : Prop := ∃ U0, RVE n m upper pt ph al rm rot left U0 order row p many at' on k ∧ many = 2 ∧ (p + 1 ≤ q ∧ q ≤ upper) ∧ (∀ t, 0 ≤ t → t < p → U t = U0 t) ∧ (∀ t, p ≤ t → t < q - 1 → U t = U0 (t + 1)) ∧ ∀ t, q - 1 ≤ t → t < upper → U t = U0 t
def RS2 (n m upper : Int) (pt ph al rm rot left U order row : Int → Int) (p many at' on k q : Int) : Prop := ∃ U0, RVE n m upper pt ph al rm rot left U0 order row p many at' on k ∧ 3 ≤ many ∧ (p ≤ q ∧ q ≤ upper - 1) ∧ (∀ t, 0 ≤ t → t ≤ q → U t = U0 t) ∧ ∀ t, q < t → t < upper → U (t - 1 + (many - 2)) = U0 t
def RS3 (n m upper : Int) (pt ph al rm rot left U order row : Int → Int) (p many at' on k i : Int) : Prop := ∃ U0 up0, upper = up0 - 3 + many ∧ RVE n m up0 pt ph al rm rot left U0 order row p many at' on k ∧ (∀ t, 0 ≤ t → t < p → U t = U0 t) ∧ (∀ t, p < t → t < up0 → U (t - 1 + (many - 2)) = U0 t) ∧ (∀ j, 1 ≤ j → j < i → U (p - 1 + j) = yv row many at' on j) ∧ 1 ≤ i ∧ i ≤ many - 1
def CNZ (n m upper : Int) (pt ph al rm rot left U order : Int → Int) (k : Int) : Prop := CNX n m upper pt ph al rm rot left U order (k - 1)
theorem rs1_start {n m upper p many at' on k q : Int} {pt ph al rm rot left U order row : Int → Int} (h : RVE n m upper pt ph al rm rot left U order row p many at' on k) (hm : many = 2) (hq : q = p + 1) : RS1 n m upper pt ph al rm rot left U order row p many at' on k q :=
  ⟨U, h, hm, by have := h.2.1; omega, fun _ _ _ => rfl, fun t a b => by omega, fun _ _ _ => rfl⟩
theorem rs1_len {n m upper p many at' on k q : Int} {pt ph al rm rot left U order row : Int → Int} (h : RS1 n m upper pt ph al rm rot left U order row p many at' on k q) : 1 ≤ p ∧ p + 1 < upper ∧ upper ≤ 24 ∧ p + 1 ≤ q ∧ q ≤ upper ∧ many = 2 := by
  obtain ⟨U0, h1, h2, h3, _⟩ := h
  have := h1.2.1
  omega
theorem rs1_step {n m upper p many at' on k q q' s v r : Int} {pt ph al rm rot left U U' order row : Int → Int} (h : RS1 n m upper pt ph al rm rot left U order row p many at' on k q) (hq : q' = q + 1) (q1 : q < upper) (hs : st1 U U' s v) (hss : s = q - 1) (hv : v = U r) (hr : r = q) : RS1 n m upper pt ph al rm rot left U' order row p many at' on k q' := by
  obtain ⟨U0, h1, h2, h3, h4, h5, h6⟩ := h
  have b := h1.2.1
  have hv' : v = U0 q := by rw [hv, hr]; exact h6 q (by omega) q1
  refine ⟨U0, h1, h2, by omega, fun t a c => by rw [(hs t a).2 (by omega)]; exact h4 t a c, fun t a c => ?_, fun t a c => by rw [(hs t (by omega)).2 (by omega)]; exact h6 t (by omega) c⟩
  by_cases z : t = q - 1
  · rw [z, (hs _ (by omega)).1 hss.symm, hv', show q - 1 + 1 = q by omega]
  · rw [(hs t (by omega)).2 (by omega)]; exact h5 t a (by omega)
theorem rs2_start {n m upper p many at' on k q : Int} {pt ph al rm rot left U order row : Int → Int} (h : RVE n m upper pt ph al rm rot left U order row p many at' on k) (hm : many ≠ 2) (hq : q = upper - 1) : RS2 n m upper pt ph al rm rot left U order row p many at' on k q :=
  ⟨U, h, by have := h.1; omega, by have := h.2.1; omega, fun _ _ _ => rfl, fun t a b => by omega⟩
theorem rs2_len {n m upper p many at' on k q : Int} {pt ph al rm rot left U order row : Int → Int} (h : RS2 n m upper pt ph al rm rot left U order row p many at' on k q) : 1 ≤ p ∧ p ≤ q ∧ q ≤ upper - 1 ∧ upper ≤ 24 ∧ 3 ≤ many ∧ upper + many ≤ 27 := by
  obtain ⟨U0, h1, h2, h3, _⟩ := h
  have := h1.2.1
  omega
theorem rs2_step {n m upper p many at' on k q q' s v r : Int} {pt ph al rm rot left U U' order row : Int → Int} (h : RS2 n m upper pt ph al rm rot left U order row p many at' on k q) (hq : q' = q - 1) (q1 : p < q) (hs : st1 U U' s v) (hss : s = q - 1 + (many - 2)) (hv : v = U r) (hr : r = q) : RS2 n m upper pt ph al rm rot left U' order row p many at' on k q' := by
  obtain ⟨U0, h1, h2, h3, h4, h5⟩ := h
  have b := h1.2.1
  have hv' : v = U0 q := by rw [hv, hr]; exact h4 q (by omega) (by omega)
  refine ⟨U0, h1, h2, by omega, fun t a c => by rw [(hs t a).2 (by omega)]; exact h4 t a (by omega), fun t a c => ?_⟩
  by_cases z : t = q
  · rw [z, (hs _ (by omega)).1 (by omega), hv']
  · rw [(hs _ (by omega)).2 (by omega)]; exact h5 t (by omega) c
theorem rs3_1 {n m upper upper' p many at' on k q i : Int} {pt ph al rm rot left U order row : Int → Int} (h : RS1 n m upper pt ph al rm rot left U order row p many at' on k q) (hq : upper ≤ q) (hu : upper' = upper + (many - 2 - 1)) (hi : i = 1) : RS3 n m upper' pt ph al rm rot left U order row p many at' on k i := by
  obtain ⟨U0, h1, h2, h3, h4, h5, h6⟩ := h
  refine ⟨U0, upper, by omega, h1, h4, fun t a b => ?_, fun j a b => by omega, by omega, by omega⟩
  rw [h2, show t - 1 + (2 - 2) = t - 1 by omega, h5 (t - 1) (by omega) (by omega), show t - 1 + 1 = t by omega]
theorem rs3_2 {n m upper upper' p many at' on k q i : Int} {pt ph al rm rot left U order row : Int → Int} (h : RS2 n m upper pt ph al rm rot left U order row p many at' on k q) (hq : q ≤ p) (hu : upper' = upper + (many - 2 - 1)) (hi : i = 1) : RS3 n m upper' pt ph al rm rot left U order row p many at' on k i := by
  obtain ⟨U0, h1, h2, h3, h4, h5⟩ := h
  exact ⟨U0, upper, by omega, h1, fun t a b => h4 t a (by omega), fun t a b => h5 t (by omega) b, fun j a b => by omega, by omega, by omega⟩
theorem rs3_len {n m upper p many at' on k i : Int} {pt ph al rm rot left U order row : Int → Int} (h : RS3 n m upper pt ph al rm rot left U order row p many at' on k i) : (1 ≤ p ∧ p + many ≤ upper + 1 ∧ upper ≤ 24) ∧ (2 ≤ many ∧ many ≤ 24) ∧ (0 ≤ at' ∧ at' < many) ∧ 1 ≤ i ∧ i ≤ many - 1 := by
  obtain ⟨U0, up0, h1, h2, _, _, _, h6, h7⟩ := h
  have := h2.1
  have := h2.2.1
  omega
theorem rs3_row {n m upper p many at' on k i t : Int} {pt ph al rm rot left U order row : Int → Int} (h : RS3 n m upper pt ph al rm rot left U order row p many at' on k i) (t0 : 0 ≤ t) (t1 : t < many) : 0 ≤ row t ∧ row t < n := by
  obtain ⟨U0, up0, h1, h2, _⟩ := h
  exact h2.2.2.1 t t0 t1
theorem rs3_step {n m upper p many at' on k i i' s v r : Int} {pt ph al rm rot left U U' order row : Int → Int} (h : RS3 n m upper pt ph al rm rot left U order row p many at' on k i) (hi : i' = i + 1) (i1 : i ≤ many - 2) (hs : st1 U U' s v) (hss : s = p - 1 + i) (hv : v = row r) (hr : r = wr many (if on ≠ 0 then at' + i else at' - i)) : RS3 n m upper pt ph al rm rot left U' order row p many at' on k i' := by
  obtain ⟨U0, up0, h1, h2, h3, h4, h5, h6, h7⟩ := h
  have b := h2.2.1
  refine ⟨U0, up0, h1, h2, fun t a c => by rw [(hs t a).2 (by omega)]; exact h3 t a c, fun t a c => by rw [(hs _ (by omega)).2 (by omega)]; exact h4 t a c, fun j a c => ?_, by omega, by omega⟩
  by_cases z : j = i
  · rw [z, (hs _ (by omega)).1 hss.symm, hv, hr]; rfl
  · rw [(hs _ (by omega)).2 (by omega)]; exact h5 j a (by omega)
theorem rs3_end {n m upper p many at' on k i : Int} {pt ph al rm rot left U order row : Int → Int} (h : RS3 n m upper pt ph al rm rot left U order row p many at' on k i) (hi : many - 2 < i) : CNZ n m upper pt ph al rm rot left U order k := by
  obtain ⟨U0, up0, h1, h2, h3, h4, h5, h6, h7⟩ := h
  have b := h2.2.1
  unfold CNZ
  rw [h1]
  refine h2.2.2.2.2 U (fun t t0 t1 => ?_)
  by_cases c1 : t < p
  · rw [nU_lt c1]; exact h3 t t0 c1
  · by_cases c2 : t < p + (many - 2)
    · rw [nU_mid (by omega) c2]
      have := h5 (t - p + 1) (by omega) (by omega)
      rw [show p - 1 + (t - p + 1) = t by omega] at this; exact this
    · rw [nU_ge (by omega) (by omega)]
      have := h4 (t - (many - 2) + 1) (by omega) (by omega)
      rw [show t - (many - 2) + 1 - 1 + (many - 2) = t by omega] at this; exact this
/-! mayLeave -/
def MLV (m upper : Int) (pt ph al U : Int → Int) (p z : Int) : Prop := z ≠ 0 ↔ nch m upper pt ph al U p
def ML1 (m : Int) (pt ph al U : Int → Int) (p q : Int) : Prop := ∀ t, 0 ≤ t → t < q → t ≠ p → t ≠ p - 1 → t ≠ p + 1 → ¬ jA m pt ph al (U p) (U t)
theorem ml1_next {m p q q' x y r : Int} {pt ph al U : Int → Int} (h : ML1 m pt ph al U p q) (hq : q' = q + 1) (hc : q = p ∨ q = p - 1 ∨ q = p + 1 ∨ (EOF m pt ph al x y r ∧ r < 0 ∧ x = U p ∧ y = U q)) : ML1 m pt ph al U p q' := by
  intro t t0 t1 a b c
  by_cases z : t = q
  · rcases hc with w | w | w | ⟨w1, w2, w3, w4⟩
    · omega
    · omega
    · omega
    · rw [z, ← w3, ← w4]
      rcases w1 with ⟨_, v⟩ | v
      · exact fun ⟨e, j⟩ => v e j
      · have := v.1; omega
  · exact h t t0 (by omega) a b c
theorem mlv_no {m upper p q x y r z : Int} {pt ph al U : Int → Int} (q0 : 0 ≤ q) (q1 : q < upper) (a : q ≠ p) (b : q ≠ p - 1) (c : q ≠ p + 1) (he : EOF m pt ph al x y r) (hr : 0 ≤ r) (hx : x = U p) (hy : y = U q) (hz : z = 0) : MLV m upper pt ph al U p z := by
  refine ⟨fun w => absurd hz w, fun w => ?_⟩
  rcases he with ⟨v, _⟩ | v
  · omega
  · rw [hx, hy] at v; exact absurd ⟨_, v⟩ (w q q0 q1 a b c)
/-! canonical: who leaves -/
def CPK (n m upper : Int) (pt ph al rm rot left U order : Int → Int) (k place p : Int) : Prop := CNS n m upper pt ph al rm rot left U order k ∧ ((place = -1 ∧ ∀ q, 1 ≤ q → q < p → ¬ nch m upper pt ph al U q) ∨ (1 ≤ place ∧ place + 1 < upper ∧ nch m upper pt ph al U place))
theorem cpk_end {n m upper k place p : Int} {pt ph al rm rot left U order : Int → Int} (h : CPK n m upper pt ph al rm rot left U order k place p) (hp : upper ≤ p + 1) : (1 ≤ place ∧ place + 1 < upper ∧ nch m upper pt ph al U place) ∧ upper ≤ 24 ∧ (0 ≤ U place ∧ U place < n) ∧ n ≤ 24 ∧ 2 ≤ k ∧ k < n := by
  obtain ⟨hS, h2⟩ := h
  have hl := cns_line hS
  have hb := hS.1.2.2.2
  have hk := hS.2.1
  have key : 1 ≤ place ∧ place + 1 < upper ∧ nch m upper pt ph al U place := by
    rcases h2 with ⟨_, w⟩ | w
    · obtain ⟨q, q0, q1, q2⟩ := cns_ex hS
      exact absurd q2 (w q q0 (by omega))
    · exact w
  exact ⟨key, hl.1.2, hl.2 place (by omega) (by omega), by omega, hk.1, hk.2⟩
theorem rvp_of {n m upper k place p x s v q w : Int} {pt ph al rm rot left left' U order order' : Int → Int} (h : CPK n m upper pt ph al rm rot left U order k place p) (hp : upper ≤ p + 1) (hx : x = U place) (hs : st1 order order' s v) (hss : s = k) (hv : v = x) (ht : st1 left left' q w) (hq : q = x) (hw : w = 0) : RVP n m upper pt ph al rm rot left' U order' place x k := by
  obtain ⟨⟨a1, a2, a3⟩, b1, b2, b3, b4, b5⟩ := cpk_end h hp
  refine ⟨left, order, h.1, ⟨a1, a2, hx.symm⟩, a3, fun z z0 zn => (ht z z0).2 (by omega), ?_, fun j j0 jn => (hs j j0).2 (by omega), ?_⟩
  · exact ((ht x (by omega)).1 hq.symm).trans hw
  · exact ((hs k (by omega)).1 hss.symm).trans hv
/-! canonical: the start -/
def CNP (n m : Int) (pt ph al rm rot : Int → Int) (u v w : Int) : Prop := CNB n m pt ph al rm rot ∧ ∃ d0 d1 d2, (liv m al d0 ∧ liv m al d1 ∧ liv m al d2) ∧ (NDT m pt ph rm rot d0 d1 ∧ NDT m pt ph rm rot d1 d2 ∧ NDT m pt ph rm rot d2 d0) ∧ u = dfr pt ph d0 ∧ v = dfr pt ph d1 ∧ w = dfr pt ph d2
theorem cns_start {n m upper k u v w i : Int} {pt ph al rm rot left U order : Int → Int} (h : CNP n m pt ph al rm rot u v w) (hl : ∀ j, 0 ≤ j → j < i → left j ≠ 0) (hi : n ≤ i) (hu : upper = 3) (u0 : U 0 = u) (u1 : U 1 = w) (u2 : U 2 = v) (o0 : order 0 = u) (o1 : order 1 = v) (hk : k = n - 1) : CNX n m upper pt ph al rm rot left U order k := by
  obtain ⟨hB, d0, d1, d2, ⟨l0, l1, l2⟩, ⟨s0, s1, s2⟩, eu, ev, ew⟩ := h
  obtain ⟨⟨⟨hg, m0⟩, hal, hr⟩, hc, hf, n3, n24⟩ := hB
  have hB : CNB n m pt ph al rm rot := ⟨⟨⟨hg, m0⟩, hal, hr⟩, hc, hf, n3, n24⟩
  have hE := eml_rot.2 hr
  obtain ⟨hr1, nx, ρ, q1, q2, q3⟩ := hr
  have t0 : dto pt ph d0 = v := by rw [ev]; exact s0.2.2.1.symm
  have t1 : dto pt ph d1 = w := by rw [ew]; exact s1.2.2.1.symm
  have t2 : dto pt ph d2 = u := by rw [eu]; exact s2.2.2.1.symm
  have x0 := ndt_nx hg hE.1 q3 l0 l1 s0
  have x1 := ndt_nx hg hE.1 q3 l1 l2 s1
  have x2 := ndt_nx hg hE.1 q3 l2 l0 s2
  rw [t1, ← eu, t0] at x0
  rw [t2, ← ev, t1] at x1
  rw [t0, ← ew, t2] at x2
  have j0 := dart_J (pt := pt) (ph := ph) l0
  have j1 := dart_J (pt := pt) (ph := ph) l1
  have j2 := dart_J (pt := pt) (ph := ph) l2
  rw [← eu, t0] at j0
  rw [← ev, t1] at j1
  rw [← ew, t2] at j2
  have irr := JJ_irr (al := al) hg
  have nuv := irr _ _ _ j0
  have nvw := irr _ _ _ j1
  have nwu := irr _ _ _ j2
  have Auv : jA m pt ph al u v := ⟨_, j0⟩
  have Avw : jA m pt ph al v w := ⟨_, j1⟩
  have Awu : jA m pt ph al w u := ⟨_, j2⟩
  have sy := q1.1.1
  have lfa : ∀ z, 0 ≤ z → z < n → lfn n left z := fun z a b => ⟨⟨a, b⟩, hl z a (by omega)⟩
  have rg := fun a b (h : jA m pt ph al a b) => (by obtain ⟨e, j⟩ := h; exact JJ_rng hg j : 0 ≤ a ∧ a < n ∧ 0 ≤ b ∧ b < n)
  have lfA : ∀ a b, jA m pt ph al a b → lfn n left a ∧ lfn n left b := fun a b h => ⟨lfa a (rg a b h).1 (rg a b h).2.1, lfa b (rg a b h).2.2.1 (rg a b h).2.2.2⟩
  refine ⟨fun k2 => ?_, fun k2 => by omega⟩
  have lamd : ∀ a b, Lam u v 3 U a b ↔ ((a = u ∧ b = w) ∨ (b = u ∧ a = w)) ∨ ((a = w ∧ b = v) ∨ (b = w ∧ a = v)) ∨ ((a = u ∧ b = v) ∨ (a = v ∧ b = u)) := fun a b => by
    constructor
    · rintro (⟨j, ja, jb, hj⟩ | q)
      · rcases (by omega : j = 0 ∨ j = 1) with e | e
        · subst e; rw [u0, show (0 : Int) + 1 = 1 by omega, u1] at hj; exact Or.inl hj
        · subst e; rw [show (1 : Int) + 1 = 2 by omega, u1, u2] at hj; exact Or.inr (Or.inl hj)
      · exact Or.inr (Or.inr q)
    · rintro (q | q | q)
      · exact Or.inl ⟨0, by omega, by omega, by rw [u0, show (0 : Int) + 1 = 1 by omega, u1]; exact q⟩
      · exact Or.inl ⟨1, by omega, by omega, by rw [show (1 : Int) + 1 = 2 by omega, u1, u2]; exact q⟩
      · exact Or.inr q
  refine ⟨hB, ⟨k2, by omega⟩, ⟨nx, ρ, fun a b => pb ((a = u ∧ b = v) ∨ (a = v ∧ b = w) ∨ (a = w ∧ b = u)), q1, q2, q3, ?_, ?_⟩, ?_, fun _ => U, fun _ => upper, fun _ _ _ => rfl, rfl, fun j a b => by omega⟩
  · rw [o0, o1, hu]
    refine ⟨by omega, u0, by rw [show (3 : Int) - 1 = 2 by omega]; exact u2, fun j a b => ?_, fun i j a b c => ?_, fun j a b => ?_, Auv⟩
    · rcases (by omega : j = 0 ∨ j = 1 ∨ j = 2) with e | e | e <;> subst e
      · rw [u0]; exact (lfA _ _ Auv).1
      · rw [u1]; exact (lfA _ _ Awu).1
      · rw [u2]; exact (lfA _ _ Avw).1
    · rcases (by omega : (i = 0 ∧ j = 1) ∨ (i = 0 ∧ j = 2) ∨ (i = 1 ∧ j = 2)) with ⟨e, f⟩ | ⟨e, f⟩ | ⟨e, f⟩ <;> subst e <;> subst f
      · rw [u0, u1]; exact fun z => nwu z.symm
      · rw [u0, u2]; exact nuv
      · rw [u1, u2]; exact fun z => nvw z.symm
    · rcases (by omega : j = 0 ∨ j = 1) with e | e <;> subst e
      · rw [u0, show (0 : Int) + 1 = 1 by omega, u1]; exact sy _ _ Awu
      · rw [u1, show (1 : Int) + 1 = 2 by omega, u2]; exact sy _ _ Avw
  · rw [o0, o1, hu]
    refine ⟨fun a b hab => ?_, fun a b hab => ?_, fun a b hab hn => absurd (lfA a b hab).2 hn, fun a b hab hn _ => absurd (lfA a b hab).1 hn, fun χ hχ _ a b a' b' hab hab' e e' => ?_, fun a b hab _ _ e => ?_⟩
    · show pb ((b = u ∧ nx a b = v) ∨ (b = v ∧ nx a b = w) ∨ (b = w ∧ nx a b = u)) = pb ((a = u ∧ b = v) ∨ (a = v ∧ b = w) ∨ (a = w ∧ b = u))
      apply pb_iff
      constructor
      · rintro (⟨e, f⟩ | ⟨e, f⟩ | ⟨e, f⟩) <;> subst e
        · exact Or.inr (Or.inr ⟨q1.2.2.1 _ _ _ hab Awu (f.trans x2), rfl⟩)
        · exact Or.inl ⟨q1.2.2.1 _ _ _ hab Auv (f.trans x0), rfl⟩
        · exact Or.inr (Or.inl ⟨q1.2.2.1 _ _ _ hab Avw (f.trans x1), rfl⟩)
      · rintro (⟨e, f⟩ | ⟨e, f⟩ | ⟨e, f⟩)
        · rw [e, f]; exact Or.inr (Or.inl ⟨rfl, x0.symm⟩)
        · rw [e, f]; exact Or.inr (Or.inr ⟨rfl, x1.symm⟩)
        · rw [e, f]; exact Or.inl ⟨rfl, x2.symm⟩
    · show (pb ((a = u ∧ b = v) ∨ (a = v ∧ b = w) ∨ (a = w ∧ b = u)) ^^ pb ((b = u ∧ a = v) ∨ (b = v ∧ a = w) ∨ (b = w ∧ a = u))) = pb (Lam u v 3 U a b)
      rw [← pb_or (fun ⟨y, z⟩ => by rcases y with ⟨e, f⟩ | ⟨e, f⟩ | ⟨e, f⟩ <;> rcases z with ⟨g, h⟩ | ⟨g, h⟩ | ⟨g, h⟩ <;> omega)]
      apply pb_iff
      rw [lamd]
      constructor
      · rintro ((⟨e, f⟩ | ⟨e, f⟩ | ⟨e, f⟩) | (⟨e, f⟩ | ⟨e, f⟩ | ⟨e, f⟩)) <;> simp [e, f]
      · rintro ((⟨e, f⟩ | ⟨e, f⟩) | (⟨e, f⟩ | ⟨e, f⟩) | (⟨e, f⟩ | ⟨e, f⟩)) <;> simp [e, f]
    · have key : ∀ a b, ((a = u ∧ b = v) ∨ (a = v ∧ b = w) ∨ (a = w ∧ b = u)) → χ a b = χ u v := fun a b h => by
        have c1 := hχ u v Auv
        rw [← x0] at c1
        have c2 := hχ v w Avw
        rw [← x1, c1] at c2
        rcases h with ⟨e, f⟩ | ⟨e, f⟩ | ⟨e, f⟩ <;> rw [e, f]
        · exact c1
        · exact c2
      rw [key a b (pb_i e), key a' b' (pb_i e')]
    · rw [lamd]
      rcases pb_i e with ⟨e, f⟩ | ⟨e, f⟩ | ⟨e, f⟩ <;> simp [e, f]
  · have a := czle (f := left) (g := fun _ => (1 : Int)) (n := n) (fun j ja jb z => absurd z (hl j ja (by omega)))
    have b := czb left (n := n) (by omega)
    have c : ∀ t : Nat, czN (fun _ => (1 : Int)) t = 0 := by
      intro t
      induction t with
      | zero => rfl
      | succ t ih =>
        show czN (fun _ => (1 : Int)) t + (if (1 : Int) = 0 then 1 else 0) = 0
        rw [ih, if_neg (by omega)]; omega
    rw [cz_is (fun _ => (1 : Int)), c] at a
    omega
