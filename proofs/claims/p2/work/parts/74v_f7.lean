/-! cut: Euler's bound, faces of three -/
theorem dart_of {m e u v : Int} {pt ph al : Int → Int} (j : JJ m pt ph al e u v) : ∃ d, liv m al d ∧ dfr pt ph d = u ∧ dto pt ph d = v := by
  obtain ⟨a, b, c, q⟩ := j
  rcases q with ⟨q1, q2⟩ | ⟨q1, q2⟩
  · refine ⟨2 * e, ⟨by omega, by omega, by rw [show 2 * e / 2 = e by omega]; exact c⟩, ?_, ?_⟩
    · unfold dfr; rw [if_pos (by omega), show 2 * e / 2 = e by omega]; exact q1
    · unfold dto; rw [if_pos (by omega), show 2 * e / 2 = e by omega]; exact q2
  · refine ⟨2 * e + 1, ⟨by omega, by omega, by rw [show (2 * e + 1) / 2 = e by omega]; exact c⟩, ?_, ?_⟩
    · unfold dfr; rw [if_neg (by omega), show (2 * e + 1) / 2 = e by omega]; exact q2
    · unfold dto; rw [if_neg (by omega), show (2 * e + 1) / 2 = e by omega]; exact q1
theorem dart_ends {n m d d' : Int} {pt ph al : Int → Int} (hg : GOK n m pt ph) (h : liv m al d) (h' : liv m al d') (hf : dfr pt ph d = dfr pt ph d') (ht : dto pt ph d = dto pt ph d') : d = d' := by
  have j := dart_J (pt := pt) (ph := ph) h
  have j' := dart_J (pt := pt) (ph := ph) h'
  rw [← hf, ← ht] at j'
  exact dart_eq hg h (JJ_one hg j j') ht
theorem ndt_fun {n m d x x' : Int} {pt ph al rm rot : Int → Int} (hg : GOK n m pt ph) (hr : ROT n m pt ph al rm rot) (hd : liv m al d) (h1 : NDT m pt ph rm rot d x) (h2 : NDT m pt ph rm rot d x') : x = x' := by
  have hE := eml_rot.2 hr
  have l1 := ndt_liv hg hE hd h1
  have l2 := ndt_liv hg hE hd h2
  have jd := dart_J (pt := pt) (ph := ph) hd
  have rv := JJ_rng hg jd
  obtain ⟨_, r2, r3, _⟩ := hr.1 _ rv.2.2.1 rv.2.2.2
  obtain ⟨_, _, a1, k, k0, k1, k2, k3⟩ := h1
  obtain ⟨_, _, a2, l, l0, l1', l2', l3⟩ := h2
  have e : k = l := by
    rcases Int.lt_trichotomy k l with q | q | q
    · exact absurd (k2.trans l2'.symm) (r3 k l k0 q l1')
    · exact q
    · exact absurd (l2'.trans k2.symm) (r3 l k l0 q k1)
  rw [e, l3] at k3
  have j1 := dart_J (pt := pt) (ph := ph) l1
  have j2 := dart_J (pt := pt) (ph := ph) l2
  rw [a1, ← k3] at j1
  rw [a2] at j2
  exact dart_eq hg l1 k3.symm (JJ_same (JJ_irr (al := al) hg) j1 j2)
theorem euler_m {n m R : Int} {pt ph al rm rot ro rb rd : Int → Int} (h : GRI n m pt ph al rm rot) (hc : CON n m pt ph al) (hn : 3 ≤ n) (hR : GRD m R pt ph al rm rot ro rb rd) : m ≤ 3 * n := by
  have h3 := rnd_many h hc hn hR
  obtain ⟨⟨hg, m0⟩, hal, hr⟩ := h
  obtain ⟨hr1, nx, ρ, q1, q2, q3⟩ := hr
  have hE : EML n m pt ph al rm rot := eml_rot.2 ⟨hr1, nx, ρ, q1, q2, q3⟩
  have dO : ∀ u v, ∃ d, jA m pt ph al u v → liv m al d ∧ dfr pt ph d = u ∧ dto pt ph d = v := fun u v => by
    by_cases q : jA m pt ph al u v
    · obtain ⟨e, j⟩ := q
      obtain ⟨d, hd⟩ := dart_of j
      exact ⟨d, fun _ => hd⟩
    · exact ⟨0, fun z => absurd z q⟩
  have dR : ∃ D : Int → Int → Int, ∀ u v, jA m pt ph al u v → liv m al (D u v) ∧ dfr pt ph (D u v) = u ∧ dto pt ph (D u v) = v := ⟨fun u v => Classical.choose (dO u v), fun u v => Classical.choose_spec (dO u v)⟩
  obtain ⟨D, hD⟩ := dR
  -- along a round
  have al1 : ∀ χ, finv (jA m pt ph al) nx χ → ∀ r, 0 ≤ r → r < R → ∀ t : Nat, rb r + (t : Int) < rb (r + 1) → χ (dfr pt ph (rd (rb r + (t : Int)))) (dto pt ph (rd (rb r + (t : Int)))) = χ (dfr pt ph (rd (rb r))) (dto pt ph (rd (rb r))) := by
    intro χ hχ r r0 r1 t
    obtain ⟨b1, b2, b3, st⟩ := rnd_3 ⟨⟨hg, m0⟩, hal, hr1, nx, ρ, q1, q2, q3⟩ hc hn hR r0 r1
    induction t with
    | zero => intro _; rw [show rb r + ((0 : Nat) : Int) = rb r by omega]
    | succ t ih =>
      intro ht
      have ht' : rb r + (t : Int) < rb (r + 1) := by omega
      rw [← ih ht']
      have s := st (rb r + (t : Int)) (by omega) ht'
      rw [if_neg (by omega), show rb r + (t : Int) + 1 = rb r + ((t + 1 : Nat) : Int) by omega] at s
      have l := hR.2.1.2.1 (rb r + (t : Int)) (by omega) (by omega)
      have l' := ndt_liv hg hE l s
      have e := ndt_nx hg hE.1 (fun i i0 i1 k k0 k1 => q3 i i0 i1 k k0 k1) l l' s
      rw [e, s.2.2.1]
      exact hχ _ _ ⟨_, dart_J (pt := pt) (ph := ph) l⟩
  have hro : ∀ d, liv m al d → 0 ≤ ro d ∧ ro d < R ∧ ∃ t : Nat, rb (ro d) + (t : Int) < rb (ro d + 1) ∧ rd (rb (ro d) + (t : Int)) = d := fun d hd => by
    obtain ⟨r0, r1, p, p0, p1, p2⟩ := hR.2.2 d hd
    have en : nxb rb R (rb R) (ro d) = rb (ro d + 1) := by
      unfold nxb
      split
      · next q => rw [← q]
      · rfl
    rw [en] at p1
    exact ⟨r0, r1, (p - rb (ro d)).toNat, by omega, by rw [show rb (ro d) + (((p - rb (ro d)).toNat : Nat) : Int) = p by omega]; exact p2⟩
  have := euler (n := n.toNat) (m := m.toNat) (R := R.toNat) (t := fun e => pt (e : Int)) (h := fun e => ph (e : Int)) q2 (fun u v ⟨e, j⟩ => ⟨e, JJ_sym _ _ _ j⟩)
    (fun e he => ⟨(e : Int), by omega, by omega, hal _ (by omega) (by omega), Or.inl ⟨rfl, rfl⟩⟩)
    (fun u v ⟨e, j⟩ => ⟨e.toNat, by have := j.1; have := j.2.1; omega, by
      have e1 : ((e.toNat : Nat) : Int) = e := by have := j.1; omega
      rw [e1]
      rcases j.2.2.2 with ⟨z1, z2⟩ | ⟨z1, z2⟩
      · exact Or.inl ⟨z1.symm, z2.symm⟩
      · exact Or.inr ⟨z2.symm, z1.symm⟩⟩)
    (fun e f he hf z => by
      unfold eI at z
      have z' := of_decide_eq_true z
      rcases Nat.lt_trichotomy e f with w | w | w
      · exfalso
        refine hg.2 (e : Int) (f : Int) (by omega) (by omega) (by omega) ?_
        rcases z' with ⟨y1, y2⟩ | ⟨y1, y2⟩
        · exact Or.inl ⟨y1.symm, y2.symm⟩
        · exact Or.inr ⟨y2.symm, y1.symm⟩
      · exact w
      · exfalso
        refine hg.2 (f : Int) (e : Int) (by omega) (by omega) (by omega) ?_
        rcases z' with ⟨y1, y2⟩ | ⟨y1, y2⟩
        · exact Or.inl ⟨y1, y2⟩
        · exact Or.inr ⟨y1, y2⟩)
    (fun e he => by have := hg.1 (e : Int) (by omega) (by omega); omega)
    (fun u v => (ro (D u v)).toNat) (fun u v huv => by have := hro _ (hD u v huv).1; show (ro (D u v)).toNat < R.toNat; omega)
    (fun χ hχ x y x' y' hxy hxy' he => by
      obtain ⟨d1, d2, d3⟩ := hD x y hxy
      obtain ⟨f1, f2, f3⟩ := hD x' y' hxy'
      obtain ⟨a0, a1, t, a2, a3⟩ := hro _ d1
      obtain ⟨b0, b1, s, b2, b3⟩ := hro _ f1
      have he' : (ro (D x y)).toNat = (ro (D x' y')).toNat := he
      have er : ro (D x y) = ro (D x' y') := by omega
      have w1 := al1 χ hχ _ a0 a1 t a2
      have w2 := al1 χ hχ _ b0 b1 s b2
      rw [a3, d2, d3] at w1
      rw [b3, f2, f3] at w2
      rw [w1, w2, er])
  omega
/-- faces that can't be cut -/
def CT1 (rb : Int → Int) (f : Int) : Prop := ∀ g, 0 ≤ g → g < f → rb (g + 1) - rb g ≤ 3
def CT2 (m : Int) (pt ph al rb rd : Int → Int) (f L k : Int) : Prop := (L = rb (f + 1) - rb f ∧ 3 < L) ∧ ∀ t, 0 ≤ t → t < k → dfr pt ph (rd (rb f + t)) = dto pt ph (rd (rb f + nr L t)) ∨ jA m pt ph al (dfr pt ph (rd (rb f + t))) (dto pt ph (rd (rb f + nr L t)))
def FTR (m : Int) (pt ph al rm rot : Int → Int) : Prop := ∀ d x y, liv m al d → NDT m pt ph rm rot d x → NDT m pt ph rm rot x y → NDT m pt ph rm rot y d
def CUA (m : Int) (pt ph al rm rot : Int → Int) (z : Int) : Prop := z = 0 → FTR m pt ph al rm rot
theorem ct2_no {n m R f L k : Int} {pt ph al rm rot ro rb rd : Int → Int} (h : GRI n m pt ph al rm rot) (hc : CON n m pt ph al) (hn : 3 ≤ n) (hR : GRD m R pt ph al rm rot ro rb rd) (f0 : 0 ≤ f) (f1 : f < R) (h2 : CT2 m pt ph al rb rd f L k) (hk : L ≤ k) : False := by
  obtain ⟨b1, b2, b3, st⟩ := rnd_3 h hc hn hR f0 f1
  obtain ⟨⟨hg, m0⟩, hal, hr⟩ := h
  obtain ⟨hr1, nx, ρ, q1, q2, q3⟩ := hr
  have hE : EML n m pt ph al rm rot := eml_rot.2 ⟨hr1, nx, ρ, q1, q2, q3⟩
  obtain ⟨⟨hL, hL3⟩, ht⟩ := h2
  have l := fun t (a : 0 ≤ t) (b : t < L) => hR.2.1.2.1 (rb f + t) (by omega) (by omega)
  have s : ∀ t, 0 ≤ t → t + 1 < L → NDT m pt ph rm rot (rd (rb f + t)) (rd (rb f + (t + 1))) := fun t a b => by
    have := st (rb f + t) (by omega) (by omega)
    rw [if_neg (by omega), show rb f + t + 1 = rb f + (t + 1) by omega] at this; exact this
  have nxt : ∀ t, 0 ≤ t → t + 1 < L → dfr pt ph (rd (rb f + (t + 1))) = dto pt ph (rd (rb f + t)) ∧ dto pt ph (rd (rb f + (t + 1))) = nx (dfr pt ph (rd (rb f + t))) (dto pt ph (rd (rb f + t))) := fun t a b => ⟨(s t a b).2.2.1, ndt_nx hg hE.1 (fun i i0 i1 k k0 k1 => q3 i i0 i1 k k0 k1) (l t a (by omega)) (l (t + 1) (by omega) b) (s t a b)⟩
  have n0 := nxt 0 (by omega) (by omega)
  have n1 := nxt 1 (by omega) (by omega)
  have n2 := nxt 2 (by omega) (by omega)
  have c0 := ht 0 (by omega) (by omega)
  have c1 := ht 1 (by omega) (by omega)
  have c2 := ht 2 (by omega) (by omega)
  rw [nr_lt (by omega)] at c0 c1 c2
  have j0 := dart_J (pt := pt) (ph := ph) (l 0 (by omega) (by omega))
  rw [show (0 : Int) + 1 = 1 by omega] at n0 c0
  rw [show (1 : Int) + 1 = 2 by omega] at n1 c1
  rw [show (2 : Int) + 1 = 3 by omega] at n2 c2
  have key := cut3 q1 q2 (a := dfr pt ph (rd (rb f + 0))) (b := dto pt ph (rd (rb f + 0))) (c := dto pt ph (rd (rb f + 1))) (d := dto pt ph (rd (rb f + 2))) ⟨_, j0⟩ n0.2.symm (by rw [← n0.1]; exact n1.2.symm) c0 (by rw [← n0.1]; exact c1) (by rw [← n1.1, ← n2.2]; exact c2)
  rcases key with ⟨z1, z2⟩ | ⟨z1, z2⟩
  · exact hR.2.1.2.2 (rb f + 0) (rb f + 2) (by omega) (by omega) (by omega) (dart_ends hg (l 0 (by omega) (by omega)) (l 2 (by omega) (by omega)) (by rw [n1.1]; exact z1.symm) z2.symm)
  · refine hR.2.1.2.2 (rb f + 0) (rb f + 3) (by omega) (by omega) (by omega) (dart_ends hg (l 0 (by omega) (by omega)) (l 3 (by omega) (by omega)) (by rw [n2.1]; exact z1.symm) ?_)
    rw [n2.2, n1.1]; exact z2.symm
theorem ftr_of {n m R : Int} {pt ph al rm rot ro rb rd : Int → Int} (h : GRI n m pt ph al rm rot) (hc : CON n m pt ph al) (hn : 3 ≤ n) (hR : GRD m R pt ph al rm rot ro rb rd) {f : Int} (h1 : CT1 rb f) (hf : R ≤ f) : FTR m pt ph al rm rot := by
  intro d x y hd hx hy
  have hg := h.1.1
  have hr := h.2.2
  have hE := eml_rot.2 hr
  have lx := ndt_liv hg hE hd hx
  have ly := ndt_liv hg hE lx hy
  obtain ⟨r0, r1, p, p0, p1, p2⟩ := hR.2.2 d hd
  obtain ⟨b1, b2, b3, st⟩ := rnd_3 h hc hn hR r0 r1
  have en : nxb rb R (rb R) (ro d) = rb (ro d + 1) := by
    unfold nxb
    split
    · next q => rw [← q]
    · rfl
  rw [en] at p1
  have b4 := h1 (ro d) r0 (by omega)
  have hL : rb (ro d + 1) = rb (ro d) + 3 := by omega
  have l := fun t (a : rb (ro d) ≤ t) (b : t < rb (ro d + 1)) => hR.2.1.2.1 t (by omega) (by omega)
  -- three steps
  have go : ∀ t, rb (ro d) ≤ t → t < rb (ro d + 1) → ∃ t', rb (ro d) ≤ t' ∧ t' < rb (ro d + 1) ∧ (t' = if t + 1 = rb (ro d + 1) then rb (ro d) else t + 1) ∧ NDT m pt ph rm rot (rd t) (rd t') := fun t a b => ⟨_, by split <;> omega, by split <;> omega, rfl, st t a b⟩
  obtain ⟨p', a1, a2, a3, a4⟩ := go p p0 p1
  obtain ⟨p'', c1, c2, c3, c4⟩ := go p' a1 a2
  obtain ⟨p3, e1, e2, e3, e4⟩ := go p'' c1 c2
  have e5 : p3 = p := by
    have z1 : (p + 1 = rb (ro d + 1) ∧ p' = rb (ro d)) ∨ (p + 1 ≠ rb (ro d + 1) ∧ p' = p + 1) := by
      rw [a3]; split
      · next w => exact Or.inl ⟨w, rfl⟩
      · next w => exact Or.inr ⟨w, rfl⟩
    have z2 : (p' + 1 = rb (ro d + 1) ∧ p'' = rb (ro d)) ∨ (p' + 1 ≠ rb (ro d + 1) ∧ p'' = p' + 1) := by
      rw [c3]; split
      · next w => exact Or.inl ⟨w, rfl⟩
      · next w => exact Or.inr ⟨w, rfl⟩
    have z3 : (p'' + 1 = rb (ro d + 1) ∧ p3 = rb (ro d)) ∨ (p'' + 1 ≠ rb (ro d + 1) ∧ p3 = p'' + 1) := by
      rw [e3]; split
      · next w => exact Or.inl ⟨w, rfl⟩
      · next w => exact Or.inr ⟨w, rfl⟩
    omega
  rw [p2] at a4
  have x1 := ndt_fun hg hr hd hx a4
  rw [← x1] at c4
  have x2 := ndt_fun hg hr lx hy c4
  rw [← x2, e5, p2] at e4
  exact e4
theorem con_new {n m m' p v q w s t : Int} {pt ph al pt' ph' al' : Int → Int} (h : CON n m pt ph al) (hs : st1 pt pt' p v) (hp : p = m) (ht : st1 ph ph' q w) (hq : q = m) (hu : st1 al al' s t) (hs' : s = m) (hm' : m' = m + 1) : CON n m' pt' ph' al' := by
  intro y a b
  refine rc_mono (fun u v z => ?_) (h y a b)
  have hj := JJ_congr (m := m) (pt := pt) (ph := ph) (al := al) (pt' := pt') (ph' := ph') (al' := al') (fun e a b => ⟨(hs e a).2 (by omega), (ht e a).2 (by omega), (hu e a).2 (by omega)⟩)
  obtain ⟨e, j⟩ := z
  rw [← hj] at j
  exact ⟨e, j.1, by have := j.2.1; omega, j.2.2⟩
theorem pn3_of {n m R f k L a c d x r : Int} {pt ph al rm rot ro rb rd : Int → Int} (h : GRI n m pt ph al rm rot) (hc : CON n m pt ph al) (hn : 3 ≤ n) (hR : GRD m R pt ph al rm rot ro rb rd) (f0 : 0 ≤ f) (f1 : f < R) (k0 : 0 ≤ k) (hL : L = rb (f + 1) - rb f) (k1 : k < L) (hd : d = rd (rb f + k)) (hx : x = rd (rb f + nr L k)) (ha : DFR pt ph d a) (hc' : DTO pt ph x c) (hne : a ≠ c) (he : EOF m pt ph al a c r) (hr : r < 0) : PN3 n m pt ph al rm rot a c d x := by
  obtain ⟨b1, b2, b3, st⟩ := rnd_3 h hc hn hR f0 f1
  have hg := h.1.1
  have z := nr_rng k0 k1
  have ld := hR.2.1.2.1 (rb f + k) (by omega) (by omega)
  have lx := hR.2.1.2.1 (rb f + nr L k) (by omega) (by omega)
  have s := st (rb f + k) (by omega) (by omega)
  have e : (if rb f + k + 1 = rb (f + 1) then rb f else rb f + k + 1) = rb f + nr L k := by
    unfold nr
    by_cases w : k + 1 = L
    · rw [if_pos w, if_pos (by omega)]; omega
    · rw [if_neg w, if_neg (by omega)]; omega
  rw [e, ← hd, ← hx] at s
  rw [← hd] at ld
  rw [← hx] at lx
  have jd := JJ_rng hg (dart_J (pt := pt) (ph := ph) ld)
  have jx := JJ_rng hg (dart_J (pt := pt) (ph := ph) lx)
  have ea : dfr pt ph d = a := ha.symm
  have ec : dto pt ph x = c := hc'.symm
  rw [ea] at jd
  rw [ec] at jx
  refine ⟨h, ⟨jd.1, jd.2.1, jx.2.2.1, jx.2.2.2, hne, fun g g0 g1 j => ?_⟩, fun w => by omega, fun _ => ⟨ld, s, ea, ec⟩⟩
  rcases he with ⟨_, w⟩ | w
  · exact w g ⟨g0, g1, h.2.1 g g0 g1, j⟩
  · have := w.1; omega
theorem ct2_next {m f L k k' a c d x r : Int} {pt ph al rb rd : Int → Int} (h : CT2 m pt ph al rb rd f L k) (hk : k' = k + 1) (hd : d = rd (rb f + k)) (hx : x = rd (rb f + nr L k)) (ha : DFR pt ph d a) (hc : DTO pt ph x c) (ho : a = c ∨ (EOF m pt ph al a c r ∧ 0 ≤ r)) : CT2 m pt ph al rb rd f L k' := by
  refine ⟨h.1, fun t t0 t1 => ?_⟩
  by_cases q : t = k
  · rw [q, ← hd, ← hx, ← ha, ← hc]
    rcases ho with w | ⟨w | w, w2⟩
    · exact Or.inl w
    · have := w.1; omega
    · exact Or.inr ⟨_, w⟩
  · exact h.2 t t0 (by omega)
