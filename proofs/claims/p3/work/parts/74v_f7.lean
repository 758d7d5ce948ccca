section
/-! cut: Euler's bound, faces of three -/
theorem dart_of {m e u v : Int} {pt ph al : Int → Int} (j : JJ m pt ph al e u v) : ∃ d, liv m al d ∧ dfr pt ph d = u ∧ dto pt ph d = v := by
  obtain ⟨a, b, c, q⟩ := j
  rcases q with ⟨q1, q2⟩ | ⟨q1, q2⟩
  · refine ⟨2 * e, ⟨by omega, by omega, by rw [show 2 * e / 2 = e by omega]; exact c⟩, ?_, ?_⟩
    · unfold dfr; rw [if_pos (by omega), show 2 * e / 2 = e by omega]; exact q1
    · unfold dto; rw [if_pos (by omega), show 2 * e / 2 = e by omega]; exact q2
  · refine ⟨2 * e + 1, ⟨by omega, by omega, by rw [show (2 * e + 1) / 2 = e by omega]; exact c⟩, ?_, ?_⟩
    · unfold dfr; rw [if_neg (by omega), show (2 * e + 1) / 2 = e by omega]; exact q2
    · unfold dto; rw [if_neg (by omega), show (2 * e + 1) / 2 = e by omega]; exact q1
theorem dart_ends {n m d d_zq : Int} {pt ph al : Int → Int} (hg : GOK n m pt ph) (h : liv m al d) (h_zq : liv m al d_zq) (hf : dfr pt ph d = dfr pt ph d_zq) (ht : dto pt ph d = dto pt ph d_zq) : d = d_zq := by
  have j := dart_J (pt := pt) (ph := ph) h
  have j_zq := dart_J (pt := pt) (ph := ph) h_zq
  rw [← hf, ← ht] at j_zq
  exact dart_eq hg h (JJ_one hg j j_zq) ht
theorem ndt_fun {n m d x x_zq : Int} {pt ph al rm rot : Int → Int} (hg : GOK n m pt ph) (hr : ROT n m pt ph al rm rot) (hd : liv m al d) (h1 : NDT m pt ph rm rot d x) (h2 : NDT m pt ph rm rot d x_zq) : x = x_zq := by
  have hE := eml_rot.2 hr
  have l1 := ndt_liv hg hE hd h1
  have l2 := ndt_liv hg hE hd h2
  have jd := dart_J (pt := pt) (ph := ph) hd
  have rv := JJ_rng hg jd
  obtain ⟨_, r2, r3, _⟩ := hr.1 _ rv.2.2.1 rv.2.2.2
  obtain ⟨_, _, a1, k, k0, k1, k2, k3⟩ := h1
  obtain ⟨_, _, a2, l, l0, l1_zq, l2_zq, l3⟩ := h2
  have e : k = l := by
    rcases Int.lt_trichotomy k l with q | q | q
    · exact absurd (k2.trans l2_zq.symm) (r3 k l k0 q l1_zq)
    · exact q
    · exact absurd (l2_zq.trans k2.symm) (r3 l k l0 q k1)
  rw [e, l3] at k3
  have j1 := dart_J (pt := pt) (ph := ph) l1
  have j2 := dart_J (pt := pt) (ph := ph) l2
  rw [a1, ← k3] at j1
  rw [a2] at j2
  exact dart_eq hg l1 k3.symm (JJ_same (JJ_irr (al := al) hg) j1 j2)
theorem euler_m {n m R : Int} {pt ph al rm rot ro rb rd : Int → Int} (h : GRI n m pt ph al rm rot) (hc : CON n m pt ph al) (hn : 3 ≤ n) (hR : GRD m R pt ph al rm rot ro rb rd) : m ≤ 3 * n := by
  have h3 := rnd_many h hc hn hR
  obtain ⟨⟨hg, m0⟩, hal, hr⟩ := h
  obtain ⟨hr1, nx, ρ, q1, q2, q3⟩ := hr
  have hE : EML n m pt ph al rm rot := eml_rot.2 ⟨hr1, nx, ρ, q1, q2, q3⟩
  have dO : ∀ u v, ∃ d, jA m pt ph al u v → liv m al d ∧ dfr pt ph d = u ∧ dto pt ph d = v := fun u v => by
    by_cases q : jA m pt ph al u v
    · obtain ⟨e, j⟩ := q
      obtain ⟨d, hd⟩ := dart_of j
      exact ⟨d, fun _ => hd⟩
    · exact ⟨0, fun z => absurd z q⟩
  have dR : ∃ D : Int → Int → Int, ∀ u v, jA m pt ph al u v → liv m al (D u v) ∧ dfr pt ph (D u v) = u ∧ dto pt ph (D u v) = v := ⟨fun u v => Classical.choose (dO u v), fun u v => Classical.choose_spec (dO u v)⟩
  obtain ⟨D, hD⟩ := dR
  -- along a round
  have al1 : ∀ χ, finv (jA m pt ph al) nx χ → ∀ r, 0 ≤ r → r < R → ∀ t : Nat, rb r + (t : Int) < rb (r + 1) → χ (dfr pt ph (rd (rb r + (t : Int)))) (dto pt ph (rd (rb r + (t : Int)))) = χ (dfr pt ph (rd (rb r))) (dto pt ph (rd (rb r))) := by
    intro χ hχ r r0 r1 t
    obtain ⟨b1, b2, b3, st⟩ := rnd_3 ⟨⟨hg, m0⟩, hal, hr1, nx, ρ, q1, q2, q3⟩ hc hn hR r0 r1
    induction t with
    | zero => intro _; rw [show rb r + ((0 : Nat) : Int) = rb r by omega]
    | succ t ih =>
      intro ht
      have ht_zq : rb r + (t : Int) < rb (r + 1) := by omega
      rw [← ih ht_zq]
      have s := st (rb r + (t : Int)) (by omega) ht_zq
      rw [if_neg (by omega), show rb r + (t : Int) + 1 = rb r + ((t + 1 : Nat) : Int) by omega] at s
      have l := hR.2.1.2.1 (rb r + (t : Int)) (by omega) (by omega)
      have l_zq := ndt_liv hg hE l s
      have e := ndt_nx hg hE.1 (fun i i0 i1 k k0 k1 => q3 i i0 i1 k k0 k1) l l_zq s
      rw [e, s.2.2.1]
      exact hχ _ _ ⟨_, dart_J (pt := pt) (ph := ph) l⟩
  have hro : ∀ d, liv m al d → 0 ≤ ro d ∧ ro d < R ∧ ∃ t : Nat, rb (ro d) + (t : Int) < rb (ro d + 1) ∧ rd (rb (ro d) + (t : Int)) = d := fun d hd => by
    obtain ⟨r0, r1, p, p0, p1, p2⟩ := hR.2.2 d hd
    have en : nxb rb R (rb R) (ro d) = rb (ro d + 1) := by
      unfold nxb
      split
      · next q => rw [← q]
      · rfl
    rw [en] at p1
    exact ⟨r0, r1, (p - rb (ro d)).toNat, by omega, by rw [show rb (ro d) + (((p - rb (ro d)).toNat : Nat) : Int) = p by omega]; exact p2⟩
  have := euler (n := n.toNat) (m := m.toNat) (R := R.toNat) (t := fun e => pt (e : Int)) (h := fun e => ph (e : Int)) q2 (fun u v ⟨e, j⟩ => ⟨e, JJ_sym _ _ _ j⟩)
    (fun e he => ⟨(e : Int), by omega, by omega, hal _ (by omega) (by omega), Or.inl ⟨rfl, rfl⟩⟩)
    (fun u v ⟨e, j⟩ => ⟨e.toNat, by have := j.1; have := j.2.1; omega, by
      have e1 : ((e.toNat : Nat) : Int) = e := by have := j.1; omega
      rw [e1]
      rcases j.2.2.2 with ⟨z1, z2⟩ | ⟨z1, z2⟩
      · exact Or.inl ⟨z1.symm, z2.symm⟩
      · exact Or.inr ⟨z2.symm, z1.symm⟩⟩)
    (fun e f he hf z => by
      unfold eI at z
      have z_zq := of_decide_eq_true z
      rcases Nat.lt_trichotomy e f with w | w | w
      · exfalso
        refine hg.2 (e : Int) (f : Int) (by omega) (by omega) (by omega) ?_
        rcases z_zq with ⟨y1, y2⟩ | ⟨y1, y2⟩
        · exact Or.inl ⟨y1.symm, y2.symm⟩
        · exact Or.inr ⟨y2.symm, y1.symm⟩
      · exact w
      · exfalso
        refine hg.2 (f : Int) (e : Int) (by omega) (by omega) (by omega) ?_
        rcases z_zq with ⟨y1, y2⟩ | ⟨y1, y2⟩
        · exact Or.inl ⟨y1, y2⟩
        · exact Or.inr ⟨y1, y2⟩)
    (fun e he => by have := hg.1 (e : Int) (by omega) (by omega); omega)
    (fun u v => (ro (D u v)).toNat) (fun u v huv => by have := hro _ (hD u v huv).1; show (ro (D u v)).toNat < R.toNat; omega)
    (fun χ hχ x y x_zq y_zq hxy hxy_zq he => by
      obtain ⟨d1, d2, d3⟩ := hD x y hxy
      obtain ⟨f1, f2, f3⟩ := hD x_zq y_zq hxy_zq
      obtain ⟨a0, a1, t, a2, a3⟩ := hro _ d1
      obtain ⟨b0, b1, s, b2, b3⟩ := hro _ f1
      have he_zq : (ro (D x y)).toNat = (ro (D x_zq y_zq)).toNat := he
      have er : ro (D x y) = ro (D x_zq y_zq) := by omega
      have w1 := al1 χ hχ _ a0 a1 t a2
      have w2 := al1 χ hχ _ b0 b1 s b2
      rw [a3, d2, d3] at w1
      rw [b3, f2, f3] at w2
      rw [w1, w2, er])
  omega
/-- faces that can't be cut -/
def CT1 (rb : Int → Int) (f : Int) : Prop := ∀ g, 0 ≤ g → g < f → rb (g + 1) - rb g ≤ 3
def CT2 (m : Int) (pt ph al rb rd : Int → Int) (f L k : Int) : Prop := (L = rb (f + 1) - rb f ∧ 3 < L) ∧ ∀ t, 0 ≤ t → t < k → dfr pt ph (rd (rb f + t)) = dto pt ph (rd (rb f + nr L t)) ∨ jA m pt ph al (dfr pt ph (rd (rb f + t))) (dto pt ph (rd (rb f + nr L t)))
def FTR (m : Int) (pt ph al rm rot : Int → Int) : Prop := ∀ d x y, liv m al d → NDT m pt ph rm rot d x → NDT m pt ph rm rot x y → NDT m pt ph rm rot y d
def CUA (m : Int) (pt ph al rm rot : Int → Int) (z : Int) : Prop := z = 0 → FTR m pt ph al rm rot
theorem ct2_no {n m R f L k : Int} {pt ph al rm rot ro rb rd : Int → Int} (h : GRI n m pt ph al rm rot) (hc : CON n m pt ph al) (hn : 3 ≤ n) (hR : GRD m R pt ph al rm rot ro rb rd) (f0 : 0 ≤ f) (f1 : f < R) (h2 : CT2 m pt ph al rb rd f L k) (hk : L ≤ k) : False := by
  obtain ⟨b1, b2, b3, st⟩ := rnd_3 h hc hn hR f0 f1
  obtain ⟨⟨hg, m0⟩, hal, hr⟩ := h
  obtain ⟨hr1, nx, ρ, q1, q2, q3⟩ := hr
  have hE : EML n m pt ph al rm rot := eml_rot.2 ⟨hr1, nx, ρ, q1, q2, q3⟩
  obtain ⟨⟨hL, hL3⟩, ht⟩ := h2
  have l := fun t (a : 0 ≤ t) (b : t < L) => hR.2.1.2.1 (rb f + t) (by omega) (by omega)
  have s : ∀ t, 0 ≤ t → t + 1 < L → NDT m pt ph rm rot (rd (rb f + t)) (rd (rb f + (t + 1))) := fun t a b => by
    have := st (rb f + t) (by omega) (by omega)
    rw [if_neg (by omega), show rb f + t + 1 = rb f + (t + 1) by omega] at this; exact this
  have nxt : ∀ t, 0 ≤ t → t + 1 < L → dfr pt ph (rd (rb f + (t + 1))) = dto pt ph (rd (rb f + t)) ∧ dto pt ph (rd (rb f + (t + 1))) = nx (dfr pt ph (rd (rb f + t))) (dto pt ph (rd (rb f + t))) := fun t a b => ⟨(s t a b).2.2.1, ndt_nx hg hE.1 (fun i i0 i1 k k0 k1 => q3 i i0 i1 k k0 k1) (l t a (by omega)) (l (t + 1) (by omega) b) (s t a b)⟩
  have n0 := nxt 0 (by omega) (by omega)
  have n1 := nxt 1 (by omega) (by omega)
  have n2 := nxt 2 (by omega) (by omega)
  have c0 := ht 0 (by omega) (by omega)
  have c1 := ht 1 (by omega) (by omega)
  have c2 := ht 2 (by omega) (by omega)
  rw [nr_lt (by omega)] at c0 c1 c2
  have j0 := dart_J (pt := pt) (ph := ph) (l 0 (by omega) (by omega))
  rw [show (0 : Int) + 1 = 1 by omega] at n0 c0
  rw [show (1 : Int) + 1 = 2 by omega] at n1 c1
  rw [show (2 : Int) + 1 = 3 by omega] at n2 c2
  have key := cut3 q1 q2 (a := dfr pt ph (rd (rb f + 0))) (b := dto pt ph (rd (rb f + 0))) (c := dto pt ph (rd (rb f + 1))) (d := dto pt ph (rd (rb f + 2))) ⟨_, j0⟩ n0.2.symm (by rw [← n0.1]; exact n1.2.symm) c0 (by rw [← n0.1]; exact c1) (by rw [← n1.1, ← n2.2]; exact c2)
  rcases key with ⟨z1, z2⟩ | ⟨z1, z2⟩
  · exact hR.2.1.2.2 (rb f + 0) (rb f + 2) (by omega) (by omega) (by omega) (dart_ends hg (l 0 (by omega) (by omega)) (l 2 (by omega) (by omega)) (by rw [n1.1]; exact z1.symm) z2.symm)
  · refine hR.2.1.2.2 (rb f + 0) (rb f + 3) (by omega) (by omega) (by omega) (dart_ends hg (l 0 (by omega) (by omega)) (l 3 (by omega) (by omega)) (by rw [n2.1]; exact z1.symm) ?_)
    rw [n2.2, n1.1]; exact z2.symm
theorem ftr_of {n m R : Int} {pt ph al rm rot ro rb rd : Int → Int} (h : GRI n m pt ph al rm rot) (hc : CON n m pt ph al) (hn : 3 ≤ n) (hR : GRD m R pt ph al rm rot ro rb rd) {f : Int} (h1 : CT1 rb f) (hf : R ≤ f) : FTR m pt ph al rm rot := by
  intro d x y hd hx hy
  have hg := h.1.1
  have hr := h.2.2
  have hE := eml_rot.2 hr
  have lx := ndt_liv hg hE hd hx
  have ly := ndt_liv hg hE lx hy
  obtain ⟨r0, r1, p, p0, p1, p2⟩ := hR.2.2 d hd
  obtain ⟨b1, b2, b3, st⟩ := rnd_3 h hc hn hR r0 r1
  have en : nxb rb R (rb R) (ro d) = rb (ro d + 1) := by
    unfold nxb
    split
    · next q => rw [← q]
    · rfl
  rw [en] at p1
  have b4 := h1 (ro d) r0 (by omega)
  have hL : rb (ro d + 1) = rb (ro d) + 3 := by omega
  have l := fun t (a : rb (ro d) ≤ t) (b : t < rb (ro d + 1)) => hR.2.1.2.1 t (by omega) (by omega)
  -- three steps
  have go : ∀ t, rb (ro d) ≤ t → t < rb (ro d + 1) → ∃ t_zq, rb (ro d) ≤ t_zq ∧ t_zq < rb (ro d + 1) ∧ (t_zq = if t + 1 = rb (ro d + 1) then rb (ro d) else t + 1) ∧ NDT m pt ph rm rot (rd t) (rd t_zq) := fun t a b => ⟨_, by split <;> omega, by split <;> omega, rfl, st t a b⟩
  obtain ⟨p_zq, a1, a2, a3, a4⟩ := go p p0 p1
  obtain ⟨p_zq_zq, c1, c2, c3, c4⟩ := go p_zq a1 a2
  obtain ⟨p3, e1, e2, e3, e4⟩ := go p_zq_zq c1 c2
  have e5 : p3 = p := by
    have z1 : (p + 1 = rb (ro d + 1) ∧ p_zq = rb (ro d)) ∨ (p + 1 ≠ rb (ro d + 1) ∧ p_zq = p + 1) := by
      rw [a3]; split
      · next w => exact Or.inl ⟨w, rfl⟩
      · next w => exact Or.inr ⟨w, rfl⟩
    have z2 : (p_zq + 1 = rb (ro d + 1) ∧ p_zq_zq = rb (ro d)) ∨ (p_zq + 1 ≠ rb (ro d + 1) ∧ p_zq_zq = p_zq + 1) := by
      rw [c3]; split
      · next w => exact Or.inl ⟨w, rfl⟩
      · next w => exact Or.inr ⟨w, rfl⟩
    have z3 : (p_zq_zq + 1 = rb (ro d + 1) ∧ p3 = rb (ro d)) ∨ (p_zq_zq + 1 ≠ rb (ro d + 1) ∧ p3 = p_zq_zq + 1) := by
      rw [e3]; split
      · next w => exact Or.inl ⟨w, rfl⟩
      · next w => exact Or.inr ⟨w, rfl⟩
    omega
  rw [p2] at a4
  have x1 := ndt_fun hg hr hd hx a4
  rw [← x1] at c4
  have x2 := ndt_fun hg hr lx hy c4
  rw [← x2, e5, p2] at e4
  exact e4
theorem con_new {n m m_zq p v q w s t : Int} {pt ph al pt_zq ph_zq al_zq : Int → Int} (h : CON n m pt ph al) (hs : st1 pt pt_zq p v) (hp : p = m) (ht : st1 ph ph_zq q w) (hq : q = m) (hu : st1 al al_zq s t) (hs_zq : s = m) (hm_zq : m_zq = m + 1) : CON n m_zq pt_zq ph_zq al_zq := by
  intro y a b
  refine rc_mono (fun u v z => ?_) (h y a b)
  have hj := JJ_congr (m := m) (pt := pt) (ph := ph) (al := al) (pt_zq := pt_zq) (ph_zq := ph_zq) (al_zq := al_zq) (fun e a b => ⟨(hs e a).2 (by omega), (ht e a).2 (by omega), (hu e a).2 (by omega)⟩)
  obtain ⟨e, j⟩ := z
  rw [← hj] at j
  exact ⟨e, j.1, by have := j.2.1; omega, j.2.2⟩
theorem pn3_of {n m R f k L a c d x r : Int} {pt ph al rm rot ro rb rd : Int → Int} (h : GRI n m pt ph al rm rot) (hc : CON n m pt ph al) (hn : 3 ≤ n) (hR : GRD m R pt ph al rm rot ro rb rd) (f0 : 0 ≤ f) (f1 : f < R) (k0 : 0 ≤ k) (hL : L = rb (f + 1) - rb f) (k1 : k < L) (hd : d = rd (rb f + k)) (hx : x = rd (rb f + nr L k)) (ha : DFR pt ph d a) (hc_zq : DTO pt ph x c) (hne : a ≠ c) (he : EOF m pt ph al a c r) (hr : r < 0) : PN3 n m pt ph al rm rot a c d x := by
  obtain ⟨b1, b2, b3, st⟩ := rnd_3 h hc hn hR f0 f1
  have hg := h.1.1
  have z := nr_rng k0 k1
  have ld := hR.2.1.2.1 (rb f + k) (by omega) (by omega)
  have lx := hR.2.1.2.1 (rb f + nr L k) (by omega) (by omega)
  have s := st (rb f + k) (by omega) (by omega)
  have e : (if rb f + k + 1 = rb (f + 1) then rb f else rb f + k + 1) = rb f + nr L k := by
    unfold nr
    by_cases w : k + 1 = L
    · rw [if_pos w, if_pos (by omega)]; omega
    · rw [if_neg w, if_neg (by omega)]; omega
  rw [e, ← hd, ← hx] at s
  rw [← hd] at ld
  rw [← hx] at lx
  have jd := JJ_rng hg (dart_J (pt := pt) (ph := ph) ld)
  have jx := JJ_rng hg (dart_J (pt := pt) (ph := ph) lx)
  have ea : dfr pt ph d = a := ha.symm
  have ec : dto pt ph x = c := hc_zq.symm
  rw [ea] at jd
  rw [ec] at jx
  refine ⟨h, ⟨jd.1, jd.2.1, jx.2.2.1, jx.2.2.2, hne, fun g g0 g1 j => ?_⟩, fun w => by omega, fun _ => ⟨ld, s, ea, ec⟩⟩
  rcases he with ⟨_, w⟩ | w
  · exact w g ⟨g0, g1, h.2.1 g g0 g1, j⟩
  · have := w.1; omega
theorem ct2_next {m f L k k_zq a c d x r : Int} {pt ph al rb rd : Int → Int} (h : CT2 m pt ph al rb rd f L k) (hk : k_zq = k + 1) (hd : d = rd (rb f + k)) (hx : x = rd (rb f + nr L k)) (ha : DFR pt ph d a) (hc : DTO pt ph x c) (ho : a = c ∨ (EOF m pt ph al a c r ∧ 0 ≤ r)) : CT2 m pt ph al rb rd f L k_zq := by
  refine ⟨h.1, fun t t0 t1 => ?_⟩
  by_cases q : t = k
  · rw [q, ← hd, ← hx, ← ha, ← hc]
    rcases ho with w | ⟨w | w, w2⟩
    · exact Or.inl w
    · have := w.1; omega
    · exact Or.inr ⟨_, w⟩
  · exact h.2 t t0 (by omega)
end
section
/-! canonical: what stands around the node that leaves -/
theorem em_lt {a n : Int} (h0 : 0 ≤ a) (h1 : a < n) : a % n = a := Int.emod_eq_of_lt h0 h1
theorem em_sub {a n : Int} (h0 : n ≤ a) (h1 : a < 2 * n) : a % n = a - n := by
  have e : a % n = ((a - n) + n * 1) % n := by congr 1; omega
  rw [e, Int.add_mul_emod_self_left, Int.emod_eq_of_lt (by omega) (by omega)]
theorem em_ab {a n : Int} (h0 : 0 ≤ a) (h1 : a < 2 * n) : (a < n ∧ a % n = a) ∨ (n ≤ a ∧ a % n = a - n) := by
  by_cases q : a < n
  · exact Or.inl ⟨q, em_lt h0 q⟩
  · exact Or.inr ⟨by omega, em_sub (by omega) h1⟩
/-- from s on, all of F in a row, then e -/
theorem stretch {many at_zq s e : Int} {row nxx : Int → Int} {F : Int → Prop} (hd : ∀ t t_zq, 0 ≤ t → t < t_zq → t_zq < many → row t ≠ row t_zq) (a0 : 0 ≤ at_zq) (a1 : at_zq < many) (hs : row at_zq = s) (Fs : F s) (Fe : ¬ F e)
    (hin : ∀ t, 0 ≤ t → t < many → F (row t) ∨ row t = e) (he : ∃ t, 0 ≤ t ∧ t < many ∧ row t = e)
    (hst : ∀ t, 0 ≤ t → t < many → F (row t) → row ((t + 1) % many) = nxx (row t))
    (hcl : ∀ L : Int → Prop, L s → (∀ w, F w → L w → F (nxx w) → L (nxx w)) → ∀ w, F w → L w) :
    (∀ i, 0 ≤ i → i + 1 < many → F (row ((at_zq + i) % many))) ∧ row ((at_zq + (many - 1)) % many) = e ∧ 2 ≤ many := by
  have inj : ∀ t t_zq, 0 ≤ t → t < many → 0 ≤ t_zq → t_zq < many → row t = row t_zq → t = t_zq := fun t t_zq h1 h2 h3 h4 z => by
    rcases Int.lt_trichotomy t t_zq with q | q | q
    · exact absurd z (hd t t_zq h1 q h4)
    · exact q
    · exact absurd z.symm (hd t_zq t h3 q h2)
  -- the first one that is e
  have hj : ∃ j : Nat, (j : Int) < many ∧ row ((at_zq + (j : Int)) % many) = e ∧ ∀ i : Nat, i < j → row ((at_zq + (i : Int)) % many) ≠ e := by
    obtain ⟨t, t0, t1, t2⟩ := he
    have ex : ∃ j : Nat, (j : Int) < many ∧ row ((at_zq + (j : Int)) % many) = e := by
      by_cases q : at_zq ≤ t
      · exact ⟨(t - at_zq).toNat, by omega, by rw [show at_zq + (((t - at_zq).toNat : Nat) : Int) = t by omega, em_lt t0 t1]; exact t2⟩
      · exact ⟨(t + many - at_zq).toNat, by omega, by rw [show at_zq + (((t + many - at_zq).toNat : Nat) : Int) = t + many by omega, em_sub (by omega) (by omega), show t + many - many = t by omega]; exact t2⟩
    obtain ⟨j, j1, j2⟩ := ex
    induction j using Nat.strongRecOn with
    | _ j ih =>
      by_cases q : ∃ i : Nat, i < j ∧ row ((at_zq + (i : Int)) % many) = e
      · obtain ⟨i, i1, i2⟩ := q
        exact ih i i1 (by omega) i2
      · exact ⟨j, j1, j2, fun i hi z => q ⟨i, hi, z⟩⟩
  obtain ⟨j, j1, j2, j3⟩ := hj
  have rng : ∀ i : Int, 0 ≤ i → i < many → 0 ≤ (at_zq + i) % many ∧ (at_zq + i) % many < many := fun i _ _ => ⟨Int.emod_nonneg _ (by omega), Int.emod_lt_of_pos _ (by omega)⟩
  have Fi : ∀ i : Nat, i < j → F (row ((at_zq + (i : Int)) % many)) := fun i hi => by
    have r := rng (i : Int) (by omega) (by omega)
    rcases hin _ r.1 r.2 with q | q
    · exact q
    · exact absurd q (j3 i hi)
  have nxt : ∀ i : Nat, i < j → row ((at_zq + ((i + 1 : Nat) : Int)) % many) = nxx (row ((at_zq + (i : Int)) % many)) := fun i hi => by
    have r := rng (i : Int) (by omega) (by omega)
    have := hst _ r.1 r.2 (Fi i hi)
    rw [show ((at_zq + (i : Int)) % many + 1) % many = (at_zq + ((i + 1 : Nat) : Int)) % many by rw [Int.emod_add_emod]; congr 1; omega] at this
    exact this
  have j0 : 0 < j := by
    rcases Nat.eq_zero_or_pos j with q | q
    · subst q
      rw [show at_zq + ((0 : Nat) : Int) = at_zq by omega, em_lt a0 a1, hs] at j2
      rw [j2] at Fs; exact absurd Fs Fe
    · exact q
  have hL := hcl (fun w => ∃ i : Nat, i < j ∧ w = row ((at_zq + (i : Int)) % many)) ⟨0, j0, by rw [show at_zq + ((0 : Nat) : Int) = at_zq by omega, em_lt a0 a1, hs]⟩ (fun w Fw ⟨i, i1, i2⟩ Fn => by
    by_cases q : i + 1 < j
    · exact ⟨i + 1, q, by rw [nxt i i1, i2]⟩
    · have : i + 1 = j := by omega
      have z := nxt i i1
      rw [this, j2, ← i2] at z
      rw [← z] at Fn; exact absurd Fn Fe)
  -- so there are no more
  have hm : many ≤ (j : Int) + 1 := by
    have hx : ∀ t, ∃ i : Nat, (0 ≤ t ∧ t < many) → i < j + 1 ∧ row t = row ((at_zq + (i : Int)) % many) := fun t => by
      by_cases q : 0 ≤ t ∧ t < many
      · rcases hin t q.1 q.2 with w | w
        · obtain ⟨i, i1, i2⟩ := hL _ w
          exact ⟨i, fun _ => ⟨by omega, i2⟩⟩
        · exact ⟨j, fun _ => ⟨by omega, by rw [j2]; exact w⟩⟩
      · exact ⟨0, fun z => absurd z q⟩
    obtain ⟨I, hI⟩ : ∃ I : Int → Nat, ∀ t, (0 ≤ t ∧ t < many) → I t < j + 1 ∧ row t = row ((at_zq + (I t : Int)) % many) := ⟨fun t => Classical.choose (hx t), fun t => Classical.choose_spec (hx t)⟩
    have := php many.toNat (j + 1) (fun t => I (t : Int)) (fun t ht => (hI t (by omega)).1) (fun a b ha hb z => by
      have z_zq : I (a : Int) = I (b : Int) := z
      have x1 := (hI a (by omega)).2
      have x2 := (hI b (by omega)).2
      rw [z_zq] at x1
      have := inj a b (by omega) (by omega) (by omega) (by omega) (x1.trans x2.symm)
      omega)
    omega
  have e1 : (j : Int) = many - 1 := by omega
  refine ⟨fun i i0 i1 => ?_, by rw [← e1]; exact j2, by omega⟩
  have := Fi i.toNat (by omega)
  rw [show ((i.toNat : Nat) : Int) = i by omega] at this
  exact this
/-- the entries of a row that are left, in their order -/
def GTH (lf : Int → Prop) (R : Int → Int) (row : Int → Int) (K many : Int) : Prop := 0 ≤ many ∧ many ≤ K ∧ ∃ κ : Int → Int, (∀ t, 0 ≤ t → t < many → 0 ≤ κ t ∧ κ t < K ∧ row t = R (κ t) ∧ lf (R (κ t))) ∧ (∀ t t_zq, 0 ≤ t → t < t_zq → t_zq < many → κ t < κ t_zq) ∧ ∀ k, 0 ≤ k → k < K → lf (R k) → ∃ t, 0 ≤ t ∧ t < many ∧ κ t = k
theorem gth_0 {lf : Int → Prop} {R row : Int → Int} {K many : Int} (hk : K = 0) (hm : many = 0) : GTH lf R row K many := by
  subst hk; subst hm
  exact ⟨by omega, by omega, fun _ => 0, fun t a b => by omega, fun t t_zq a b c => by omega, fun k a b => by omega⟩
theorem gth_skip {lf : Int → Prop} {R row : Int → Int} {K K_zq many : Int} (h : GTH lf R row K many) (hk : K_zq = K + 1) (hn : ¬ lf (R K)) : GTH lf R row K_zq many := by
  obtain ⟨h1, h2, κ, h3, h4, h5⟩ := h
  refine ⟨h1, by omega, κ, fun t a b => by have := h3 t a b; exact ⟨this.1, by omega, this.2.2⟩, h4, fun k a b c => ?_⟩
  by_cases q : k = K
  · rw [q] at c; exact absurd c hn
  · exact h5 k a (by omega) c
theorem gth_take {lf : Int → Prop} {R row row_zq : Int → Int} {K K_zq many many_zq p v : Int} (h : GTH lf R row K many) (hk : K_zq = K + 1) (k0 : 0 ≤ K) (hl : lf (R K)) (hm : many_zq = many + 1) (hs : st1 row row_zq p v) (hp : p = many) (hv : v = R K) : GTH lf R row_zq K_zq many_zq := by
  obtain ⟨h1, h2, κ, h3, h4, h5⟩ := h
  have ro : ∀ t, 0 ≤ t → t < many → row_zq t = row t := fun t a b => (hs t a).2 (by omega)
  have rn : row_zq many = R K := ((hs many h1).1 hp.symm).trans hv
  refine ⟨by omega, by omega, fun t => if t = many then K else κ t, fun t a b => ?_, fun t t_zq a b c => ?_, fun k a b c => ?_⟩
  · by_cases q : t = many
    · show 0 ≤ (if t = many then K else κ t) ∧ (if t = many then K else κ t) < K_zq ∧ row_zq t = R (if t = many then K else κ t) ∧ lf (R (if t = many then K else κ t))
      rw [if_pos q, q]; exact ⟨k0, by omega, rn, hl⟩
    · show 0 ≤ (if t = many then K else κ t) ∧ (if t = many then K else κ t) < K_zq ∧ row_zq t = R (if t = many then K else κ t) ∧ lf (R (if t = many then K else κ t))
      rw [if_neg q, ro t a (by omega)]
      have := h3 t a (by omega)
      exact ⟨this.1, by omega, this.2.2⟩
  · show (if t = many then K else κ t) < (if t_zq = many then K else κ t_zq)
    rw [if_neg (by omega)]
    by_cases q : t_zq = many
    · rw [if_pos q]; exact (h3 t a (by omega)).2.1
    · rw [if_neg q]; exact h4 t t_zq a b (by omega)
  · by_cases q : k = K
    · exact ⟨many, h1, by omega, by show (if many = many then K else κ many) = k; rw [if_pos rfl]; exact q.symm⟩
    · obtain ⟨t, t0, t1, t2⟩ := h5 k a (by omega) c
      exact ⟨t, t0, by omega, by show (if t = many then K else κ t) = k; rw [if_neg (by omega)]; exact t2⟩
/-- one place on in the row of all is one place on in the row of those -/
theorem gth_next {lf : Int → Prop} {R row : Int → Int} {K many t k : Int} (h : GTH lf R row K many) (t0 : 0 ≤ t) (t1 : t < many) {κt : Int} (hk : row t = R κt) (k0 : 0 ≤ κt) (k1 : κt < K) (hi : ∀ a b, 0 ≤ a → a < K → 0 ≤ b → b < K → R a = R b → a = b) (hn : nr K κt = k) (hl : lf (R k)) : row ((t + 1) % many) = R k := by
  obtain ⟨h1, h2, κ, h3, h4, h5⟩ := h
  have e := h3 t t0 t1
  have ek : κ t = κt := hi _ _ e.1 e.2.1 k0 k1 (e.2.2.1.symm.trans hk)
  have kr := nr_rng k0 k1
  rw [hn] at kr
  obtain ⟨s, s0, s1, s2⟩ := h5 k kr.1 kr.2 hl
  have mono : ∀ a b, 0 ≤ a → a < many → 0 ≤ b → b < many → κ a < κ b → a < b := fun a b a0 a1 b0 b1 z => by
    rcases Int.lt_trichotomy a b with q | q | q
    · exact q
    · rw [q] at z; omega
    · have := h4 b a b0 q a1; omega
  have es : s = (t + 1) % many := by
    by_cases q : κt + 1 = K
    · rw [nr_eq q] at hn
      -- t is the last, s the first
      have hs0 : s = 0 := Classical.byContradiction (fun z => by have := h4 0 s (by omega) (by omega) s1; have := (h3 0 (by omega) (by omega)).1; omega)
      have ht1 : t + 1 = many := Classical.byContradiction (fun z => by have := h4 t (t + 1) t0 (by omega) (by omega); have := (h3 (t + 1) (by omega) (by omega)).2.1; omega)
      rw [ht1, hs0, Int.emod_self]
    · rw [nr_lt (by omega)] at hn
      have lt := mono t s t0 t1 s0 s1 (by omega)
      have : s = t + 1 := Classical.byContradiction (fun z => by
        have z1 := h4 t (t + 1) t0 (by omega) (by omega)
        have z2 := h4 (t + 1) s (by omega) (by omega) s1
        omega)
      rw [this, em_lt (by omega) (by omega)]
  rw [← es, (h3 s s0 s1).2.2.1, s2]
end
section
/-! canonical: the state, and one node less -/
def foll (n : Int) (pt ph rm rot : Int → Int) (nx : Int → Int → Int) : Prop := ∀ i, 0 ≤ i → i < n → ∀ k, 0 ≤ k → k < rm i → nx (acr pt ph (rt rot i k) i) i = acr pt ph (rt rot i (nr (rm i) k)) i
def lfn (n : Int) (left : Int → Int) (z : Int) : Prop := (0 ≤ z ∧ z < n) ∧ left z ≠ 0
def CNB (n m : Int) (pt ph al rm rot : Int → Int) : Prop := GRI n m pt ph al rm rot ∧ CON n m pt ph al ∧ FTR m pt ph al rm rot ∧ 3 ≤ n ∧ n ≤ 24
theorem ndt_ex {n m d : Int} {pt ph al rm rot : Int → Int} (hg : GOK n m pt ph) (hr : ROT n m pt ph al rm rot) (hd : liv m al d) : ∃ x, NDT m pt ph rm rot d x := by
  have jd := dart_J (pt := pt) (ph := ph) hd
  have rv := JJ_rng hg jd
  obtain ⟨r1, r2, r3, r4⟩ := hr.1 _ rv.2.2.1 rv.2.2.2
  obtain ⟨k, k0, k1, k2⟩ := r4 _ _ (JJ_sym _ _ _ jd)
  have z := nr_rng k0 k1
  obtain ⟨y, j⟩ := r2 _ z.1 z.2
  obtain ⟨x, x1, x2, x3⟩ := dart_of j
  have ex : x / 2 = rt rot (dto pt ph d) (nr (rm (dto pt ph d)) k) := by
    have jx := dart_J (pt := pt) (ph := ph) x1
    rw [x2, x3] at jx
    exact JJ_one hg jx j
  exact ⟨x, x1.1, x1.2.1, x2, k, k0, k1, k2, ex.symm⟩
theorem ftri_of {n m : Int} {pt ph al rm rot : Int → Int} {nx : Int → Int → Int} (hg : GOK n m pt ph) (hr : ROT n m pt ph al rm rot) (hf : FTR m pt ph al rm rot) (hq : foll n pt ph rm rot nx) : ftri (jA m pt ph al) nx := by
  intro a b ⟨e, j⟩
  have hE := eml_rot.2 hr
  obtain ⟨d, d1, d2, d3⟩ := dart_of j
  obtain ⟨x, hx⟩ := ndt_ex hg hr d1
  have lx := ndt_liv hg hE d1 hx
  obtain ⟨y, hy⟩ := ndt_ex hg hr lx
  have ly := ndt_liv hg hE lx hy
  have hz := hf d x y d1 hx hy
  have e1 := ndt_nx hg hE.1 hq d1 lx hx
  have e2 := ndt_nx hg hE.1 hq lx ly hy
  rw [d2, d3] at e1
  rw [hx.2.2.1, d3, e1] at e2
  rw [← e2, ← hz.2.2.1]; exact d2
theorem bdi (b : Bool) : b = false ∨ b = true := by cases b <;> simp
/-- the neighbours around x, of which those that are left stand in a row -/
theorem rev_y {n m upper p many at_zq : Int} {pt ph al rm rot U row : Int → Int} {nx : Int → Int → Int} {u v : Int} {lf : Int → Prop} {ω : Int → Int → Bool} (hg : GOK n m pt ph) (hr : ROT n m pt ph al rm rot) (hm : mp (jA m pt ph al) nx) (hq : foll n pt ph rm rot nx) (h0 : cnv0 u v upper U lf (jA m pt ph al)) (hw : cnvw (jA m pt ph al) nx u v upper U lf ω) (hp : 1 ≤ p) (hp1 : p + 1 < upper) (x0 : 0 ≤ U p) (x1 : U p < n)
    (hG : GTH (fun z => lf z ∧ z ≠ U p) (fun k => acr pt ph (rt rot (U p) k) (U p)) row (rm (U p)) many) (a0 : 0 ≤ at_zq) (a1 : at_zq < many) (ha : row at_zq = U (p - 1)) :
    2 ≤ many ∧ (∀ t, 0 ≤ t → t < many → jA m pt ph al (row t) (U p) ∧ lf (row t)) ∧ (∀ t t_zq, 0 ≤ t → t < t_zq → t_zq < many → row t ≠ row t_zq) ∧
    ((row ((at_zq + (many - 1)) % many) = U (p + 1) ∧ ∀ i, 0 ≤ i → i + 1 < many → ω (row ((at_zq + i) % many)) (U p) = false ∧ nx (row ((at_zq + i) % many)) (U p) = row ((at_zq + i + 1) % many)) ∨
     (∃ tr, 0 ≤ tr ∧ tr < many ∧ row tr = U (p + 1) ∧ (tr + (many - 1)) % many = at_zq ∧ ∀ i, 0 ≤ i → i + 1 < many → ω (row ((tr + i) % many)) (U p) = false ∧ nx (row ((tr + i) % many)) (U p) = row ((tr + i + 1) % many))) := by
  obtain ⟨hR1, _⟩ := hr
  obtain ⟨r1, r2, r3, r4⟩ := hR1 (U p) x0 x1
  have irr := JJ_irr (al := al) hg
  obtain ⟨w0, w1, w2, w3, w4, w5⟩ := hw
  have hA : ∀ k, 0 ≤ k → k < rm (U p) → jA m pt ph al (acr pt ph (rt rot (U p) k) (U p)) (U p) := fun k k0 k1 => by
    obtain ⟨y, j⟩ := r2 k k0 k1
    rw [acr_is (irr _ _ _ j) j]; exact ⟨_, JJ_sym _ _ _ j⟩
  have pos : ∀ z, jA m pt ph al z (U p) → ∃ k, 0 ≤ k ∧ k < rm (U p) ∧ acr pt ph (rt rot (U p) k) (U p) = z := fun z ⟨e, j⟩ => by
    obtain ⟨k, k0, k1, k2⟩ := r4 e z (JJ_sym _ _ _ j)
    exact ⟨k, k0, k1, by rw [k2]; exact acr_is (irr _ _ _ (JJ_sym _ _ _ j)) (JJ_sym _ _ _ j)⟩
  have einj : ∀ a b, 0 ≤ a → a < rm (U p) → 0 ≤ b → b < rm (U p) → acr pt ph (rt rot (U p) a) (U p) = acr pt ph (rt rot (U p) b) (U p) → a = b := fun a b a0 a1 b0 b1 z => by
    obtain ⟨y, j⟩ := r2 a a0 a1
    obtain ⟨y_zq, j_zq⟩ := r2 b b0 b1
    have w := acr_inj hg j j_zq z
    rcases Int.lt_trichotomy a b with t | t | t
    · exact absurd w (r3 a b a0 t b1)
    · exact t
    · exact absurd w.symm (r3 b a b0 t a1)
  have hG_zq := hG
  obtain ⟨g1, g2, κ, g3, g4, g5⟩ := hG
  have rowA : ∀ t, 0 ≤ t → t < many → jA m pt ph al (row t) (U p) ∧ lf (row t) := fun t t0 t1 => by
    obtain ⟨q1, q2, q3, q4⟩ := g3 t t0 t1
    rw [q3]; exact ⟨hA _ q1 q2, q4.1⟩
  have rowD : ∀ t t_zq, 0 ≤ t → t < t_zq → t_zq < many → row t ≠ row t_zq := fun t t_zq t0 tt t1 z => by
    obtain ⟨q1, q2, q3, q4⟩ := g3 t t0 (by omega)
    obtain ⟨s1, s2, s3, s4⟩ := g3 t_zq (by omega) t1
    rw [q3, s3] at z
    have := einj _ _ q1 q2 s1 s2 z
    have := g4 t t_zq t0 tt t1
    omega
  have hl0 := h0.2.2.2.1
  have hne : U (p - 1) ≠ U (p + 1) := h0.2.2.2.2.1 _ _ (by omega) (by omega) (by omega)
  have hl : jA m pt ph al (U (p - 1)) (U p) := by have := h0.2.2.2.2.2.1 (p - 1) (by omega) (by omega); rw [show p - 1 + 1 = p by omega] at this; exact this
  have hrr : jA m pt ph al (U (p + 1)) (U p) := hm.1.1 _ _ (h0.2.2.2.2.2.1 p (by omega) (by omega))
  have nxt : ∀ w, jA m pt ph al w (U p) → ω (nx w (U p)) (U p) = (ω w (U p) ^^ pb (Lam u v upper U (nx w (U p)) (U p))) := fun w h => w_next hm w0 w1 h
  have lam : ∀ z, Lam u v upper U z (U p) ↔ z = U (p - 1) ∨ z = U (p + 1) := fun z => lam_at h0 hp hp1
  have Flf : ∀ w, jA m pt ph al w (U p) → ω w (U p) = false → lf w := fun w h q => Classical.byContradiction (fun z => by
    have := (w2 _ _ (hm.1.1 _ _ h) z).2
    rw [this] at q; exact absurd q (by decide))
  have inrow : ∀ w, jA m pt ph al w (U p) → lf w → ∃ t, 0 ≤ t ∧ t < many ∧ row t = w := fun w h q => by
    obtain ⟨k, k0, k1, k2⟩ := pos w h
    obtain ⟨t, t0, t1, t2⟩ := g5 k k0 k1 ⟨by show lf (acr pt ph (rt rot (U p) k) (U p)); rw [k2]; exact q, by show acr pt ph (rt rot (U p) k) (U p) ≠ U p; rw [k2]; obtain ⟨e, j⟩ := h; exact irr _ _ _ j⟩
    exact ⟨t, t0, t1, by rw [(g3 t t0 t1).2.2.1, t2]; exact k2⟩
  have lUp : lf (U p) := hl0 p (by omega) (by omega)
  -- the stretch, from one neighbour on the line to the other
  have core : ∀ s e ts, (s = U (p - 1) ∧ e = U (p + 1)) ∨ (s = U (p + 1) ∧ e = U (p - 1)) → 0 ≤ ts → ts < many → row ts = s → ω s (U p) = false →
      (∀ i, 0 ≤ i → i + 1 < many → ω (row ((ts + i) % many)) (U p) = false ∧ nx (row ((ts + i) % many)) (U p) = row ((ts + i + 1) % many)) ∧ row ((ts + (many - 1)) % many) = e ∧ 2 ≤ many := by
    intro s e ts hse ts0 ts1 hts hs
    have hsA : jA m pt ph al s (U p) := by rcases hse with ⟨z, _⟩ | ⟨z, _⟩ <;> rw [z] <;> assumption
    have heA : jA m pt ph al e (U p) := by rcases hse with ⟨_, z⟩ | ⟨_, z⟩ <;> rw [z] <;> assumption
    have hsl : ∀ z, Lam u v upper U z (U p) ↔ z = s ∨ z = e := fun z => by
      rw [lam z]
      rcases hse with ⟨a, b⟩ | ⟨a, b⟩
      · rw [a, b]
      · rw [a, b]; exact ⟨Or.symm, Or.symm⟩
    have hse_zq : s ≠ e := by rcases hse with ⟨a, b⟩ | ⟨a, b⟩ <;> omega
    have hlfe : lf e := by rcases hse with ⟨_, b⟩ | ⟨_, b⟩ <;> rw [b] <;> exact hl0 _ (by omega) (by omega)
    -- e is on the other side
    have he : ω e (U p) = true := by
      rcases bdi (ω e (U p)) with hb | hb
      · exfalso
        obtain ⟨ks, ks0, ks1, ks2⟩ := pos s hsA
        obtain ⟨kp, kp0, kp1, kp2⟩ : ∃ kp, 0 ≤ kp ∧ kp < rm (U p) ∧ nr (rm (U p)) kp = ks := by
          by_cases z : ks = 0
          · exact ⟨rm (U p) - 1, by omega, by omega, by rw [nr_eq (by omega), z]⟩
          · exact ⟨ks - 1, by omega, by omega, by rw [nr_lt (by omega)]; omega⟩
        have f1 := hq (U p) x0 x1 kp kp0 kp1
        rw [kp2, ks2] at f1
        have cl := hm.2.2.2 (U p) (fun w => ω w (U p) = false) (fun w hw_zq q => by
          have w_zq := nxt w hw_zq
          rcases bdi (pb (Lam u v upper U (nx w (U p)) (U p))) with hx | hx
          · rw [q, hx] at w_zq; exact w_zq
          · exfalso
            rw [q, hx] at w_zq
            rcases (hsl _).1 (pb_i hx) with z | z
            · rw [z, hs] at w_zq; exact absurd w_zq (by decide)
            · rw [z, hb] at w_zq; exact absurd w_zq (by decide)) s _ hsA (hA kp kp0 kp1) hs
        have w_zq := nxt _ (hA kp kp0 kp1)
        rw [f1, hs, cl, pb_t ((hsl s).2 (Or.inl rfl))] at w_zq
        exact absurd w_zq (by decide)
      · exact hb
    have hst : ∀ t, 0 ≤ t → t < many → (jA m pt ph al (row t) (U p) ∧ ω (row t) (U p) = false) → row ((t + 1) % many) = nx (row t) (U p) := fun t t0 t1 ⟨q1, q2⟩ => by
      obtain ⟨z1, z2, z3_zq, z4⟩ := g3 t t0 t1
      have z3 : row t = acr pt ph (rt rot (U p) (κ t)) (U p) := z3_zq
      have f1 := hq (U p) x0 x1 (κ t) z1 z2
      rw [← z3] at f1
      have zr := nr_rng z1 z2
      have hA_zq : jA m pt ph al (nx (row t) (U p)) (U p) := hm.1.1 _ _ (hm.2.1 _ _ q1)
      have lfn_zq : lf (nx (row t) (U p)) := by
        rcases bdi (ω (nx (row t) (U p)) (U p)) with hx | hx
        · exact Flf _ hA_zq hx
        · have w_zq := nxt (row t) q1
          rcases bdi (pb (Lam u v upper U (nx (row t) (U p)) (U p))) with hy | hy
          · rw [hx, q2, hy] at w_zq; exact absurd w_zq (by decide)
          · rcases (hsl _).1 (pb_i hy) with z | z
            · rw [z, ← hts]; exact (rowA ts ts0 ts1).2
            · rw [z]; exact hlfe
      have nep : nx (row t) (U p) ≠ U p := by obtain ⟨e, j⟩ := hA_zq; exact irr _ _ _ j
      have := gth_next hG_zq t0 t1 (κt := κ t) z3 z1 z2 einj rfl (by
        show lf (acr pt ph (rt rot (U p) (nr (rm (U p)) (κ t))) (U p)) ∧ acr pt ph (rt rot (U p) (nr (rm (U p)) (κ t))) (U p) ≠ U p
        rw [← f1]; exact ⟨lfn_zq, nep⟩)
      rw [this]; exact f1.symm
    have st := stretch (many := many) (at_zq := ts) (s := s) (e := e) (row := row) (nxx := fun w => nx w (U p)) (F := fun w => jA m pt ph al w (U p) ∧ ω w (U p) = false) rowD ts0 ts1 hts ⟨hsA, hs⟩ (fun z => by rw [he] at z; exact absurd z.2 (by decide))
      (fun t t0 t1 => by
        obtain ⟨q1, q2⟩ := rowA t t0 t1
        rcases bdi (ω (row t) (U p)) with hx | hx
        · exact Or.inl ⟨q1, hx⟩
        · rcases (hsl _).1 (w5 _ _ q1 q2 lUp hx) with z | z
          · rw [z, hs] at hx; exact absurd hx (by decide)
          · exact Or.inr z)
      (inrow e heA hlfe) hst
      (fun L Ls hL w ⟨hw_zq, q⟩ => by
        have cl := hm.2.2.2 (U p) (fun z => ω z (U p) = true ∨ L z) (fun z hz hq_zq => by
          have hA_zq : jA m pt ph al (nx z (U p)) (U p) := hm.1.1 _ _ (hm.2.1 _ _ hz)
          rcases bdi (ω (nx z (U p)) (U p)) with hx | hx
          · rcases bdi (ω z (U p)) with hb | hb
            · rcases hq_zq with y | y
              · rw [hb] at y; exact absurd y (by decide)
              · exact Or.inr (hL z ⟨hz, hb⟩ y ⟨hA_zq, hx⟩)
            · have w_zq := nxt z hz
              rcases bdi (pb (Lam u v upper U (nx z (U p)) (U p))) with hy | hy
              · rw [hx, hb, hy] at w_zq; exact absurd w_zq (by decide)
              · rcases (hsl _).1 (pb_i hy) with y | y
                · rw [y]; exact Or.inr Ls
                · rw [y, he] at hx; exact absurd hx (by decide)
          · exact Or.inl hx) s w hsA hw_zq (Or.inr Ls)
        rcases cl with y | y
        · rw [q] at y; exact absurd y (by decide)
        · exact y)
    refine ⟨fun i i0 i1 => ?_, st.2.1, st.2.2⟩
    have F := st.1 i i0 i1
    have rg : 0 ≤ (ts + i) % many ∧ (ts + i) % many < many := ⟨Int.emod_nonneg _ (by omega), Int.emod_lt_of_pos _ (by omega)⟩
    refine ⟨F.2, ?_⟩
    rw [← hst _ rg.1 rg.2 F, Int.emod_add_emod]
  have hlA := hl
  rcases bdi (ω (U (p - 1)) (U p)) with hx | hx
  · obtain ⟨c1, c2, c3⟩ := core _ _ at_zq (Or.inl ⟨rfl, rfl⟩) a0 a1 ha hx
    exact ⟨c3, rowA, rowD, Or.inl ⟨c2, c1⟩⟩
  · -- then the other one is inside
    have hx2 : ω (U (p + 1)) (U p) = false := by
      rcases bdi (ω (U (p + 1)) (U p)) with hb | hb
      · exact hb
      · exfalso
        obtain ⟨ks, ks0, ks1, ks2⟩ := pos _ hl
        obtain ⟨kp, kp0, kp1, kp2⟩ : ∃ kp, 0 ≤ kp ∧ kp < rm (U p) ∧ nr (rm (U p)) kp = ks := by
          by_cases z : ks = 0
          · exact ⟨rm (U p) - 1, by omega, by omega, by rw [nr_eq (by omega), z]⟩
          · exact ⟨ks - 1, by omega, by omega, by rw [nr_lt (by omega)]; omega⟩
        have f1 := hq (U p) x0 x1 kp kp0 kp1
        rw [kp2, ks2] at f1
        have cl := hm.2.2.2 (U p) (fun w => ω w (U p) = true) (fun w hw_zq q => by
          have w_zq := nxt w hw_zq
          rcases bdi (pb (Lam u v upper U (nx w (U p)) (U p))) with hy | hy
          · rw [q, hy] at w_zq; exact w_zq
          · exfalso
            rw [q, hy] at w_zq
            rcases (lam _).1 (pb_i hy) with z | z
            · rw [z, hx] at w_zq; exact absurd w_zq (by decide)
            · rw [z, hb] at w_zq; exact absurd w_zq (by decide)) _ _ hl (hA kp kp0 kp1) hx
        have w_zq := nxt _ (hA kp kp0 kp1)
        rw [f1, hx, cl, pb_t ((lam _).2 (Or.inl rfl))] at w_zq
        exact absurd w_zq (by decide)
    obtain ⟨tr, tr0, tr1, tr2⟩ := inrow _ hrr (hl0 _ (by omega) (by omega))
    obtain ⟨c1, c2, c3⟩ := core _ _ tr (Or.inr ⟨rfl, rfl⟩) tr0 tr1 tr2 hx2
    have rg : 0 ≤ (tr + (many - 1)) % many ∧ (tr + (many - 1)) % many < many := ⟨Int.emod_nonneg _ (by omega), Int.emod_lt_of_pos _ (by omega)⟩
    have ea : (tr + (many - 1)) % many = at_zq := by
      rcases Int.lt_trichotomy ((tr + (many - 1)) % many) at_zq with z | z | z
      · exact absurd (c2.trans ha.symm) (rowD _ _ rg.1 z a1)
      · exact z
      · exact absurd (ha.trans c2.symm) (rowD _ _ a0 z rg.2)
    exact ⟨c3, rowA, rowD, Or.inr ⟨tr, tr0, tr1, tr2, ea, c1⟩⟩
end
section
/-! rows of graphs: A is the row of all rows, r where a row begins -/
def SZ1 (r : Int) (A : Int → Int) : Prop := ∀ i, 0 ≤ i → i < A r → 1 ≤ A (r + 219 + i)
def SG (A : Int → Int) (r : Int) : Prop := (0 ≤ A r ∧ A r ≤ 24 ∧ 0 ≤ A (r + 1) ∧ A (r + 1) ≤ 48 ∧ SZ1 r A) ∧ GOK (A r) (A (r + 1)) (fun e => A (r + 267 + e)) (fun e => A (r + 315 + e))
def ROWS (A now lat : Int → Int) : Prop := ∀ g, 0 ≤ g → g < 4 → (0 ≤ now g ∧ now g ≤ lat g ∧ lat g ≤ 30) ∧ ∀ k, 0 ≤ k → k ≤ lat g → SG A (16709 * g + 539 * k)
def RIN (lat : Int → Int) (r : Int) : Prop := ∃ g k, 0 ≤ g ∧ g < 4 ∧ 0 ≤ k ∧ k ≤ lat g ∧ k ≤ 30 ∧ r = 16709 * g + 539 * k
def RWS (r : Int) (A now lat : Int → Int) : Prop := ROWS A now lat ∧ RIN lat r
def SGR (r : Int) (A : Int → Int) : Prop := SG A r
theorem gok_congr {n m n_zq m_zq : Int} {pt ph pt_zq ph_zq : Int → Int} (hn : n_zq = n) (hm : m_zq = m) (h1 : ∀ e, 0 ≤ e → e < m → pt_zq e = pt e) (h2 : ∀ e, 0 ≤ e → e < m → ph_zq e = ph e) (h : GOK n m pt ph) : GOK n_zq m_zq pt_zq ph_zq := by
  subst hn; subst hm
  refine ⟨fun e e0 e1 => ?_, fun e f e0 ef f1 => ?_⟩
  · rw [h1 e e0 e1, h2 e e0 e1]; exact h.1 e e0 e1
  · rw [h1 e e0 (by omega), h2 e e0 (by omega), h1 f (by omega) f1, h2 f (by omega) f1]; exact h.2 e f e0 ef f1
theorem gok_more {n n_zq m : Int} {pt ph : Int → Int} (hn : n ≤ n_zq) (h : GOK n m pt ph) : GOK n_zq m pt ph :=
  ⟨fun e e0 e1 => by have := h.1 e e0 e1; omega, h.2⟩
theorem off {A A_zq : Int → Int} {r r_zq : Int} {N : Int} (hc : ∀ j, 0 ≤ j → j < N → A_zq (r_zq + j) = A (r + j)) (c e : Int) (h0 : 0 ≤ c + e) (h1 : c + e < N) : A_zq (r_zq + c + e) = A (r + c + e) := by
  have := hc (c + e) h0 h1
  rw [show r_zq + (c + e) = r_zq + c + e by omega, show r + (c + e) = r + c + e by omega] at this
  exact this
theorem off0 {A A_zq : Int → Int} {r r_zq : Int} {N : Int} (hc : ∀ j, 0 ≤ j → j < N → A_zq (r_zq + j) = A (r + j)) (h1 : 0 < N) : A_zq r_zq = A r := by
  have := hc 0 (by omega) h1
  rw [show r_zq + 0 = r_zq by omega, show r + 0 = r by omega] at this
  exact this
theorem sg_congr {A A_zq : Int → Int} {r r_zq : Int} (h : SG A r) (hc : ∀ j, 0 ≤ j → j < 363 → A_zq (r_zq + j) = A (r + j)) : SG A_zq r_zq := by
  have a0 := off0 hc (by omega)
  have a1 := hc 1 (by omega) (by omega)
  have b := h.1
  have z : SZ1 r_zq A_zq := fun i i0 i1 => by rw [off hc 219 i (by omega) (by omega)]; exact b.2.2.2.2 i i0 (by omega)
  refine ⟨⟨by omega, by omega, by omega, by omega, z⟩, gok_congr a0 a1 (fun e e0 e1 => off hc 267 e (by omega) (by omega)) (fun e e0 e1 => off hc 315 e (by omega) (by omega)) h.2⟩
theorem rws_sg {r : Int} {A now lat : Int → Int} (h : RWS r A now lat) : SG A r := by
  obtain ⟨h1, g, k, g0, g1, k0, k1, _, hr⟩ := h
  rw [hr]; exact (h1 g g0 g1).2 k k0 k1
theorem rws_r {r : Int} {A now lat : Int → Int} (h : RWS r A now lat) : 0 ≤ r ∧ r ≤ 66297 := by
  obtain ⟨_, g, k, g0, g1, k0, _, k1, hr⟩ := h
  omega
theorem rws_upd {r : Int} {A A_zq now lat : Int → Int} (h : RWS r A now lat) (ho : ∀ j, 0 ≤ j → (j < r ∨ r + 539 ≤ j) → A_zq j = A j) (hs : SG A_zq r) : RWS r A_zq now lat := by
  refine ⟨fun g g0 g1 => ⟨(h.1 g g0 g1).1, fun k k0 k1 => ?_⟩, h.2⟩
  have hh := h
  obtain ⟨_, g_zq, k_zq, g0_zq, g1_zq, k0_zq, k1_zq, k2_zq, hr⟩ := hh
  by_cases e : 16709 * g + 539 * k = r
  · rw [e]; exact hs
  · refine sg_congr ((h.1 g g0 g1).2 k k0 k1) (fun j j0 j1 => ho _ (by omega) ?_)
    rcases Int.lt_trichotomy (31 * g + k) (31 * g_zq + k_zq) with q | q | q
    · left; omega
    · exfalso; omega
    · right; omega
/-- what lies beside the ends of edges may change -/
theorem rws_off {r p v : Int} {A A_zq now lat : Int → Int} (h : RWS r A now lat) (hs : st1 A A_zq p v) (hp : (r + 2 ≤ p ∧ p < r + 267 ∧ (p < r + 219 ∨ r + 243 ≤ p ∨ 1 ≤ v)) ∨ (r + 363 ≤ p ∧ p < r + 539)) : RWS r A_zq now lat := by
  have hr := rws_r h
  have sg := rws_sg h
  have b := sg.1
  have k : ∀ j, 0 ≤ j → j ≠ p → A_zq j = A j := fun j a c => (hs j a).2 c
  have e0 := k r (by omega) (by omega)
  have e1 := k (r + 1) (by omega) (by omega)
  have z : SZ1 r A_zq := fun i i0 i1 => by
    by_cases q : r + 219 + i = p
    · rw [(hs _ (by omega)).1 q]; omega
    · rw [k _ (by omega) q]; exact b.2.2.2.2 i i0 (by omega)
  refine rws_upd h (fun j a c => k j a (by omega)) ⟨⟨by omega, by omega, by omega, by omega, z⟩, gok_congr (k r (by omega) (by omega)) (k (r + 1) (by omega) (by omega)) (fun e e0 e1 => k _ (by omega) (by omega)) (fun e e0 e1 => k _ (by omega) (by omega)) sg.2⟩
def RCU (r : Int) (now : Int → Int) (g : Int) : Prop := r = 16709 * g + 539 * now g
theorem rws_now {r g : Int} {A now lat : Int → Int} (h : ROWS A now lat) (g0 : 0 ≤ g) (g1 : g < 4) (hr : r = 16709 * g + 539 * now g) : RWS r A now lat :=
  ⟨h, g, now g, g0, g1, (h g g0 g1).1.1, (h g g0 g1).1.2.1, by have := (h g g0 g1).1; omega, hr⟩
theorem rows_at {r g : Int} {A now lat : Int → Int} (h : ROWS A now lat) (g0 : 0 ≤ g) (g1 : g < 4) (hr : r = 16709 * g + 539 * now g) : SGR r A := rws_sg (rws_now h g0 g1 hr)
/-! plane -/
def PLN (r n m : Int) (A pt ph al : Int → Int) : Prop := SG A r ∧ n = A r ∧ m = A (r + 1) ∧ ∀ e, 0 ≤ e → e < m → pt e = A (r + 267 + e) ∧ ph e = A (r + 315 + e) ∧ al e = 1
def PL1 (r n m : Int) (A pt ph al : Int → Int) (i : Int) : Prop := SG A r ∧ n = A r ∧ m = A (r + 1) ∧ ∀ e, 0 ≤ e → e < i → pt e = A (r + 267 + e) ∧ ph e = A (r + 315 + e) ∧ al e = 1
theorem pln_gok {r n m : Int} {A pt ph al : Int → Int} (h : PLN r n m A pt ph al) : GOK n m pt ph := by
  obtain ⟨h1, h2, h3, h4⟩ := h
  exact gok_congr h2 h3 (fun e e0 e1 => (h4 e e0 (by omega)).1) (fun e e0 e1 => (h4 e e0 (by omega)).2.1) h1.2
theorem pl1_step {r n m i i_zq : Int} {A pt ph al pt_zq ph_zq al_zq : Int → Int} {p1 p2 p3 v1 v2 v3 : Int} (h : PL1 r n m A pt ph al i) (hi : i_zq = i + 1) (h1 : st1 pt pt_zq p1 v1) (h2 : st1 ph ph_zq p2 v2) (h3 : st1 al al_zq p3 v3) (e1 : p1 = i) (e2 : p2 = i) (e3 : p3 = i) (w1 : v1 = A (r + 267 + i)) (w2 : v2 = A (r + 315 + i)) (w3 : v3 = 1) : PL1 r n m A pt_zq ph_zq al_zq i_zq := by
  obtain ⟨k1, k2, k3, k4⟩ := h
  refine ⟨k1, k2, k3, fun e a b => ?_⟩
  by_cases q : e = i
  · rw [q]
    rw [q] at a
    exact ⟨((h1 i a).1 e1.symm).trans w1, ((h2 i a).1 e2.symm).trans w2, ((h3 i a).1 e3.symm).trans w3⟩
  · rw [(h1 e a).2 (by omega), (h2 e a).2 (by omega), (h3 e a).2 (by omega)]; exact k4 e a (by omega)
/-! a new edge -/
def NWE (r : Int) (A : Int → Int) (a b : Int) : Prop := 0 ≤ a ∧ a < A r ∧ 0 ≤ b ∧ b < A r ∧ a ≠ b ∧ A (r + 1) ≤ 47 ∧ ∀ e, 0 ≤ e → e < A (r + 1) → ¬ ((A (r + 267 + e) = a ∧ A (r + 315 + e) = b) ∨ (A (r + 267 + e) = b ∧ A (r + 315 + e) = a))
theorem sg_newEdge {r a b : Int} {A A_zq : Int → Int} (h : SG A r) (hn : NWE r A a b) (c0 : A_zq r = A r) (c1 : A_zq (r + 1) = A (r + 1) + 1) (ht : ∀ e, 0 ≤ e → e < A (r + 1) → A_zq (r + 267 + e) = A (r + 267 + e)) (hh : ∀ e, 0 ≤ e → e < A (r + 1) → A_zq (r + 315 + e) = A (r + 315 + e)) (t1 : A_zq (r + 267 + A (r + 1)) = a) (h1 : A_zq (r + 315 + A (r + 1)) = b) (hz : ∀ i, 0 ≤ i → i < A r → A_zq (r + 219 + i) = A (r + 219 + i)) : SG A_zq r := by
  obtain ⟨n1, n2, n3, n4, n5, n6, n7⟩ := hn
  have bb := h.1
  refine ⟨⟨by omega, by omega, by omega, by omega, fun i i0 i1 => by rw [hz i i0 (by omega)]; exact bb.2.2.2.2 i i0 (by omega)⟩, fun e e0 e1 => ?_, fun e f e0 ef f1 => ?_⟩
  · show 0 ≤ A_zq (r + 267 + e) ∧ A_zq (r + 267 + e) < A_zq r ∧ 0 ≤ A_zq (r + 315 + e) ∧ A_zq (r + 315 + e) < A_zq r ∧ A_zq (r + 267 + e) ≠ A_zq (r + 315 + e)
    rw [c0]
    by_cases q : e = A (r + 1)
    · rw [q, t1, h1]; exact ⟨n1, n2, n3, n4, n5⟩
    · rw [ht e e0 (by omega), hh e e0 (by omega)]; exact h.2.1 e e0 (by omega)
  · show ¬ ((A_zq (r + 267 + e) = A_zq (r + 267 + f) ∧ A_zq (r + 315 + e) = A_zq (r + 315 + f)) ∨ (A_zq (r + 267 + e) = A_zq (r + 315 + f) ∧ A_zq (r + 315 + e) = A_zq (r + 267 + f)))
    rw [ht e e0 (by omega), hh e e0 (by omega)]
    by_cases q : f = A (r + 1)
    · rw [q, t1, h1]; exact n7 e e0 (by omega)
    · rw [ht f (by omega) (by omega), hh f (by omega) (by omega)]; exact h.2.2 e f e0 ef (by omega)
theorem rws_newEdge {r a b : Int} {A A1 A2 A3 A4 A5 now lat : Int → Int} {p1 v1 p2 v2 p3 v3 p4 v4 p5 v5 : Int} (h : RWS r A now lat) (hn : NWE r A a b) (s1 : st1 A A1 p1 v1) (s2 : st1 A1 A2 p2 v2) (s3 : st1 A2 A3 p3 v3) (s4 : st1 A3 A4 p4 v4) (s5 : st1 A4 A5 p5 v5) (e1 : p1 = r + 1) (w1_zq : v1 = A p1 + 1) (e2 : p2 = r + 267 + A (r + 1)) (w2 : v2 = a) (e3 : p3 = r + 315 + A (r + 1)) (w3 : v3 = b) (e4 : p4 = r + 363 + A (r + 1)) (e5 : p5 = r + 411 + A (r + 1)) : RWS r A5 now lat ∧ A5 r = A r := by
  have w1 : v1 = A (r + 1) + 1 := by rw [← e1]; exact w1_zq
  have hr := rws_r h
  have sg := rws_sg h
  have bb := sg.1
  have n6 := hn.2.2.2.2.2.1
  have k : ∀ j, 0 ≤ j → j ≠ p1 → j ≠ p2 → j ≠ p3 → j ≠ p4 → j ≠ p5 → A5 j = A j := fun j a b c d e f => by rw [(s5 j a).2 f, (s4 j a).2 e, (s3 j a).2 d, (s2 j a).2 c, (s1 j a).2 b]
  refine ⟨rws_upd h (fun j a c => k j a (by omega) (by omega) (by omega) (by omega) (by omega)) (sg_newEdge sg hn (k _ (by omega) (by omega) (by omega) (by omega) (by omega) (by omega)) ?_ (fun e a c => k _ (by omega) (by omega) (by omega) (by omega) (by omega) (by omega)) (fun e a c => k _ (by omega) (by omega) (by omega) (by omega) (by omega) (by omega)) ?_ ?_ (fun e a c => k _ (by omega) (by omega) (by omega) (by omega) (by omega) (by omega))), k r (by omega) (by omega) (by omega) (by omega) (by omega) (by omega)⟩
  · rw [(s5 _ (by omega)).2 (by omega), (s4 _ (by omega)).2 (by omega), (s3 _ (by omega)).2 (by omega), (s2 _ (by omega)).2 (by omega), (s1 _ (by omega)).1 (by omega)]; exact w1
  · rw [(s5 _ (by omega)).2 (by omega), (s4 _ (by omega)).2 (by omega), (s3 _ (by omega)).2 (by omega), (s2 _ (by omega)).1 (by omega)]; exact w2
  · rw [(s5 _ (by omega)).2 (by omega), (s4 _ (by omega)).2 (by omega), (s3 _ (by omega)).1 (by omega)]; exact w3
/-- one more node: its size comes later -/
def RWN (r : Int) (A now lat : Int → Int) (n : Int) : Prop := ∃ A0, RWS r A0 now lat ∧ (A0 r ≤ 23 ∧ A0 r = n) ∧ A r = A0 r + 1 ∧ ∀ j, 0 ≤ j → j ≠ r → A j = A0 j
theorem rwn_start {r p v n : Int} {A A_zq now lat : Int → Int} (h : RWS r A now lat) (hs : st1 A A_zq p v) (hp : p = r) (hv_zq : v = A p + 1) (h24 : A r ≤ 23) (hn : n = A r) : RWN r A_zq now lat n := by
  have hr := rws_r h
  exact ⟨A, h, ⟨h24, hn.symm⟩, ((hs r (by omega)).1 hp.symm).trans (by rw [hv_zq, hp]), fun j a c => (hs j a).2 (by omega)⟩
theorem rwn_r {r n : Int} {A now lat : Int → Int} (h : RWN r A now lat n) : (0 ≤ r ∧ r ≤ 66297) ∧ (1 ≤ A r ∧ A r ≤ 24) ∧ 0 ≤ A (r + 1) ∧ A (r + 1) ≤ 48 ∧ A r = n + 1 := by
  obtain ⟨A0, h1, h2, h3, h4⟩ := h
  have hr := rws_r h1
  have b := (rws_sg h1).1
  have e := h4 (r + 1) (by omega) (by omega)
  omega
theorem rwn_off {r p v n : Int} {A A_zq now lat : Int → Int} (h : RWN r A now lat n) (hs : st1 A A_zq p v) (hp : (r + 2 ≤ p ∧ p < r + 267 ∧ (p < r + 219 ∨ r + 243 ≤ p ∨ 1 ≤ v)) ∨ (r + 363 ≤ p ∧ p < r + 539)) : RWN r A_zq now lat n := by
  obtain ⟨A0, h1, h2, h3, h4⟩ := h
  have hr := rws_r h1
  refine ⟨fun j => if j = p then v else A0 j, rws_off (A := A0) (p := p) (v := v) h1 (fun j a => ⟨fun q => if_pos q, fun q => if_neg q⟩) hp, ?_, ?_, fun j a c => ?_⟩
  · show (if r = p then v else A0 r) ≤ 23 ∧ (if r = p then v else A0 r) = n
    rw [if_neg (by omega)]; exact h2
  · show A_zq r = (if r = p then v else A0 r) + 1
    rw [if_neg (by omega), (hs r (by omega)).2 (by omega)]; exact h3
  · show A_zq j = if j = p then v else A0 j
    by_cases q : j = p
    · rw [if_pos q]; exact (hs j a).1 q
    · rw [if_neg q, (hs j a).2 q]; exact h4 j a c
theorem rwn_fin {r p v n : Int} {A A_zq now lat : Int → Int} (h : RWN r A now lat n) (hs : st1 A A_zq p v) (hp : p = r + 219 + n) (hv : 1 ≤ v) : RWS r A_zq now lat := by
  have hl := rwn_r h
  obtain ⟨A0, h1, h2, h3, h4⟩ := h
  have sg := rws_sg h1
  have b := sg.1
  have k : ∀ j, 0 ≤ j → j ≠ r → j ≠ p → A_zq j = A0 j := fun j a c d => by rw [(hs j a).2 d]; exact h4 j a c
  have k0 : A_zq r = A0 r + 1 := by rw [(hs r (by omega)).2 (by omega)]; exact h3
  have k1 := k (r + 1) (by omega) (by omega) (by omega)
  have z : SZ1 r A_zq := fun i i0 i1 => by
    by_cases q : r + 219 + i = p
    · rw [(hs _ (by omega)).1 q]; exact hv
    · rw [k _ (by omega) (by omega) q]; exact b.2.2.2.2 i i0 (by omega)
  refine rws_upd h1 (fun j a c => k j a (by omega) (by omega)) ⟨⟨by omega, by omega, by omega, by omega, z⟩, ?_⟩
  rw [k0]
  exact gok_more (n := A0 r) (by omega) (gok_congr rfl k1 (fun e e0 e1 => k _ (by omega) (by omega) (by omega)) (fun e e0 e1 => k _ (by omega) (by omega) (by omega)) sg.2)
end
section
/-! step: a row is copied -/
/-- what a caller keeps of the row: c says which -/
def CPX (A : Int → Int) (r c a b : Int) : Prop := (c = 1 → A r = a) ∧ (c = 2 → NWE r A a b) ∧ (c = 3 → 0 ≤ a ∧ a < A (r + 1)) ∧ (c = 4 → 0 ≤ a ∧ a < A r)
theorem nwe_congr {A A_zq : Int → Int} {r r_zq a b : Int} (hb : A (r + 1) ≤ 48) (h : NWE r A a b) (hc : ∀ j, 0 ≤ j → j < 363 → A_zq (r_zq + j) = A (r + j)) : NWE r_zq A_zq a b := by
  obtain ⟨n1, n2, n3, n4, n5, n6, n7⟩ := h
  have a0 := off0 hc (by omega)
  have a1 := hc 1 (by omega) (by omega)
  refine ⟨n1, by rw [a0]; exact n2, n3, by rw [a0]; exact n4, n5, by rw [a1]; exact n6, fun e e0 e1 => ?_⟩
  rw [a1] at e1
  rw [off hc 267 e (by omega) (by omega), off hc 315 e (by omega) (by omega)]
  exact n7 e e0 e1
theorem cpx_congr {A A_zq : Int → Int} {r r_zq c a b : Int} (hb : A (r + 1) ≤ 48) (h : CPX A r c a b) (hc : ∀ j, 0 ≤ j → j < 363 → A_zq (r_zq + j) = A (r + j)) : CPX A_zq r_zq c a b := by
  obtain ⟨h1, h2, h3, h4⟩ := h
  have a0 := off0 hc (by omega)
  have a1 := hc 1 (by omega) (by omega)
  exact ⟨fun q => by rw [a0]; exact h1 q, fun q => nwe_congr hb (h2 q) hc, fun q => by rw [a1]; exact h3 q, fun q => by rw [a0]; exact h4 q⟩
def T13 (A now lat : Int → Int) (g i c a b : Int) : Prop := ∃ A0, ROWS A0 now lat ∧ 0 ≤ g ∧ g < 4 ∧ now g = 30 ∧ CPX A0 (16709 * g + 16170) c a b ∧ (∀ j, 0 ≤ j → j < i → A (16709 * g + j) = A0 (16709 * g + 539 + j)) ∧ (∀ j, 0 ≤ j → (j < 16709 * g ∨ 16709 * g + i ≤ j) → A j = A0 j) ∧ 0 ≤ i ∧ i ≤ 16170
def T60 (A now lat : Int → Int) (g c a b : Int) : Prop := ROWS A now lat ∧ 0 ≤ g ∧ g < 4 ∧ now g ≤ 29 ∧ CPX A (16709 * g + 539 * now g) c a b
def T73 (A now lat : Int → Int) (g s i c a b : Int) : Prop := ∃ A0, T60 A0 now lat g c a b ∧ s = 16709 * g + 539 * now g ∧ (∀ j, 0 ≤ j → j < i → A (s + 539 + j) = A0 (s + j)) ∧ (∀ j, 0 ≤ j → (j < s + 539 ∨ s + 539 + i ≤ j) → A j = A0 j) ∧ 0 ≤ i ∧ i ≤ 539
def T130 (A now lat : Int → Int) (g c a b : Int) : Prop := ROWS A now lat ∧ 0 ≤ g ∧ g < 4 ∧ CPX A (16709 * g + 539 * now g) c a b
theorem t13_start {r g i c a b : Int} {A now lat : Int → Int} (h : RWS r A now lat) (hr : r = 16709 * g + 539 * now g) (hc : CPX A r c a b) (g0 : 0 ≤ g) (g1 : g < 4) (hn : now g = 30) (hi : i = 0) : T13 A now lat g i c a b := by
  refine ⟨A, h.1, g0, g1, hn, ?_, fun j a b => by omega, fun j _ _ => rfl, by omega, by omega⟩
  rw [hn] at hr
  rw [show 16709 * g + 16170 = r by omega]; exact hc
theorem t13_step {g i i_zq c a b p v q : Int} {A A_zq now lat : Int → Int} (h : T13 A now lat g i c a b) (hs : st1 A A_zq p v) (hi : i_zq = i + 1) (i1 : i < 16170) (hp : p = 16709 * g + i) (hv_zq : v = A q) (hq : q = 16709 * g + 539 + i) : T13 A_zq now lat g i_zq c a b := by
  have hv : v = A (16709 * g + 539 + i) := by rw [← hq]; exact hv_zq
  obtain ⟨A0, h1, h2, h3, h4, h5, h6, h7, h8, h9⟩ := h
  refine ⟨A0, h1, h2, h3, h4, h5, fun j a b => ?_, fun j a b => ?_, by omega, by omega⟩
  · by_cases q : j = i
    · rw [q, (hs _ (by omega)).1 (by omega), hv]; exact h7 _ (by omega) (by omega)
    · rw [(hs _ (by omega)).2 (by omega)]; exact h6 j a (by omega)
  · rw [(hs _ (by omega)).2 (by omega)]; exact h7 j a (by omega)
theorem t60_shift {g i c a b p v : Int} {A now now_zq lat : Int → Int} (h : T13 A now lat g i c a b) (hi : 16170 ≤ i) (hs : st1 now now_zq p v) (hp : p = g) (hv_zq : v = now p - 1) : T60 A now_zq lat g c a b := by
  have hv : v = now g - 1 := by rw [← hp]; exact hv_zq
  obtain ⟨A0, h1, h2, h3, h4, h5, h6, h7, h8, h9⟩ := h
  have i1 : i = 16170 := by omega
  subst i1
  have hl := (h1 g h2 h3).1
  have n1 : now_zq g = 29 := by rw [(hs g h2).1 hp.symm, hv]; omega
  have sg : ∀ k, 0 ≤ k → k ≤ 30 → SG A0 (16709 * g + 539 * k) := fun k a b => (h1 g h2 h3).2 k a (by omega)
  have mv : ∀ k, 0 ≤ k → k ≤ 29 → ∀ j, 0 ≤ j → j < 363 → A (16709 * g + 539 * k + j) = A0 (16709 * g + 539 * (k + 1) + j) := fun k a b j c d => by
    have := h6 (539 * k + j) (by omega) (by omega)
    rw [show 16709 * g + (539 * k + j) = 16709 * g + 539 * k + j by omega, show 16709 * g + 539 + (539 * k + j) = 16709 * g + 539 * (k + 1) + j by omega] at this
    exact this
  refine ⟨fun g_zq a b => ?_, h2, h3, by omega, ?_⟩
  · by_cases q : g_zq = g
    · rw [q]
      refine ⟨by omega, fun k k0 k1 => ?_⟩
      by_cases q2 : k = 30
      · rw [q2]
        exact sg_congr (sg 30 (by omega) (by omega)) (fun j a b => h7 _ (by omega) (by omega))
      · exact sg_congr (sg (k + 1) (by omega) (by omega)) (mv k k0 (by omega))
    · rw [(hs g_zq a).2 (by omega)]
      refine ⟨(h1 g_zq a b).1, fun k k0 k1 => sg_congr ((h1 g_zq a b).2 k k0 k1) (fun j c d => h7 _ (by omega) ?_)⟩
      have := (h1 g_zq a b).1
      rcases Int.lt_trichotomy g_zq g with w | w | w
      · left; omega
      · exact absurd w q
      · right; omega
  · rw [n1]
    have s30 := sg 30 (by omega) (by omega)
    rw [show 16709 * g + 16170 = 16709 * g + 539 * 30 by omega] at h5
    exact cpx_congr s30.1.2.2.2.1 h5 (mv 29 (by omega) (by omega))
theorem t60_now {r g c a b : Int} {A now lat : Int → Int} (h : RWS r A now lat) (hr : r = 16709 * g + 539 * now g) (hc : CPX A r c a b) (g0 : 0 ≤ g) (g1 : g < 4) (hn : now g ≠ 30) : T60 A now lat g c a b := by
  have := (h.1 g g0 g1).1
  exact ⟨h.1, g0, g1, by omega, by rw [← hr]; exact hc⟩
theorem t73_start {g s i c a b : Int} {A now lat : Int → Int} (h : T60 A now lat g c a b) (hs : s = 16709 * g + 539 * now g) (hi : i = 0) : T73 A now lat g s i c a b :=
  ⟨A, h, hs, fun j a b => by omega, fun j _ _ => rfl, by omega, by omega⟩
theorem t73_step {g s i i_zq c a b p v q : Int} {A A_zq now lat : Int → Int} (h : T73 A now lat g s i c a b) (hs : st1 A A_zq p v) (hi : i_zq = i + 1) (i1 : i < 539) (hp : p = s + 539 + i) (hv_zq : v = A q) (hq : q = s + i) : T73 A_zq now lat g s i_zq c a b := by
  have hv : v = A (s + i) := by rw [← hq]; exact hv_zq
  obtain ⟨A0, h1, h2, h6, h7, h8, h9⟩ := h
  have n0 := (h1.1 g h1.2.1 h1.2.2.1).1
  have g0 := h1.2.1
  refine ⟨A0, h1, h2, fun j a b => ?_, fun j a b => ?_, by omega, by omega⟩
  · by_cases q : j = i
    · rw [q, (hs _ (by omega)).1 (by omega), hv]; exact h7 _ (by omega) (by omega)
    · rw [(hs _ (by omega)).2 (by omega)]; exact h6 j a (by omega)
  · rw [(hs _ (by omega)).2 (by omega)]; exact h7 j a (by omega)
theorem t130_of {g s i c a b p v q w : Int} {A now now_zq lat lat_zq : Int → Int} (h : T73 A now lat g s i c a b) (hi : 539 ≤ i) (hs : st1 now now_zq p v) (hp : p = g) (hv_zq : v = now p + 1) (ht : st1 lat lat_zq q w) (hq : q = g) (hw_zq : w = now_zq q) : T130 A now_zq lat_zq g c a b := by
  have hv : v = now g + 1 := by rw [← hp]; exact hv_zq
  have hw : w = now_zq g := by rw [← hq]; exact hw_zq
  obtain ⟨A0, ⟨h1, g0, g1, h4, h5⟩, h2, h6, h7, h8, h9⟩ := h
  have i1 : i = 539 := by omega
  subst i1
  have hl := (h1 g g0 g1).1
  have n1 : now_zq g = now g + 1 := by rw [(hs g g0).1 hp.symm, hv]
  have l1 : lat_zq g = now_zq g := by rw [(ht g g0).1 hq.symm, hw]
  have sgn := (h1 g g0 g1).2 (now g) hl.1 hl.2.1
  rw [← h2] at sgn h5
  have mv : ∀ j, 0 ≤ j → j < 363 → A (s + 539 + j) = A0 (s + j) := fun j a b => h6 j a (by omega)
  have e1 : 16709 * g + 539 * now_zq g = s + 539 := by omega
  refine ⟨fun g_zq a b => ?_, g0, g1, ?_⟩
  · by_cases q : g_zq = g
    · rw [q]
      refine ⟨by omega, fun k k0 k1 => ?_⟩
      by_cases q2 : k = now_zq g
      · rw [q2, e1]; exact sg_congr sgn mv
      · exact sg_congr ((h1 g g0 g1).2 k k0 (by omega)) (fun j c d => h7 _ (by omega) (by omega))
    · rw [(hs g_zq a).2 (by omega), (ht g_zq a).2 (by omega)]
      refine ⟨(h1 g_zq a b).1, fun k k0 k1 => sg_congr ((h1 g_zq a b).2 k k0 k1) (fun j c d => h7 _ (by omega) ?_)⟩
      have := (h1 g_zq a b).1
      rcases Int.lt_trichotomy g_zq g with w | w | w
      · left; omega
      · exact absurd w q
      · right; omega
  · rw [e1]; exact cpx_congr sgn.1.2.2.2.1 h5 mv
theorem t130_rws {r g c a b : Int} {A now lat : Int → Int} (h : T130 A now lat g c a b) (hr : r = 16709 * g + 539 * now g) : RWS r A now lat ∧ CPX A r c a b := ⟨rws_now h.1 h.2.1 h.2.2.1 hr, by rw [hr]; exact h.2.2.2⟩
/-! dropEdge -/
def inc (A : Int → Int) (r f i : Int) : Prop := A (r + 267 + f) = i ∨ A (r + 315 + f) = i
/-- no edge behind e ends at i -/
def NOI (r : Int) (A : Int → Int) (e i : Int) : Prop := ∀ f, e < f → f < A (r + 1) → ¬ inc A r f i
def NOJ (r : Int) (A : Int → Int) (e i : Int) : Prop := ∀ f, e ≤ f → f < A (r + 1) → ¬ inc A r f i
def EDA (r : Int) (A : Int → Int) (e : Int) : Prop := 0 ≤ e ∧ e < A (r + 1)
def NDA (r : Int) (A : Int → Int) (i : Int) : Prop := 0 ≤ i ∧ i < A r
def DE2 (r : Int) (A now lat : Int → Int) (e k i : Int) : Prop := ∃ A0, RWS r A0 now lat ∧ 0 ≤ e ∧ e ≤ k ∧ k < A0 (r + 1) ∧ NOI r A0 e i ∧ (∀ j, 0 ≤ j → (j < r + 267 ∨ r + 459 ≤ j) → A j = A0 j) ∧ (∀ j, 0 ≤ j → j < 48 → (j < e ∨ k ≤ j) → A (r + 267 + j) = A0 (r + 267 + j) ∧ A (r + 315 + j) = A0 (r + 315 + j)) ∧ ∀ j, e ≤ j → j < k → A (r + 267 + j) = A0 (r + 267 + (j + 1)) ∧ A (r + 315 + j) = A0 (r + 315 + (j + 1))
theorem de2_start {r e k i : Int} {A now lat : Int → Int} (h : RWS r A now lat) (he : EDA r A e) (hn : NOI r A e i) (hk : k = e) : DE2 r A now lat e k i :=
  ⟨A, h, he.1, by omega, by rw [hk]; exact he.2, hn, fun _ _ _ => rfl, fun _ _ _ _ => ⟨rfl, rfl⟩, fun j a b => by omega⟩
theorem noi_m1 {r e : Int} {A now lat : Int → Int} (h : RWS r A now lat) (e0 : 0 ≤ e) : NOI r A e (-1) := fun f a b q => by
  have := (rws_sg h).2.1 f (by omega) b
  rcases q with q | q
  · have t : 0 ≤ A (r + 267 + f) := this.1
    omega
  · have t : 0 ≤ A (r + 315 + f) := this.2.2.1
    omega
theorem de2_len {r e k i : Int} {A now lat : Int → Int} (h : DE2 r A now lat e k i) : (0 ≤ r ∧ r ≤ 66297) ∧ 0 ≤ e ∧ e ≤ k ∧ k < A (r + 1) ∧ A (r + 1) ≤ 48 := by
  obtain ⟨A0, h1, h2, h3, h4, h5, h6, _⟩ := h
  have hr := rws_r h1
  have := (rws_sg h1).1
  rw [h6 (r + 1) (by omega) (by omega)]
  omega
theorem de2_step {r e k k_zq i : Int} {A A1 A2 A3 A4 now lat : Int → Int} {p1 v1 p2 v2 p3 v3 p4 v4 q1 q2 : Int} (h : DE2 r A now lat e k i) (hk : k_zq = k + 1) (k1 : k + 1 < A (r + 1)) (s1 : st1 A A1 p1 v1) (s2 : st1 A1 A2 p2 v2) (s3 : st1 A2 A3 p3 v3) (s4 : st1 A3 A4 p4 v4) (e1 : p1 = r + 267 + k) (w1_zq : v1 = A q1) (n1 : q1 = r + 267 + k + 1) (e2 : p2 = r + 315 + k) (w2_zq : v2 = A1 q2) (n2 : q2 = r + 315 + k + 1) (e3 : p3 = r + 363 + k) (e4 : p4 = r + 411 + k) : DE2 r A4 now lat e k_zq i ∧ A4 r = A r := by
  have w1 : v1 = A (r + 267 + k + 1) := by rw [← n1]; exact w1_zq
  have w2 : v2 = A1 (r + 315 + k + 1) := by rw [← n2]; exact w2_zq
  have hl := de2_len h
  obtain ⟨A0, h1, h2, h3, h4, h5, h6, h7, h8⟩ := h
  have em : A (r + 1) = A0 (r + 1) := h6 (r + 1) (by omega) (by omega)
  have kp : ∀ j, 0 ≤ j → j ≠ p1 → j ≠ p2 → j ≠ p3 → j ≠ p4 → A4 j = A j := fun j a b c d e => by rw [(s4 j a).2 e, (s3 j a).2 d, (s2 j a).2 c, (s1 j a).2 b]
  refine ⟨⟨A0, h1, h2, by omega, by omega, h5, fun j a b => ?_, fun j a b c => ?_, fun j a b => ?_⟩, kp r (by omega) (by omega) (by omega) (by omega) (by omega)⟩
  · rw [kp j a (by omega) (by omega) (by omega) (by omega)]; exact h6 j a b
  · rw [kp _ (by omega) (by omega) (by omega) (by omega) (by omega), kp _ (by omega) (by omega) (by omega) (by omega) (by omega)]; exact h7 j a b (by omega)
  · by_cases q : j = k
    · rw [q]
      have z := h7 (k + 1) (by omega) (by omega) (by omega)
      constructor
      · rw [(s4 _ (by omega)).2 (by omega), (s3 _ (by omega)).2 (by omega), (s2 _ (by omega)).2 (by omega), (s1 _ (by omega)).1 (by omega), w1, show r + 267 + k + 1 = r + 267 + (k + 1) by omega]; exact z.1
      · rw [(s4 _ (by omega)).2 (by omega), (s3 _ (by omega)).2 (by omega), (s2 _ (by omega)).1 (by omega), w2, (s1 _ (by omega)).2 (by omega), show r + 315 + k + 1 = r + 315 + (k + 1) by omega]; exact z.2
    · rw [kp _ (by omega) (by omega) (by omega) (by omega) (by omega), kp _ (by omega) (by omega) (by omega) (by omega) (by omega)]; exact h8 j a (by omega)
theorem de2_end {r e k i p v : Int} {A A_zq now lat : Int → Int} (h : DE2 r A now lat e k i) (hk : A (r + 1) ≤ k + 1) (hs : st1 A A_zq p v) (hp : p = r + 1) (hv_zq : v = A p - 1) : RWS r A_zq now lat ∧ NOJ r A_zq e i ∧ A_zq r = A r ∧ e ≤ A_zq (r + 1) := by
  have hv : v = A (r + 1) - 1 := by rw [← hp]; exact hv_zq
  have hl := de2_len h
  obtain ⟨A0, h1, h2, h3, h4, h5, h6, h7, h8⟩ := h
  have em : A (r + 1) = A0 (r + 1) := h6 (r + 1) (by omega) (by omega)
  have e0 : A r = A0 r := h6 r (by omega) (by omega)
  have kp : ∀ j, 0 ≤ j → j ≠ p → A_zq j = A j := fun j a b => (hs j a).2 b
  have kn : A_zq (r + 1) = A0 (r + 1) - 1 := by rw [(hs _ (by omega)).1 hp.symm, hv]; omega
  have k0 : A_zq r = A0 r := by rw [kp r (by omega) (by omega)]; exact e0
  have sg := rws_sg h1
  have bb := sg.1
  have ed : ∀ j, 0 ≤ j → j < A0 (r + 1) - 1 → ∃ f, (f = if j < e then j else j + 1) ∧ A_zq (r + 267 + j) = A0 (r + 267 + f) ∧ A_zq (r + 315 + j) = A0 (r + 315 + f) := fun j a b => by
    rw [kp _ (by omega) (by omega), kp _ (by omega) (by omega)]
    by_cases q : j < e
    · exact ⟨j, by rw [if_pos q], h7 j a (by omega) (Or.inl q)⟩
    · exact ⟨j + 1, by rw [if_neg q], h8 j (by omega) (by omega)⟩
  refine ⟨rws_upd h1 (fun j a b => by rw [kp j a (by omega)]; exact h6 j a (by omega)) ⟨⟨by omega, by omega, by omega, by omega, fun i_zq i0 i1 => by rw [kp _ (by omega) (by omega), h6 _ (by omega) (by omega)]; exact bb.2.2.2.2 i_zq i0 (by omega)⟩, fun j a b => ?_, fun j l a b c => ?_⟩, fun f a b => ?_, by rw [kp r (by omega) (by omega)], by omega⟩
  · rw [kn] at b
    obtain ⟨f, f0, f1, f2⟩ := ed j a b
    show 0 ≤ A_zq (r + 267 + j) ∧ A_zq (r + 267 + j) < A_zq r ∧ 0 ≤ A_zq (r + 315 + j) ∧ A_zq (r + 315 + j) < A_zq r ∧ A_zq (r + 267 + j) ≠ A_zq (r + 315 + j)
    rw [f1, f2, k0]
    exact sg.2.1 f (by rw [f0]; split <;> omega) (by rw [f0]; split <;> omega)
  · rw [kn] at c
    obtain ⟨f, f0, f1, f2⟩ := ed j a (by omega)
    obtain ⟨q, q0, q1, q2⟩ := ed l (by omega) c
    show ¬ ((A_zq (r + 267 + j) = A_zq (r + 267 + l) ∧ A_zq (r + 315 + j) = A_zq (r + 315 + l)) ∨ (A_zq (r + 267 + j) = A_zq (r + 315 + l) ∧ A_zq (r + 315 + j) = A_zq (r + 267 + l)))
    rw [f1, f2, q1, q2]
    exact sg.2.2 f q (by rw [f0]; split <;> omega) (by rw [f0, q0]; split <;> split <;> omega) (by rw [q0]; split <;> omega)
  · rw [kn] at b
    obtain ⟨f_zq, f0, f1, f2⟩ := ed f (by omega) b
    rw [if_neg (by omega)] at f0
    unfold inc
    rw [f1, f2, f0]
    exact h5 (f + 1) (by omega) (by omega)
end
section
/-! dropNode, the reader's rows -/
def HSP (r : Int) (A : Int → Int) (e i z : Int) : Prop := z ≠ 0 ↔ inc A r e i
def BTL (r : Int) (A : Int → Int) (a b i : Int) : Prop := ∀ e, 0 ≤ e → e < i → ¬ (inc A r e a ∧ inc A r e b ∧ a ≠ b)
def BTP (r : Int) (A : Int → Int) (a b z : Int) : Prop := z < 0 → BTL r A a b (A (r + 1))
def dec1 (i t : Int) : Int := if i < t then t - 1 else t
def cst (A A_zq : Int → Int) (p i : Int) : Prop := (i < A p ∧ ∃ q v, st1 A A_zq q v ∧ q = p ∧ v = A q - 1) ∨ (A p ≤ i ∧ A_zq = A)
theorem cst_is {A A_zq : Int → Int} {p i : Int} (p0 : 0 ≤ p) (h : cst A A_zq p i) : A_zq p = dec1 i (A p) ∧ ∀ j, 0 ≤ j → j ≠ p → A_zq j = A j := by
  unfold dec1
  rcases h with ⟨a, q, v, s, e, w⟩ | ⟨a, e⟩
  · rw [if_pos a]
    exact ⟨((s p p0).1 e.symm).trans (by rw [w, e]), fun j c d => (s j c).2 (by omega)⟩
  · rw [if_neg (by omega), e]
    exact ⟨rfl, fun _ _ _ => rfl⟩
def DN3 (r : Int) (A now lat : Int → Int) (i e : Int) : Prop := ∃ A0, RWS r A0 now lat ∧ 0 ≤ i ∧ i < A0 r ∧ NOI r A0 (-1) i ∧ (∀ j, 0 ≤ j → (j < r + 267 ∨ r + 363 ≤ j) → A j = A0 j) ∧ (∀ f, 0 ≤ f → f < 48 → f < e → A (r + 267 + f) = dec1 i (A0 (r + 267 + f)) ∧ A (r + 315 + f) = dec1 i (A0 (r + 315 + f))) ∧ ∀ f, 0 ≤ f → f < 48 → e ≤ f → A (r + 267 + f) = A0 (r + 267 + f) ∧ A (r + 315 + f) = A0 (r + 315 + f)
theorem dn3_start {r i e : Int} {A now lat : Int → Int} (h : RWS r A now lat) (hi : NDA r A i) (e_zq : Int) (hn : NOI r A e_zq i) (h0 : e_zq < 0) (he : e = 0) : DN3 r A now lat i e :=
  ⟨A, h, hi.1, hi.2, fun f a b => hn f (by omega) b, fun _ _ _ => rfl, fun f a b c => by omega, fun _ _ _ _ => ⟨rfl, rfl⟩⟩
theorem dn3_len {r i e : Int} {A now lat : Int → Int} (h : DN3 r A now lat i e) : (0 ≤ r ∧ r ≤ 66297) ∧ (0 ≤ i ∧ i < A r ∧ A r ≤ 24) ∧ 0 ≤ A (r + 1) ∧ A (r + 1) ≤ 48 := by
  obtain ⟨A0, h1, h2, h3, h4, h6, _⟩ := h
  have hr := rws_r h1
  have := (rws_sg h1).1
  rw [h6 (r + 1) (by omega) (by omega), h6 r (by omega) (by omega)]
  omega
theorem dn3_step {r i e e_zq : Int} {A A1 A2 now lat : Int → Int} (h : DN3 r A now lat i e) (he : e_zq = e + 1) (e0 : 0 ≤ e) (e1 : e < A (r + 1)) (c1 : cst A A1 (r + 267 + e) i) (c2 : cst A1 A2 (r + 315 + e) i) : DN3 r A2 now lat i e_zq := by
  have hl := dn3_len h
  obtain ⟨A0, h1, h2, h3, h4, h6, h7, h8⟩ := h
  obtain ⟨a1, a2⟩ := cst_is (by omega) c1
  obtain ⟨b1, b2⟩ := cst_is (by omega) c2
  have kp : ∀ j, 0 ≤ j → j ≠ r + 267 + e → j ≠ r + 315 + e → A2 j = A j := fun j a b c => by rw [b2 j a c, a2 j a b]
  refine ⟨A0, h1, h2, h3, h4, fun j a b => by rw [kp j a (by omega) (by omega)]; exact h6 j a b, fun f a b c => ?_, fun f a b c => ?_⟩
  · by_cases q : f = e
    · have z := h8 e e0 (by omega) (by omega)
      rw [q]
      exact ⟨by rw [b2 _ (by omega) (by omega), a1, z.1], by rw [b1, a2 _ (by omega) (by omega), z.2]⟩
    · rw [kp _ (by omega) (by omega) (by omega), kp _ (by omega) (by omega) (by omega)]; exact h7 f a b (by omega)
  · rw [kp _ (by omega) (by omega) (by omega), kp _ (by omega) (by omega) (by omega)]; exact h8 f a b (by omega)
def DN5 (r : Int) (A now lat : Int → Int) : Prop := ∃ A0, RWS r A0 now lat ∧ (∀ j, 0 ≤ j → (j < r ∨ r + 539 ≤ j) → A j = A0 j) ∧ (1 ≤ A r ∧ A r ≤ 24 ∧ 0 ≤ A (r + 1) ∧ A (r + 1) ≤ 48 ∧ SZ1 r A) ∧ GOK (A r - 1) (A (r + 1)) (fun e => A (r + 267 + e)) (fun e => A (r + 315 + e))
theorem dec1_inj {i s t : Int} (hs : s ≠ i) (ht : t ≠ i) (h : dec1 i s = dec1 i t) : s = t := by
  unfold dec1 at h
  revert h
  split <;> split <;> omega
theorem dec1_rng {i t n : Int} (h0 : 0 ≤ t) (h1 : t < n) (i0 : 0 ≤ i) (i1 : i < n) (hn : t ≠ i) : 0 ≤ dec1 i t ∧ dec1 i t < n - 1 := by
  unfold dec1
  split <;> omega
theorem dn5_of {r i e : Int} {A now lat : Int → Int} (h : DN3 r A now lat i e) (he : A (r + 1) ≤ e) : DN5 r A now lat := by
  have hl := dn3_len h
  obtain ⟨A0, h1, h2, h3, h4, h6, h7, h8⟩ := h
  have em : A (r + 1) = A0 (r + 1) := h6 (r + 1) (by omega) (by omega)
  have e0 : A r = A0 r := h6 r (by omega) (by omega)
  have sg := rws_sg h1
  have bd := sg.1
  refine ⟨A0, h1, fun j a b => h6 j a (by omega), ⟨by omega, by omega, by omega, by omega, fun i_zq i0 i1 => by rw [h6 _ (by omega) (by omega)]; exact bd.2.2.2.2 i_zq i0 (by omega)⟩, fun f a b => ?_, fun f g a b c => ?_⟩
  · have z := h7 f a (by omega) (by omega)
    have y := sg.2.1 f a (by omega)
    have x := h4 f (by omega) (by omega)
    have t1 := dec1_rng y.1 y.2.1 h2 h3 (fun q => x (Or.inl q))
    have t2 := dec1_rng y.2.2.1 y.2.2.2.1 h2 h3 (fun q => x (Or.inr q))
    show 0 ≤ A (r + 267 + f) ∧ A (r + 267 + f) < A r - 1 ∧ 0 ≤ A (r + 315 + f) ∧ A (r + 315 + f) < A r - 1 ∧ A (r + 267 + f) ≠ A (r + 315 + f)
    rw [z.1, z.2, e0]
    exact ⟨t1.1, t1.2, t2.1, t2.2, fun q => y.2.2.2.2 (dec1_inj (fun q => x (Or.inl q)) (fun q => x (Or.inr q)) q)⟩
  · have z := h7 f a (by omega) (by omega)
    have z_zq := h7 g (by omega) (by omega) (by omega)
    have x := h4 f (by omega) (by omega)
    have x_zq := h4 g (by omega) (by omega)
    show ¬ ((A (r + 267 + f) = A (r + 267 + g) ∧ A (r + 315 + f) = A (r + 315 + g)) ∨ (A (r + 267 + f) = A (r + 315 + g) ∧ A (r + 315 + f) = A (r + 267 + g)))
    rw [z.1, z.2, z_zq.1, z_zq.2]
    intro w
    refine sg.2.2 f g a b (by omega) ?_
    rcases w with ⟨w1, w2⟩ | ⟨w1, w2⟩
    · exact Or.inl ⟨dec1_inj (fun q => x (Or.inl q)) (fun q => x_zq (Or.inl q)) w1, dec1_inj (fun q => x (Or.inr q)) (fun q => x_zq (Or.inr q)) w2⟩
    · exact Or.inr ⟨dec1_inj (fun q => x (Or.inl q)) (fun q => x_zq (Or.inr q)) w1, dec1_inj (fun q => x (Or.inr q)) (fun q => x_zq (Or.inl q)) w2⟩
theorem dn5_r {r : Int} {A now lat : Int → Int} (h : DN5 r A now lat) : (0 ≤ r ∧ r ≤ 66297) ∧ 1 ≤ A r ∧ A r ≤ 24 := by
  obtain ⟨A0, h1, _, h3, _⟩ := h
  exact ⟨rws_r h1, h3.1, h3.2.1⟩
theorem dn5_sz {r : Int} {A now lat : Int → Int} (h : DN5 r A now lat) : SZ1 r A := by
  obtain ⟨A0, h1, _, h3, _⟩ := h
  exact h3.2.2.2.2
theorem dn5_off {r p v : Int} {A A_zq now lat : Int → Int} (h : DN5 r A now lat) (hs : st1 A A_zq p v) (hp : r + 2 ≤ p ∧ p < r + 267 ∧ (p < r + 219 ∨ r + 243 ≤ p ∨ 1 ≤ v)) : DN5 r A_zq now lat := by
  have hr := dn5_r h
  obtain ⟨A0, h1, h2, h3, h4⟩ := h
  have k : ∀ j, 0 ≤ j → j ≠ p → A_zq j = A j := fun j a c => (hs j a).2 c
  have k0 := k r (by omega) (by omega)
  have k1 := k (r + 1) (by omega) (by omega)
  exact ⟨A0, h1, fun j a b => by rw [k j a (by omega)]; exact h2 j a b, ⟨by omega, by omega, by omega, by omega, fun i i0 i1 => by
    by_cases q : r + 219 + i = p
    · rw [(hs _ (by omega)).1 q]; omega
    · rw [k _ (by omega) q]; exact h3.2.2.2.2 i i0 (by omega)⟩, gok_congr (by rw [k0]) k1 (fun e e0 e1 => k _ (by omega) (by omega)) (fun e e0 e1 => k _ (by omega) (by omega)) h4⟩
theorem dn5_two {r p v p1 v1 k q : Int} {A A1 A2 now lat : Int → Int} (h : DN5 r A now lat) (s1 : st1 A A1 p1 v1) (h1 : r + 2 ≤ p1 ∧ p1 < r + 219) (s2 : st1 A1 A2 p v) (hp : p = r + 219 + k) (hv : v = A1 q) (hq : q = r + 219 + k + 1) (k0 : 0 ≤ k) (k1 : k + 1 < A r) : DN5 r A2 now lat := by
  have d := dn5_off h s1 (by omega)
  have hr := dn5_r h
  have e : A1 r = A r := (s1 r (by omega)).2 (by omega)
  have z := dn5_sz d (k + 1) (by omega) (by omega)
  rw [show r + 219 + (k + 1) = q by omega, ← hv] at z
  exact dn5_off d s2 (by omega)
theorem dn5_end {r p v : Int} {A A_zq now lat : Int → Int} (h : DN5 r A now lat) (hs : st1 A A_zq p v) (hp : p = r) (hv_zq : v = A p - 1) : RWS r A_zq now lat := by
  have hv : v = A r - 1 := by rw [← hp]; exact hv_zq
  have hr := dn5_r h
  obtain ⟨A0, h1, h2, h3, h4⟩ := h
  have k : ∀ j, 0 ≤ j → j ≠ p → A_zq j = A j := fun j a c => (hs j a).2 c
  have k0 : A_zq r = A r - 1 := ((hs r (by omega)).1 hp.symm).trans hv
  have k1 := k (r + 1) (by omega) (by omega)
  exact rws_upd h1 (fun j a b => by rw [k j a (by omega)]; exact h2 j a b) ⟨⟨by omega, by omega, by omega, by omega, fun i i0 i1 => by rw [k _ (by omega) (by omega)]; exact h3.2.2.2.2 i i0 (by omega)⟩, gok_congr k0 k1 (fun e e0 e1 => k _ (by omega) (by omega)) (fun e e0 e1 => k _ (by omega) (by omega)) h4⟩
/-! back -/
theorem rows_back {A now now_zq lat : Int → Int} {g p v : Int} (h : ROWS A now lat) (g0 : 0 ≤ g) (g1 : g < 4) (hs : st1 now now_zq p v) (hp : p = g) (h0 : 0 ≤ v) (h1 : v ≤ lat g) : ROWS A now_zq lat := by
  intro g_zq a b
  have z := h g_zq a b
  refine ⟨?_, z.2⟩
  by_cases q : g_zq = g
  · rw [q, (hs g g0).1 hp.symm]; rw [q] at z; omega
  · rw [(hs g_zq a).2 (by omega)]; exact z.1
/-! clear, read -/
def RWX (A now lat : Int → Int) (r : Int) : Prop := RWS r A now lat
def CL2 (A now lat : Int → Int) (r i : Int) : Prop := ∃ A0, RWS r A0 now lat ∧ (∀ j, 0 ≤ j → (j < r ∨ r + 539 ≤ j) → A j = A0 j) ∧ ∀ j, 0 ≤ j → j < i → A (r + j) = 0
theorem cl2_start {r i : Int} {A now lat : Int → Int} (h : RWX A now lat r) (hi : i = 0) : CL2 A now lat r i := ⟨A, h, fun _ _ _ => rfl, fun j a b => by omega⟩
theorem cl2_step {r i i_zq p v : Int} {A A_zq now lat : Int → Int} (h : CL2 A now lat r i) (hi : i_zq = i + 1) (i0 : 0 ≤ i) (i1 : i < 539) (hs : st1 A A_zq p v) (hp : p = r + i) (hv : v = 0) : CL2 A_zq now lat r i_zq := by
  obtain ⟨A0, h1, h2, h3⟩ := h
  have hr := rws_r h1
  refine ⟨A0, h1, fun j a b => by rw [(hs j a).2 (by omega)]; exact h2 j a b, fun j a b => ?_⟩
  by_cases q : j = i
  · rw [q, (hs _ (by omega)).1 (by omega)]; exact hv
  · rw [(hs _ (by omega)).2 (by omega)]; exact h3 j a (by omega)
theorem cl2_end {r i p v q w : Int} {A A1 A2 now lat : Int → Int} (h : CL2 A now lat r i) (hi : 539 ≤ i) (hs : st1 A A1 p v) (hp : p = r + 2) (ht : st1 A1 A2 q w) (hq : q = r + 531) : RWX A2 now lat r := by
  obtain ⟨A0, h1, h2, h3⟩ := h
  have hr := rws_r h1
  have k : ∀ j, 0 ≤ j → j ≠ p → j ≠ q → A2 j = A j := fun j a c d => by rw [(ht j a).2 d, (hs j a).2 c]
  have z0 := h3 0 (by omega) (by omega)
  rw [show r + 0 = r by omega] at z0
  have z1 := h3 1 (by omega) (by omega)
  have k0 := k r (by omega) (by omega) (by omega)
  have k1 := k (r + 1) (by omega) (by omega) (by omega)
  exact rws_upd h1 (fun j a b => by rw [k j a (by omega) (by omega)]; exact h2 j a b) ⟨⟨by omega, by omega, by omega, by omega, fun i i0 i1 => by omega⟩, fun e e0 e1 => by omega, fun e f e0 ef f1 => by omega⟩
def FRS (F : Int → Int) : Prop := SG F 0
def FR1 (r : Int) (A F : Int → Int) (i : Int) : Prop := ∀ j, 0 ≤ j → j < i → F j = A (r + j)
theorem frs_of {r i : Int} {A F now lat : Int → Int} (h : RWS r A now lat) (hf : FR1 r A F i) (hi : 539 ≤ i) : FRS F := sg_congr (rws_sg h) (fun j a b => by rw [show (0 : Int) + j = j by omega]; exact hf j a (by omega))
def RD2 (r : Int) (A now lat F : Int → Int) (i : Int) : Prop := FRS F ∧ ∃ A0, RWS r A0 now lat ∧ (∀ j, 0 ≤ j → (j < r ∨ r + 539 ≤ j) → A j = A0 j) ∧ ∀ j, 0 ≤ j → j < i → A (r + j) = F j
theorem rd2_start {r i : Int} {A F now lat : Int → Int} (h : RWS r A now lat) (hf : FRS F) (hi : i = 0) : RD2 r A now lat F i := ⟨hf, A, h, fun _ _ _ => rfl, fun j a b => by omega⟩
theorem rd2_step {r i i_zq p v : Int} {A A_zq F now lat : Int → Int} (h : RD2 r A now lat F i) (hi : i_zq = i + 1) (i0 : 0 ≤ i) (i1 : i < 539) (hs : st1 A A_zq p v) (hp : p = r + i) (hv : v = F i) : RD2 r A_zq now lat F i_zq := by
  obtain ⟨hf, A0, h1, h2, h3⟩ := h
  have hr := rws_r h1
  refine ⟨hf, A0, h1, fun j a b => by rw [(hs j a).2 (by omega)]; exact h2 j a b, fun j a b => ?_⟩
  by_cases q : j = i
  · rw [q, (hs _ (by omega)).1 (by omega)]; exact hv
  · rw [(hs _ (by omega)).2 (by omega)]; exact h3 j a (by omega)
theorem rd2_end {r i : Int} {A F now lat : Int → Int} (h : RD2 r A now lat F i) (hi : 539 ≤ i) : ROWS A now lat := by
  obtain ⟨hf, A0, h1, h2, h3⟩ := h
  exact (rws_upd h1 h2 (sg_congr (r := 0) hf (fun j a b => by rw [show (0 : Int) + j = j by omega]; exact h3 j a (by omega)))).1
theorem rows_new {r g p v q w : Int} {A now now_zq lat lat_zq : Int → Int} (h : RWS r A now lat) (g0 : 0 ≤ g) (g1 : g < 4) (hs : st1 now now_zq p v) (hp : p = g) (hv : v = 0) (ht : st1 lat lat_zq q w) (hq : q = g) (hw : w = 0) : ROWS A now_zq lat_zq := by
  intro g_zq a b
  have z := h.1 g_zq a b
  by_cases e : g_zq = g
  · rw [e, (hs g g0).1 hp.symm, (ht g g0).1 hq.symm, hv, hw]
    rw [e] at z
    exact ⟨by omega, fun k k0 k1 => z.2 k k0 (by omega)⟩
  · rw [(hs g_zq a).2 (by omega), (ht g_zq a).2 (by omega)]; exact z
/-- what a name that was met is good for -/
def MET (r fault : Int) (A : Int → Int) (before z : Int) : Prop := fault = 0 → (0 ≤ z ∧ z < A r) ∧ (0 ≤ before → NWE r A before z)
def MEB (r : Int) (A : Int → Int) (before : Int) : Prop := 0 ≤ before → before < A r
def EDI (r fault : Int) (A : Int → Int) (a : Int) : Prop := fault = 0 → 0 ≤ a ∧ a < A r
def NDB (r : Int) (A : Int → Int) (z : Int) : Prop := z = -1 ∨ (0 ≤ z ∧ z < A r)
theorem nwe_old {r a z : Int} {A now lat : Int → Int} (h : RWS r A now lat) (hz : 0 ≤ z) (hz1 : z < A r) (ha : MEB r A a) (a0 : 0 ≤ a) (hne : z ≠ a) (hb : BTL r A z a (A (r + 1))) (he : A (r + 1) ≤ 47) : NWE r A a z :=
  ⟨a0, ha a0, hz, hz1, fun q => hne q.symm, he, fun e e0 e1 w => hb e e0 e1 (by
    rcases w with ⟨w1, w2⟩ | ⟨w1, w2⟩
    · exact ⟨Or.inr w2, Or.inl w1, hne⟩
    · exact ⟨Or.inl w1, Or.inr w2, hne⟩)⟩
/-- a node that is new has no edge -/
theorem nwe_new {r a z p v : Int} {A A_zq now lat : Int → Int} (h : RWS r A now lat) (hs : st1 A A_zq p v) (hp : p = r) (hv_zq : v = A p + 1) (hz : z = A r) (ha : MEB r A a) (a0 : 0 ≤ a) (he : A (r + 1) ≤ 47) : NWE r A_zq a z := by
  have hv : v = A r + 1 := by rw [← hp]; exact hv_zq
  have hr := rws_r h
  have sg := rws_sg h
  have b := sg.1
  have k : ∀ j, 0 ≤ j → j ≠ p → A_zq j = A j := fun j a c => (hs j a).2 c
  have k0 : A_zq r = A r + 1 := ((hs r (by omega)).1 hp.symm).trans hv
  have a1 := ha a0
  refine ⟨a0, by omega, by omega, by omega, by omega, by rw [k _ (by omega) (by omega)]; exact he, fun e e0 e1 w => ?_⟩
  rw [k _ (by omega) (by omega)] at e1
  rw [k _ (by omega) (by omega), k _ (by omega) (by omega)] at w
  have := sg.2.1 e e0 e1
  have t1 : A (r + 267 + e) < A r := this.2.1
  have t2 : A (r + 315 + e) < A r := this.2.2.2.1
  omega
/-- what lies beside them may change -/
theorem nwe_off {r a z p v : Int} {A A_zq : Int → Int} (h0 : 0 ≤ r) (h : NWE r A a z) (hs : st1 A A_zq p v) (hp : (r + 2 ≤ p ∧ p < r + 267) ∨ r + 363 ≤ p) : NWE r A_zq a z := by
  obtain ⟨n1, n2, n3, n4, n5, n6, n7⟩ := h
  have k : ∀ j, 0 ≤ j → j ≠ p → A_zq j = A j := fun j a c => (hs j a).2 c
  refine ⟨n1, by rw [k _ h0 (by omega)]; exact n2, n3, by rw [k _ h0 (by omega)]; exact n4, n5, by rw [k _ (by omega) (by omega)]; exact n6, fun e e0 e1 => ?_⟩
  rw [k _ (by omega) (by omega)] at e1
  rw [k _ (by omega) (by omega), k _ (by omega) (by omega)]
  exact n7 e e0 e1
def MEN (r : Int) (A : Int → Int) (before z : Int) : Prop := (0 ≤ z ∧ z < A r) ∧ (0 ≤ before → NWE r A before z)
theorem men_off {r a z p v : Int} {A A_zq : Int → Int} (h0 : 0 ≤ r) (h : MEN r A a z) (hs : st1 A A_zq p v) (hp : (r + 2 ≤ p ∧ p < r + 267) ∨ r + 363 ≤ p) : MEN r A_zq a z :=
  ⟨by rw [(hs r (by omega)).2 (by omega)]; exact h.1, fun q => nwe_off h0 (h.2 q) hs hp⟩
def DX2 (r : Int) (A now lat : Int → Int) (e k : Int) : Prop := DE2 r A now lat e k (-1)
def CPn (r : Int) (A : Int → Int) (a b : Int) : Prop := CPX A r 1 a b
def CPe (r : Int) (A : Int → Int) (a b : Int) : Prop := CPX A r 2 a b
def CPd (r : Int) (A : Int → Int) (a b : Int) : Prop := CPX A r 3 a b
def CPv (r : Int) (A : Int → Int) (a b : Int) : Prop := CPX A r 4 a b
def T13n (A now lat : Int → Int) (g i a b : Int) : Prop := T13 A now lat g i 1 a b
def T13e (A now lat : Int → Int) (g i a b : Int) : Prop := T13 A now lat g i 2 a b
def T13d (A now lat : Int → Int) (g i a b : Int) : Prop := T13 A now lat g i 3 a b
def T13v (A now lat : Int → Int) (g i a b : Int) : Prop := T13 A now lat g i 4 a b
def T13x (A now lat : Int → Int) (g i : Int) : Prop := T13 A now lat g i 0 0 0
def T73n (A now lat : Int → Int) (g s i a b : Int) : Prop := T73 A now lat g s i 1 a b
def T73e (A now lat : Int → Int) (g s i a b : Int) : Prop := T73 A now lat g s i 2 a b
def T73d (A now lat : Int → Int) (g s i a b : Int) : Prop := T73 A now lat g s i 3 a b
def T73v (A now lat : Int → Int) (g s i a b : Int) : Prop := T73 A now lat g s i 4 a b
def T73x (A now lat : Int → Int) (g s i : Int) : Prop := T73 A now lat g s i 0 0 0
def T130n (A now lat : Int → Int) (g a b : Int) : Prop := T130 A now lat g 1 a b
def T130e (A now lat : Int → Int) (g a b : Int) : Prop := T130 A now lat g 2 a b
def T130d (A now lat : Int → Int) (g a b : Int) : Prop := T130 A now lat g 3 a b
def T130v (A now lat : Int → Int) (g a b : Int) : Prop := T130 A now lat g 4 a b
def T130x (A now lat : Int → Int) (g : Int) : Prop := T130 A now lat g 0 0 0
theorem cpx_0 {A : Int → Int} {r : Int} : CPX A r 0 0 0 := ⟨fun q => by omega, fun q => by omega, fun q => by omega, fun q => by omega⟩
/-! isOuter -/
def OUI (r n m : Int) (A pt ph : Int → Int) (i : Int) : Prop := SG A r ∧ n = A r ∧ m = A (r + 1) + i ∧ GOK (n + 1) m pt ph ∧ (∀ e, 0 ≤ e → e < A (r + 1) → pt e < n ∧ ph e < n) ∧ ∀ e, A (r + 1) ≤ e → e < m → pt e = e - A (r + 1) ∧ ph e = n
theorem oui_start {r n m i : Int} {A pt ph al : Int → Int} (h : PLN r n m A pt ph al) (hi : i = 0) : OUI r n m A pt ph i := by
  have g := pln_gok h
  obtain ⟨h1, h2, h3, h4⟩ := h
  refine ⟨h1, h2, by omega, gok_more (by omega) g, fun e a b => ?_, fun e a b => by omega⟩
  have := g.1 e a (by omega)
  exact ⟨this.2.1, this.2.2.2.1⟩
theorem oui_step {r n m m_zq i i_zq p v q w : Int} {A pt pt_zq ph ph_zq : Int → Int} (h : OUI r n m A pt ph i) (i0 : 0 ≤ i) (i1 : i < A r) (hi : i_zq = i + 1) (hm : m_zq = m + 1) (hs : st1 pt pt_zq p v) (hp : p = m) (hv : v = i) (ht : st1 ph ph_zq q w) (hq : q = m) (hw : w = n) : OUI r n m_zq A pt_zq ph_zq i_zq := by
  obtain ⟨h1, h2, h3, h4, h5, h6⟩ := h
  have b := h1.1
  have e1 : ∀ j, 0 ≤ j → j < m → pt_zq j = pt j ∧ ph_zq j = ph j := fun j a b => ⟨(hs j a).2 (by omega), (ht j a).2 (by omega)⟩
  have e2 : pt_zq m = i ∧ ph_zq m = n := ⟨((hs m (by omega)).1 hp.symm).trans hv, ((ht m (by omega)).1 hq.symm).trans hw⟩
  refine ⟨h1, h2, by omega, ⟨fun e a b => ?_, fun e f a b c => ?_⟩, fun e a b => by rw [(e1 e a (by omega)).1, (e1 e a (by omega)).2]; exact h5 e a b, fun e a b => ?_⟩
  · by_cases q : e = m
    · rw [q, e2.1, e2.2]; omega
    · rw [(e1 e a (by omega)).1, (e1 e a (by omega)).2]; exact h4.1 e a (by omega)
  · rw [(e1 e a (by omega)).1, (e1 e a (by omega)).2]
    by_cases q : f = m
    · rw [q, e2.1, e2.2]
      by_cases z : e < A (r + 1)
      · have := h5 e a z; omega
      · have := h6 e (by omega) (by omega); omega
    · rw [(e1 f (by omega) (by omega)).1, (e1 f (by omega) (by omega)).2]; exact h4.2 e f a b (by omega)
  · by_cases q : e = m
    · rw [q, e2.1, e2.2]; omega
    · rw [(e1 e (by omega) (by omega)).1, (e1 e (by omega) (by omega)).2]; exact h6 e a (by omega)
theorem nda_off {r i p v : Int} {A A_zq : Int → Int} (h0 : 0 ≤ r) (h : NDA r A i) (hs : st1 A A_zq p v) (hp : p ≠ r) : NDA r A_zq i := by
  unfold NDA; rw [(hs r h0).2 (by omega)]; exact h
theorem nda_eq {r i : Int} {A A_zq : Int → Int} (h : NDA r A i) (e : A_zq r = A r) : NDA r A_zq i := by
  unfold NDA; rw [e]; exact h
theorem men_new {r a z p v : Int} {A A_zq now lat : Int → Int} (h : RWS r A now lat) (hs : st1 A A_zq p v) (hp : p = r) (hv : v = A p + 1) (hz : z = A r) (ha : MEB r A a) (he : a < 0 ∨ A (r + 1) ≠ 48) : MEN r A_zq a z := by
  have hr := rws_r h
  have b := (rws_sg h).1
  refine ⟨?_, fun q => nwe_new h hs hp hv hz ha q (by omega)⟩
  rw [(hs r (by omega)).1 hp.symm, hv, hp]
  omega
theorem men_old {r a z : Int} {A now lat : Int → Int} (h : RWS r A now lat) (hz : NDB r A z) (z0 : 0 ≤ z) (ha : MEB r A a) (hc : a < 0 ∨ (z ≠ a ∧ BTL r A z a (A (r + 1)) ∧ A (r + 1) ≠ 48)) : MEN r A a z := by
  have b := (rws_sg h).1
  have z1 : z < A r := by
    rcases hz with q | q
    · omega
    · exact q.2
  refine ⟨⟨z0, z1⟩, fun q => ?_⟩
  rcases hc with c | ⟨c1, c2, c3⟩
  · omega
  · exact nwe_old h z0 z1 ha q c1 c2 (by omega)
end
section
/-! canonical: the lines, one behind another -/
/-- the line U_zq comes out of the line U when x leaves -/
def STJ (m : Int) (pt ph al : Int → Int) (x : Int) (U : Int → Int) (k : Int) (U_zq : Int → Int) (k_zq : Int) : Prop := ∃ p M, (1 ≤ p ∧ p + 1 < k ∧ 0 ≤ M ∧ k_zq = k - 1 + M) ∧ U p = x ∧ (∀ t, 0 ≤ t → t < p → U_zq t = U t) ∧ (∀ t, p < t → t < k → U_zq (t - 1 + M) = U t) ∧ ∀ t, 0 ≤ t → t < k_zq → (jA m pt ph al x (U_zq t) ↔ p - 1 ≤ t ∧ t ≤ p + M)
def HIS (n m : Int) (pt ph al order : Int → Int) (H : Int → Int → Int) (len : Int → Int) (k : Int) : Prop := ∀ j, k < j → j < n → STJ m pt ph al (order j) (H j) (len j) (H (j - 1)) (len (j - 1)) ∧ (3 ≤ len j ∧ len j ≤ 24) ∧ ∀ t, 0 ≤ t → t < len j → 0 ≤ H j t ∧ H j t < n
def CNS (n m upper : Int) (pt ph al rm rot left U order : Int → Int) (k : Int) : Prop := CNB n m pt ph al rm rot ∧ (2 ≤ k ∧ k < n) ∧ (∃ nx ρ ω, mp (jA m pt ph al) nx ∧ pls (jA m pt ph al) nx ρ ∧ foll n pt ph rm rot nx ∧ cnv0 (order 0) (order 1) upper U (lfn n left) (jA m pt ph al) ∧ cnvw (jA m pt ph al) nx (order 0) (order 1) upper U (lfn n left) ω) ∧ cz left n = n - 1 - k ∧ ∃ H len, (∀ t, 0 ≤ t → t < upper → H k t = U t) ∧ len k = upper ∧ HIS n m pt ph al order H len k
def CNH (n m : Int) (pt ph al order : Int → Int) : Prop := (3 ≤ n ∧ n ≤ 24) ∧ ∃ H len, (len 2 = 3 ∧ H 2 0 = order 0 ∧ H 2 1 = order 2 ∧ H 2 2 = order 1) ∧ (∀ t, 0 ≤ t → t < 3 → 0 ≤ H 2 t ∧ H 2 t < n) ∧ HIS n m pt ph al order H len 2
def CNX (n m upper : Int) (pt ph al rm rot left U order : Int → Int) (k : Int) : Prop := (2 ≤ k → CNS n m upper pt ph al rm rot left U order k) ∧ (k < 2 → CNH n m pt ph al order)
theorem cns_line {n m upper k : Int} {pt ph al rm rot left U order : Int → Int} (h : CNS n m upper pt ph al rm rot left U order k) : (3 ≤ upper ∧ upper ≤ 24) ∧ ∀ t, 0 ≤ t → t < upper → 0 ≤ U t ∧ U t < n := by
  obtain ⟨hb, _, ⟨nx, ρ, ω, _, _, _, h0, _⟩, _⟩ := h
  have r : ∀ t, 0 ≤ t → t < upper → 0 ≤ U t ∧ U t < n := fun t a b => (h0.2.2.2.1 t a b).1
  have := rw_len (L := upper) (M := n) (by have := hb.2.2.2; omega) r h0.2.2.2.2.1
  exact ⟨⟨h0.1, by have := hb.2.2.2; omega⟩, r⟩
/-- one may leave -/
theorem cns_ex {n m upper k : Int} {pt ph al rm rot left U order : Int → Int} (h : CNS n m upper pt ph al rm rot left U order k) : ∃ p, 1 ≤ p ∧ p + 1 < upper ∧ ∀ q, 0 ≤ q → q < upper → q ≠ p → q ≠ p - 1 → q ≠ p + 1 → ¬ jA m pt ph al (U p) (U q) := by
  obtain ⟨_, _, ⟨nx, ρ, ω, h1, h2, _, h3, h4⟩, _⟩ := h
  exact can_ex h1 h2 h3 h4
theorem czset {f g : Int → Int} {n x : Int} (hn : 0 ≤ n) (h : ∀ j, 0 ≤ j → j < n → j ≠ x → (f j = 0 → g j = 0)) : cz f n ≤ cz g n + 1 := by
  have key : ∀ t : Nat, (∀ j : Int, 0 ≤ j → j < t → j ≠ x → (f j = 0 → g j = 0)) → czN f t ≤ czN g t + (if 0 ≤ x ∧ x < (t : Int) then 1 else 0) := by
    intro t
    induction t with
    | zero => intro _; show (0 : Int) ≤ 0 + (if 0 ≤ x ∧ x < ((0 : Nat) : Int) then 1 else 0); split <;> omega
    | succ t ih =>
      intro hh
      have a := ih (fun j a b => hh j a (by omega))
      show czN f t + (if f (t : Int) = 0 then 1 else 0) ≤ czN g t + (if g (t : Int) = 0 then 1 else 0) + (if 0 ≤ x ∧ x < ((t + 1 : Nat) : Int) then 1 else 0)
      by_cases q : (t : Int) = x
      · rw [if_pos (by omega : 0 ≤ x ∧ x < ((t + 1 : Nat) : Int))]
        rw [if_neg (by omega : ¬ (0 ≤ x ∧ x < (t : Int)))] at a
        split <;> split <;> omega
      · have b := hh (t : Int) (by omega) (by omega) q
        by_cases z : f (t : Int) = 0
        · rw [if_pos z, if_pos (b z)]
          split at a <;> split <;> omega
        · rw [if_neg z]
          split at a <;> split <;> split <;> omega
  have := key n.toNat (fun j a b => h j a (by omega))
  rw [cz_is, cz_is]
  split at this <;> omega
/-- who is left, is no more than three where x has none inside and the line is of three -/
theorem can_M {n m : Int} {pt ph al U : Int → Int} {nx : Int → Int → Int} {u v : Int} {lf : Int → Prop} {ω : Int → Int → Bool} (hg : GOK n m pt ph) (hc : CON n m pt ph al) (hu0 : 0 ≤ u ∧ u < n) (hm : mp (jA m pt ph al) nx) (ht : ftri (jA m pt ph al) nx) (h0 : cnv0 u v 3 U lf (jA m pt ph al)) (hw : cnvw (jA m pt ph al) nx u v 3 U lf ω) (hy : (nx u (U 1) = v ∧ ω u (U 1) = false) ∨ (nx v (U 1) = u ∧ ω v (U 1) = false)) (z : Int) (hz0 : 0 ≤ z ∧ z < n) (hz : lf z) : z = u ∨ z = U 1 ∨ z = v := by
  have hw_zq := hw
  obtain ⟨w0, w1, w2, w3, w4, w5⟩ := hw
  have h0_zq := h0
  obtain ⟨_, eu, ev, hl, hd, hadj, huv⟩ := h0
  have ev_zq : U 2 = v := by rw [show (2 : Int) = 3 - 1 by omega]; exact ev
  have sy := hm.1.1
  have nuv : u ≠ v := hm.1.2 _ _ huv
  have nux : u ≠ U 1 := fun e => hd 0 1 (by omega) (by omega) (by omega) (by rw [eu]; exact e)
  have nvx : v ≠ U 1 := fun e => hd 1 2 (by omega) (by omega) (by omega) (by rw [ev_zq]; exact e.symm)
  have aux : jA m pt ph al u (U 1) := by have := hadj 0 (by omega) (by omega); rw [eu] at this; exact this
  have axv : jA m pt ph al (U 1) v := by have := hadj 1 (by omega) (by omega); rw [show (1 : Int) + 1 = 2 by omega, ev_zq] at this; exact this
  have lamd : ∀ a b, Lam u v 3 U a b ↔ ((a = u ∧ b = U 1) ∨ (b = u ∧ a = U 1)) ∨ ((a = U 1 ∧ b = v) ∨ (b = U 1 ∧ a = v)) ∨ ((a = u ∧ b = v) ∨ (a = v ∧ b = u)) := fun a b => by
    constructor
    · rintro (⟨j, j0, j1, hj⟩ | q)
      · rcases (by omega : j = 0 ∨ j = 1) with e | e
        · subst e; rw [eu, show (0 : Int) + 1 = 1 by omega] at hj; exact Or.inl hj
        · subst e; rw [show (1 : Int) + 1 = 2 by omega, ev_zq] at hj; exact Or.inr (Or.inl hj)
      · exact Or.inr (Or.inr q)
    · rintro (q | q | q)
      · exact Or.inl ⟨0, by omega, by omega, by rw [eu, show (0 : Int) + 1 = 1 by omega]; exact q⟩
      · exact Or.inl ⟨1, by omega, by omega, by rw [show (1 : Int) + 1 = 2 by omega, ev_zq]; exact q⟩
      · exact Or.inr q
  -- a triangle inside: s0 s1 s2 in its order, all three sides on the line
  have tri : ∃ s0 s1 s2, (∀ q, (q = s0 ∨ q = s1 ∨ q = s2) ↔ (q = u ∨ q = U 1 ∨ q = v)) ∧ s0 ≠ s1 ∧ s1 ≠ s2 ∧ s2 ≠ s0 ∧ jA m pt ph al s0 s1 ∧ jA m pt ph al s1 s2 ∧ jA m pt ph al s2 s0 ∧ nx s0 s1 = s2 ∧ nx s1 s2 = s0 ∧ nx s2 s0 = s1 ∧ ω s0 s1 = false ∧ ω s1 s2 = false ∧ ω s2 s0 = false := by
    have mk : ∀ a b c, jA m pt ph al a b → nx a b = c → ω a b = false → nx b c = a ∧ nx c a = b ∧ ω b c = false ∧ ω c a = false ∧ jA m pt ph al b c ∧ jA m pt ph al c a := fun a b c hab e1 e2 => by
      have t1 := ht a b hab
      rw [e1] at t1
      have hbc : jA m pt ph al b c := by have := hm.2.1 a b hab; rw [e1] at this; exact this
      have t2 := ht b c hbc
      rw [t1] at t2
      have hca : jA m pt ph al c a := by have := hm.2.1 b c hbc; rw [t1] at this; exact this
      have f1 := w0 a b hab
      rw [e1, e2] at f1
      have f2 := w0 b c hbc
      rw [t1, f1] at f2
      exact ⟨t1, t2, f1, f2, hbc, hca⟩
    rcases hy with ⟨y1, y2⟩ | ⟨y1, y2⟩
    · obtain ⟨a1, a2, a3, a4, a5, a6⟩ := mk u (U 1) v aux y1 y2
      exact ⟨u, U 1, v, fun q => Iff.rfl, nux, fun e => nvx e.symm, fun e => nuv e.symm, aux, a5, a6, y1, a1, a2, y2, a3, a4⟩
    · obtain ⟨a1, a2, a3, a4, a5, a6⟩ := mk v (U 1) u (sy _ _ axv) y1 y2
      exact ⟨v, U 1, u, fun q => ⟨fun w => by rcases w with w | w | w; exact Or.inr (Or.inr w); exact Or.inr (Or.inl w); exact Or.inl w, fun w => by rcases w with w | w | w; exact Or.inr (Or.inr w); exact Or.inr (Or.inl w); exact Or.inl w⟩, nvx, fun e => nux e.symm, nuv, sy _ _ axv, a5, a6, y1, a1, a2, y2, a3, a4⟩
  obtain ⟨s0, s1, s2, hq, n01, n12, n20, A01, A12, A20, x1, x2, x3, o1, o2, o3⟩ := tri
  have lamS : ∀ a b, Lam u v 3 U a b → (a = u ∨ a = U 1 ∨ a = v) ∧ (b = u ∨ b = U 1 ∨ b = v) := fun a b h => by
    rcases (lamd a b).1 h with (⟨q, r⟩ | ⟨q, r⟩) | (⟨q, r⟩ | ⟨q, r⟩) | (⟨q, r⟩ | ⟨q, r⟩) <;> subst q <;> subst r <;> simp
  have lamA : ∀ a b, (a = s0 ∨ a = s1 ∨ a = s2) → (b = s0 ∨ b = s1 ∨ b = s2) → a ≠ b → Lam u v 3 U a b := fun a b ha hb hne => by
    rw [hq] at ha hb
    rw [lamd]
    rcases ha with ha | ha | ha <;> rcases hb with hb | hb | hb <;> subst ha <;> subst hb <;> simp_all
  -- around each of the three only one comes in from inside
  have one : ∀ a b c, (a = s0 ∨ a = s1 ∨ a = s2) → (b = s0 ∨ b = s1 ∨ b = s2) → (c = s0 ∨ c = s1 ∨ c = s2) → a ≠ b → b ≠ c → c ≠ a → jA m pt ph al a b → jA m pt ph al c b → nx a b = c → ω a b = false → ∀ w, jA m pt ph al w b → ω w b = false → w = a := fun a b c ha hb hc nab nbc nca Aab Acb e1 e2 w Aw hw_zq => by
    have fa := w_next hm w0 w1 Aab
    rw [e1, e2, pb_t (lamA c b hc hb (fun e => nbc e.symm))] at fa
    have fa_zq : ω c b = true := fa
    have cl := hm.2.2.2 b (fun q => ω q b = true ∨ q = a) (fun q Aq hq_zq => by
      have f := w_next hm w0 w1 Aq
      rcases hq_zq with y | y
      · by_cases e : nx q b = a
        · exact Or.inr e
        · rcases bdi (pb (Lam u v 3 U (nx q b) b)) with g | g
          · rw [y, g] at f; exact Or.inl f
          · exfalso
            have := (lamS _ _ (pb_i g)).1
            rw [← hq] at this
            have hne : nx q b ≠ b := (hm.1.2 _ _ (hm.2.1 _ _ Aq)).symm
            have hcc : nx q b = c := by
              rcases ha with ha | ha | ha <;> rcases hb with hb | hb | hb <;> rcases hc with hc | hc | hc <;> subst ha <;> subst hb <;> subst hc <;> simp_all
            have := hm.2.2.1 q a b Aq Aab (hcc.trans e1.symm)
            rw [this, e2] at y; exact absurd y (by decide)
      · rw [y, e1]; exact Or.inl fa_zq) a w Aab Aw (Or.inr rfl)
    rcases cl with y | y
    · rw [hw_zq] at y; exact absurd y (by decide)
    · exact y
  -- so nobody else is joined with them from inside
  have out : ∀ a b, jA m pt ph al a b → (b = u ∨ b = U 1 ∨ b = v) → lf a → (a = u ∨ a = U 1 ∨ a = v) := fun a b hab hb ha => by
    rcases bdi (ω a b) with g | g
    · rw [← hq] at hb ⊢
      rcases hb with hb | hb | hb
      · subst hb; exact Or.inr (Or.inr (one s2 b s1 (Or.inr (Or.inr rfl)) (Or.inl rfl) (Or.inr (Or.inl rfl)) n20 n01 n12 A20 (sy _ _ A01) x3 o3 a hab g))
      · subst hb; exact Or.inl (one s0 b s2 (Or.inl rfl) (Or.inr (Or.inl rfl)) (Or.inr (Or.inr rfl)) n01 n12 n20 A01 (sy _ _ A12) x1 o1 a hab g)
      · subst hb; exact Or.inr (Or.inl (one s1 b s0 (Or.inr (Or.inl rfl)) (Or.inr (Or.inr rfl)) (Or.inl rfl) n12 n20 n01 A12 (sy _ _ A20) x2 o2 a hab g))
    · have lb : lf b := by
        rcases hb with e | e | e
        · rw [e, ← eu]; exact hl 0 (by omega) (by omega)
        · rw [e]; exact hl 1 (by omega) (by omega)
        · rw [e, ← ev_zq]; exact hl 2 (by omega) (by omega)
      exact (lamS _ _ (w5 a b hab ha lb g)).1
  -- a way from u to z, over nodes that are left
  have r := hc u hu0.1 hu0.2
  have r2 := rc_trans (rc_symm sy r) (hc z hz0.1 hz0.2)
  have cl := r2 (fun q => ¬ lf q ∨ (q = u ∨ q = U 1 ∨ q = v)) (fun a b hab hq_zq => by
    by_cases lb : lf b
    · right
      rcases hq_zq with na | sa
      · obtain ⟨j, j0, j1, e⟩ := w3 a b hab na lb
        rcases (by omega : j = 0 ∨ j = 1 ∨ j = 2) with q | q | q <;> subst q
        · left; rw [e, eu]
        · right; left; exact e
        · right; right; rw [e, ev_zq]
      · exact out b a (sy _ _ hab) sa lb
    · exact Or.inl lb) (Or.inr (Or.inl rfl))
  rcases cl with q | q
  · exact absurd hz q
  · exact q
end
section
/-! reveal: what comes into the place of the node that leaves -/
theorem cz_inj {f U : Int → Int} {n L : Int} (hn : 0 ≤ n) (hL : 0 ≤ L) (hr : ∀ t, 0 ≤ t → t < L → (0 ≤ U t ∧ U t < n) ∧ f (U t) ≠ 0) (hd : ∀ s t, 0 ≤ s → s < t → t < L → U s ≠ U t) : L + cz f n ≤ n := by
  have key : ∀ t : Nat, (t : Int) ≤ L → ∃ g : Int → Int, (t : Int) + cz f n ≤ cz g n ∧ ∀ z, ((∃ j, 0 ≤ j ∧ j < (t : Int) ∧ U j = z) → g z = 0) ∧ ((¬ ∃ j, 0 ≤ j ∧ j < (t : Int) ∧ U j = z) → g z = f z) := by
    intro t
    induction t with
    | zero => intro _; exact ⟨f, by omega, fun z => ⟨fun ⟨j, a, b, _⟩ => by omega, fun _ => rfl⟩⟩
    | succ t ih =>
      intro ht
      obtain ⟨g, g1, g2⟩ := ih (by omega)
      refine ⟨fun z => if z = U (t : Int) then 0 else g z, ?_, fun z => ⟨fun ⟨j, a, b, c⟩ => ?_, fun hz => ?_⟩⟩
      · have r := hr (t : Int) (by omega) (by omega)
        have gt : g (U (t : Int)) = f (U (t : Int)) := (g2 _).2 (fun ⟨j, a, b, c⟩ => hd j (t : Int) a b (by omega) c)
        have := czlt (f := g) (g := fun z => if z = U (t : Int) then 0 else g z) (n := n) (i := U (t : Int)) r.1.1 r.1.2 (fun j _ _ q => by show (if j = U (t : Int) then 0 else g j) = 0; split <;> simp_all) (by show (if U (t : Int) = U (t : Int) then 0 else g (U (t : Int))) = 0; rw [if_pos rfl]) (by rw [gt]; exact r.2)
        omega
      · show (if z = U (t : Int) then 0 else g z) = 0
        by_cases q : j = (t : Int)
        · rw [if_pos (by rw [← c, q])]
        · split
          · rfl
          · exact (g2 z).1 ⟨j, a, by omega, c⟩
      · show (if z = U (t : Int) then 0 else g z) = f z
        rw [if_neg (fun e => hz ⟨(t : Int), by omega, by omega, e.symm⟩)]
        exact (g2 z).2 (fun ⟨j, a, b, c⟩ => hz ⟨j, a, by omega, c⟩)
  obtain ⟨g, g1, _⟩ := key L.toNat (by omega)
  have := czb g hn
  omega
def wr (many a : Int) : Int := if a < 0 then a + many else if many ≤ a then a - many else a
def yv (row : Int → Int) (many at_zq on i : Int) : Int := row (wr many (if on ≠ 0 then at_zq + i else at_zq - i))
theorem wr_cases (many a : Int) : (a < 0 ∧ wr many a = a + many) ∨ (0 ≤ a ∧ many ≤ a ∧ wr many a = a - many) ∨ (0 ≤ a ∧ a < many ∧ wr many a = a) := by
  unfold wr
  split
  · left; omega
  · split
    · right; left; omega
    · right; right; omega
theorem wr_rng {many a : Int} (h0 : -many ≤ a) (h1 : a < 2 * many) (hm : 0 < many) : 0 ≤ wr many a ∧ wr many a < many := by
  unfold wr; split
  · omega
  · split <;> omega
theorem wr_mod {many a : Int} (h0 : 0 ≤ a) (h1 : a < 2 * many) : a % many = wr many a := by
  unfold wr
  rw [if_neg (by omega)]
  rcases em_ab h0 h1 with ⟨q, e⟩ | ⟨q, e⟩
  · rw [if_neg (by omega), e]
  · rw [if_pos q, e]
theorem Lam_congr {u v k x y : Int} {U U_zq : Int → Int} (h : ∀ t, 0 ≤ t → t < k → U_zq t = U t) : Lam u v k U_zq x y ↔ Lam u v k U x y := by
  unfold Lam
  constructor
  · rintro (⟨j, a, b, c⟩ | c)
    · rw [h j a (by omega), h (j + 1) (by omega) b] at c; exact Or.inl ⟨j, a, b, c⟩
    · exact Or.inr c
  · rintro (⟨j, a, b, c⟩ | c)
    · rw [← h j a (by omega), ← h (j + 1) (by omega) b] at c; exact Or.inl ⟨j, a, b, c⟩
    · exact Or.inr c
theorem cnv0_congr {A : pa_T} {u v k : Int} {U U_zq : Int → Int} {lf : Int → Prop} (h : ∀ t, 0 ≤ t → t < k → U_zq t = U t) (h0 : cnv0 u v k U lf A) : cnv0 u v k U_zq lf A := by
  obtain ⟨k3, hu, hv, hl, hd, ha, huv⟩ := h0
  refine ⟨k3, by rw [h 0 (by omega) (by omega)]; exact hu, by rw [h (k - 1) (by omega) (by omega)]; exact hv, fun j a b => by rw [h j a b]; exact hl j a b, fun i j a b c => by rw [h i a (by omega), h j (by omega) c]; exact hd i j a b c, fun j a b => by rw [h j a (by omega), h (j + 1) (by omega) b]; exact ha j a b, huv⟩
theorem cnvw_congr {A : pa_T} {nx : Int → Int → Int} {u v k : Int} {U U_zq : Int → Int} {lf : Int → Prop} {ω : Int → Int → Bool} (h : ∀ t, 0 ≤ t → t < k → U_zq t = U t) (h0 : cnvw A nx u v k U lf ω) : cnvw A nx u v k U_zq lf ω := by
  obtain ⟨w0, w1, w2, w3, w4, w5⟩ := h0
  refine ⟨w0, fun x y a => by rw [pb_iff (Lam_congr h)]; exact w1 x y a, w2, fun x y a b c => ?_, w4, fun x y a b c d => (Lam_congr h).2 (w5 x y a b c d)⟩
  obtain ⟨j, j0, j1, e⟩ := w3 x y a b c
  exact ⟨j, j0, j1, by rw [h j j0 j1]; exact e⟩
def nch (m upper : Int) (pt ph al U : Int → Int) (p : Int) : Prop := ∀ q, 0 ≤ q → q < upper → q ≠ p → q ≠ p - 1 → q ≠ p + 1 → ¬ jA m pt ph al (U p) (U q)
def RVP (n m upper : Int) (pt ph al rm rot left U order : Int → Int) (p x k : Int) : Prop := ∃ left0 order0, CNS n m upper pt ph al rm rot left0 U order0 k ∧ (1 ≤ p ∧ p + 1 < upper ∧ U p = x) ∧ nch m upper pt ph al U p ∧ (∀ z, 0 ≤ z → z ≠ x → left z = left0 z) ∧ left x = 0 ∧ (∀ j, 0 ≤ j → j ≠ k → order j = order0 j) ∧ order k = x
def RV1 (n m upper : Int) (pt ph al rm rot left U order row : Int → Int) (p x l many at_zq K k : Int) : Prop := RVP n m upper pt ph al rm rot left U order p x k ∧ l = U (p - 1) ∧ GTH (lfn n left) (fun q => acr pt ph (rt rot x q) x) row K many ∧ ((at_zq = -1 ∧ ∀ t, 0 ≤ t → t < many → row t ≠ l) ∨ (0 ≤ at_zq ∧ at_zq < many ∧ row at_zq = l)) ∧ 0 ≤ K ∧ K ≤ rm x
def RVE (n m upper : Int) (pt ph al rm rot left U order row : Int → Int) (p many at_zq on k : Int) : Prop := (2 ≤ many ∧ 0 ≤ at_zq ∧ at_zq < many) ∧ (1 ≤ p ∧ p + 1 < upper ∧ upper ≤ 24 ∧ upper + many ≤ 27) ∧ (∀ t, 0 ≤ t → t < many → 0 ≤ row t ∧ row t < n) ∧ (∀ t, 0 ≤ t → t < upper → 0 ≤ U t ∧ U t < n) ∧ ∀ U_zq : Int → Int, (∀ t, 0 ≤ t → t < upper - 3 + many → U_zq t = nU p (many - 2) U (yv row many at_zq on) t) → CNX n m (upper - 3 + many) pt ph al rm rot left U_zq order (k - 1)
/-- the row around x read from l on, forward or back -/
theorem yv_row {many at_zq on : Int} {row : Int → Int} {rr : Int} {W : Int → Bool} {nxx : Int → Int} (h2 : 2 ≤ many) (a0 : 0 ≤ at_zq) (a1 : at_zq < many) (rowD : ∀ t t_zq, 0 ≤ t → t < t_zq → t_zq < many → row t ≠ row t_zq) (hon : on ≠ 0 ↔ (many = 2 ∨ row ((at_zq + 1) % many) ≠ rr))
    (hc : (row ((at_zq + (many - 1)) % many) = rr ∧ ∀ i, 0 ≤ i → i + 1 < many → W (row ((at_zq + i) % many)) = false ∧ nxx (row ((at_zq + i) % many)) = row ((at_zq + i + 1) % many)) ∨ (∃ tr, 0 ≤ tr ∧ tr < many ∧ row tr = rr ∧ (tr + (many - 1)) % many = at_zq ∧ ∀ i, 0 ≤ i → i + 1 < many → W (row ((tr + i) % many)) = false ∧ nxx (row ((tr + i) % many)) = row ((tr + i + 1) % many))) :
    yv row many at_zq on 0 = row at_zq ∧ yv row many at_zq on (many - 1) = rr ∧ ((∀ i, 0 ≤ i → i + 1 < many → nxx (yv row many at_zq on i) = yv row many at_zq on (i + 1) ∧ W (yv row many at_zq on i) = false) ∨ (∀ i, 0 ≤ i → i + 1 < many → nxx (yv row many at_zq on (i + 1)) = yv row many at_zq on i ∧ W (yv row many at_zq on (i + 1)) = false)) := by
  have inj : ∀ s t, 0 ≤ s → s < many → 0 ≤ t → t < many → row s = row t → s = t := fun s t s0 s1 t0 t1 z => by
    rcases Int.lt_trichotomy s t with q | q | q
    · exact absurd z (rowD s t s0 q t1)
    · exact q
    · exact absurd z.symm (rowD t s t0 q s1)
  rcases hc with ⟨c1, c2⟩ | ⟨tr, tr0, tr1, tr2, tr3, c2⟩
  · have on1 : on ≠ 0 := by
      rw [hon]
      by_cases q : many = 2
      · exact Or.inl q
      · right
        intro z
        rw [← c1, wr_mod (by omega) (by omega), wr_mod (by omega) (by omega)] at z
        have r1 := wr_rng (many := many) (a := at_zq + 1) (by omega) (by omega) (by omega)
        have r2 := wr_rng (many := many) (a := at_zq + (many - 1)) (by omega) (by omega) (by omega)
        have := inj _ _ r1.1 r1.2 r2.1 r2.2 z
        have w1 := wr_cases many (at_zq + 1)
        have w2 := wr_cases many (at_zq + (many - 1))
        omega
    have e : ∀ i, 0 ≤ i → i < many → yv row many at_zq on i = row ((at_zq + i) % many) := fun i i0 i1 => by
      unfold yv; rw [if_pos on1, wr_mod (by omega) (by omega)]
    refine ⟨by rw [e 0 (by omega) (by omega), show at_zq + 0 = at_zq by omega, em_lt a0 a1], by rw [e _ (by omega) (by omega)]; exact c1, Or.inl (fun i i0 i1 => ?_)⟩
    rw [e i i0 (by omega), e (i + 1) (by omega) i1, show at_zq + (i + 1) = at_zq + i + 1 by omega]
    exact ⟨(c2 i i0 i1).2, (c2 i i0 i1).1⟩
  · rw [wr_mod (by omega) (by omega)] at tr3
    have ea : (tr = 0 ∧ at_zq = many - 1) ∨ (1 ≤ tr ∧ at_zq = tr - 1) := by
      unfold wr at tr3
      rw [if_neg (by omega)] at tr3
      split at tr3 <;> omega
    have e1 : (at_zq + 1) % many = tr := by
      rw [wr_mod (by omega) (by omega)]
      unfold wr
      rw [if_neg (by omega)]
      split <;> omega
    have e : ∀ i, 0 ≤ i → i < many → yv row many at_zq on i = row ((tr + (many - 1 - i)) % many) := fun i i0 i1 => by
      rw [wr_mod (by omega) (by omega)]
      unfold yv
      congr 1
      by_cases q : on ≠ 0
      · rw [if_pos q]
        rw [e1] at hon
        have m2 : many = 2 := by
          rcases hon.1 q with z | z
          · exact z
          · exact absurd tr2 z
        have w1 := wr_cases many (at_zq + i)
        have w2 := wr_cases many (tr + (many - 1 - i))
        omega
      · rw [if_neg q]
        have w1 := wr_cases many (at_zq - i)
        have w2 := wr_cases many (tr + (many - 1 - i))
        omega
    refine ⟨?_, ?_, Or.inr (fun i i0 i1 => ?_)⟩
    · rw [e 0 (by omega) (by omega), wr_mod (by omega) (by omega), show many - 1 - 0 = many - 1 by omega]; rw [tr3]
    · rw [e _ (by omega) (by omega), show tr + (many - 1 - (many - 1)) = tr by omega, em_lt tr0 tr1]; exact tr2
    · rw [e i i0 (by omega), e (i + 1) (by omega) i1]
      have := c2 (many - 1 - (i + 1)) (by omega) (by omega)
      rw [show tr + (many - 1 - (i + 1)) + 1 = tr + (many - 1 - i) by omega] at this
      exact ⟨this.2, this.1⟩
end
section
/-! reveal: one node less -/
theorem yv_dist {many at_zq on : Int} {row : Int → Int} (a0 : 0 ≤ at_zq) (a1 : at_zq < many) (rowD : ∀ t t_zq, 0 ≤ t → t < t_zq → t_zq < many → row t ≠ row t_zq) : ∀ i j, 0 ≤ i → i < j → j < many → yv row many at_zq on i ≠ yv row many at_zq on j := by
  intro i j i0 ij j1 z
  unfold yv at z
  have inj : ∀ s t, 0 ≤ s → s < many → 0 ≤ t → t < many → row s = row t → s = t := fun s t s0 s1 t0 t1 z => by
    rcases Int.lt_trichotomy s t with q | q | q
    · exact absurd z (rowD s t s0 q t1)
    · exact q
    · exact absurd z.symm (rowD t s t0 q s1)
  by_cases q : on ≠ 0
  · rw [if_pos q, if_pos q] at z
    have r1 := wr_rng (many := many) (a := at_zq + i) (by omega) (by omega) (by omega)
    have r2 := wr_rng (many := many) (a := at_zq + j) (by omega) (by omega) (by omega)
    have := inj _ _ r1.1 r1.2 r2.1 r2.2 z
    have w1 := wr_cases many (at_zq + i)
    have w2 := wr_cases many (at_zq + j)
    omega
  · rw [if_neg q, if_neg q] at z
    have r1 := wr_rng (many := many) (a := at_zq - i) (by omega) (by omega) (by omega)
    have r2 := wr_rng (many := many) (a := at_zq - j) (by omega) (by omega) (by omega)
    have := inj _ _ r1.1 r1.2 r2.1 r2.2 z
    have w1 := wr_cases many (at_zq - i)
    have w2 := wr_cases many (at_zq - j)
    omega
theorem yv_in {many at_zq on i : Int} {row : Int → Int} {P : Int → Prop} (a0 : 0 ≤ at_zq) (a1 : at_zq < many) (i0 : 0 ≤ i) (i1 : i < many) (h : ∀ t, 0 ≤ t → t < many → P (row t)) : P (yv row many at_zq on i) := by
  unfold yv
  by_cases q : on ≠ 0
  · rw [if_pos q]
    have r := wr_rng (many := many) (a := at_zq + i) (by omega) (by omega) (by omega)
    exact h _ r.1 r.2
  · rw [if_neg q]
    have r := wr_rng (many := many) (a := at_zq - i) (by omega) (by omega) (by omega)
    exact h _ r.1 r.2
theorem nU_lt {p M t : Int} {U y : Int → Int} (h : t < p) : nU p M U y t = U t := by unfold nU; rw [if_pos h]
theorem nU_mid {p M t : Int} {U y : Int → Int} (h : p ≤ t) (h2 : t < p + M) : nU p M U y t = y (t - p + 1) := by unfold nU; rw [if_neg (by omega), if_pos h2]
theorem nU_ge {p M t : Int} {U y : Int → Int} (h : p ≤ t) (h2 : p + M ≤ t) : nU p M U y t = U (t - M + 1) := by unfold nU; rw [if_neg (by omega), if_neg (by omega)]
theorem rv_at {n m upper p x l many at_zq K k : Int} {pt ph al rm rot left U order row : Int → Int} (h : RV1 n m upper pt ph al rm rot left U order row p x l many at_zq K k) (hK : rm x ≤ K) : (0 ≤ at_zq ∧ at_zq < many ∧ row at_zq = U (p - 1)) ∧ (0 ≤ x ∧ x < n) ∧ K = rm x := by
  obtain ⟨⟨left0, order0, hS, ⟨p1, p2, p3⟩, hch, l1, l2, o1, o2⟩, hl, hG, hat, k0, k1⟩ := h
  have hU := cns_line hS
  obtain ⟨hB, hk, ⟨nx, ρ, ω, q1, q2, q3, h0, hw⟩, _⟩ := hS
  have x0 := hU.2 p (by omega) (by omega)
  rw [p3] at x0
  have eK : K = rm x := by omega
  refine ⟨?_, x0, eK⟩
  rcases hat with ⟨_, z⟩ | z
  · exfalso
    have hA : jA m pt ph al (U (p - 1)) x := by have := h0.2.2.2.2.2.1 (p - 1) (by omega) (by omega); rw [show p - 1 + 1 = p by omega, p3] at this; exact this
    obtain ⟨e, j⟩ := hA
    have hg := hB.1.1.1
    obtain ⟨_, _, _, r4⟩ := hB.1.2.2.1 x x0.1 x0.2
    obtain ⟨q, q0, q1_zq, q2_zq⟩ := r4 e _ (JJ_sym _ _ _ j)
    have ea : acr pt ph (rt rot x q) x = U (p - 1) := by rw [q2_zq]; exact acr_is (JJ_irr (al := al) hg _ _ _ (JJ_sym _ _ _ j)) (JJ_sym _ _ _ j)
    have hne : U (p - 1) ≠ x := JJ_irr (al := al) hg _ _ _ j
    have hlf := h0.2.2.2.1 (p - 1) (by omega) (by omega)
    obtain ⟨_, _, κ, g3, _, g5⟩ := hG
    obtain ⟨t, t0, t1, t2⟩ := g5 q q0 (by omega) (by
      show lfn n left (acr pt ph (rt rot x q) x)
      rw [ea]
      exact ⟨hlf.1, by rw [l1 _ hlf.1.1 hne]; exact hlf.2⟩)
    have := (g3 t t0 t1).2.2.1
    have e2 : row t = acr pt ph (rt rot x (κ t)) x := this
    rw [t2, ea] at e2
    exact z t t0 t1 (by rw [e2, hl])
  · rw [hl] at z; exact z
theorem rv_main {n m upper p x l many at_zq K k on : Int} {pt ph al rm rot left U order row : Int → Int} (h : RV1 n m upper pt ph al rm rot left U order row p x l many at_zq K k) (hK : rm x ≤ K) (hon : on ≠ 0 ↔ (many = 2 ∨ row ((at_zq + 1) % many) ≠ U (p + 1))) : RVE n m upper pt ph al rm rot left U order row p many at_zq on k := by
  obtain ⟨⟨a0, a1, ha⟩, x0, eK⟩ := rv_at h hK
  obtain ⟨⟨left0, order0, hS, ⟨p1, p2, p3⟩, hch, l1, l2, o1, o2⟩, hl, hG, _, k0, k1⟩ := h
  have hU := cns_line hS
  have hS_zq := hS
  obtain ⟨hB, hk, ⟨nx, ρ, ω, q1, q2, q3, h0, hw⟩, hcz, H, len, H1, H2, H3⟩ := hS
  subst p3
  rw [eK] at hG
  have elf : lfn n left = fun z => lfn n left0 z ∧ z ≠ U p := by
    funext z
    apply propext
    constructor
    · rintro ⟨z0, z1⟩
      by_cases q : z = U p
      · rw [q] at z1; exact absurd l2 z1
      · exact ⟨⟨z0, by rw [← l1 z z0.1 q]; exact z1⟩, q⟩
    · rintro ⟨⟨z0, z1⟩, q⟩
      exact ⟨z0, by rw [l1 z z0.1 q]; exact z1⟩
  rw [elf] at hG
  obtain ⟨m2, rowA, rowD, hdir⟩ := rev_y hB.1.1.1 hB.1.2.2 q1 q3 h0 hw p1 p2 x0.1 x0.2 hG a0 a1 ha
  obtain ⟨y0, yl, yd⟩ := yv_row (W := fun w => ω w (U p)) (nxx := fun w => nx w (U p)) m2 a0 a1 rowD hon hdir
  have ydist := yv_dist (on := on) a0 a1 rowD
  have yA : ∀ i, 0 ≤ i → i < many → jA m pt ph al (yv row many at_zq on i) (U p) ∧ lfn n left0 (yv row many at_zq on i) := fun i i0 i1 => yv_in (P := fun w => jA m pt ph al w (U p) ∧ lfn n left0 w) a0 a1 i0 i1 rowA
  rw [ha] at y0
  have yr : yrow (jA m pt ph al) nx ω (U p) (many - 2) (yv row many at_zq on) := by
    rcases yd with f | f
    · exact Or.inl (fun i i0 i1 => ⟨(f i i0 (by omega)).1, (yA i i0 (by omega)).1, (f i i0 (by omega)).2⟩)
    · exact Or.inr (fun i i0 i1 => ⟨(f i i0 (by omega)).1, (yA (i + 1) (by omega) (by omega)).1, (f i i0 (by omega)).2⟩)
  have yl_zq : yv row many at_zq on (many - 2 + 1) = U (p + 1) := by rw [show many - 2 + 1 = many - 1 by omega]; exact yl
  have n3 := hB.2.2.2
  have irr := JJ_irr (al := al) hB.1.1.1
  -- how many are left
  have hxl : left0 (U p) ≠ 0 := (h0.2.2.2.1 p (by omega) (by omega)).2
  have cz1 : cz left n = n - k := by
    have a := czlt (f := left0) (g := left) (n := n) (i := U p) x0.1 x0.2 (fun j j0 _ q => by
      by_cases e : j = U p
      · rw [e] at q; exact absurd q hxl
      · rw [l1 j j0 e]; exact q) l2 hxl
    have b := czset (f := left) (g := left0) (n := n) (x := U p) (by omega) (fun j j0 _ e q => by rw [← l1 j j0 e]; exact q)
    omega
  have hmany : many + cz left n ≤ n := cz_inj (U := row) (by omega) (by omega) (fun t t0 t1 => by
    obtain ⟨ra, rl⟩ := rowA t t0 t1
    have ne : row t ≠ U p := by obtain ⟨e, j⟩ := ra; exact irr _ _ _ j
    exact ⟨rl.1, by rw [l1 _ rl.1.1 ne]; exact rl.2⟩) rowD
  have hupper : upper + cz left0 n ≤ n := cz_inj (U := U) (by omega) (by omega) (fun t t0 t1 => h0.2.2.2.1 t t0 t1) h0.2.2.2.2.1
  -- the line gets no shorter than three while more are left
  have h3 : 3 ≤ k → 3 ≤ upper - 1 + (many - 2) := fun hk3 => Classical.byContradiction (fun z => by
    have eu : upper = 3 := by have := h0.1; omega
    have em : many = 2 := by have := h0.1; omega
    have ep : p = 1 := by omega
    subst eu; subst em; subst ep
    have e0 : yv row 2 at_zq on 0 = order0 0 := by rw [y0, show (1 : Int) - 1 = 0 by omega]; exact h0.2.1
    have e1 : yv row 2 at_zq on 1 = order0 1 := by rw [show (1 : Int) = 2 - 1 by omega, yl, show (1 : Int) + 1 = 3 - 1 by omega]; exact h0.2.2.1
    have hu0 := (h0.2.2.2.1 0 (by omega) (by omega)).1
    rw [h0.2.1] at hu0
    have all := can_M hB.1.1.1 hB.2.1 hu0 q1 (ftri_of hB.1.1.1 hB.1.2.2 hB.2.2.1 q3) h0 hw (by
      rcases yd with f | f
      · left
        have := f 0 (by omega) (by omega)
        rw [show (0 : Int) + 1 = 1 by omega, e0, e1] at this; exact this
      · right
        have := f 0 (by omega) (by omega)
        rw [show (0 : Int) + 1 = 1 by omega, e0, e1] at this; exact this)
    have c1 := czset (f := fun z => if z = order0 0 ∨ z = U 1 ∨ z = order0 1 then 0 else left0 z) (g := fun z => if z = U 1 ∨ z = order0 1 then 0 else left0 z) (n := n) (x := order0 0) (by omega) (fun j j0 j1 e q => by
      have q_zq : (if j = order0 0 ∨ j = U 1 ∨ j = order0 1 then 0 else left0 j) = 0 := q
      show (if j = U 1 ∨ j = order0 1 then 0 else left0 j) = 0
      by_cases w : j = U 1 ∨ j = order0 1
      · rw [if_pos w]
      · rw [if_neg w]; rw [if_neg (fun v => v.elim e w)] at q_zq; exact q_zq)
    have c2 := czset (f := fun z => if z = U 1 ∨ z = order0 1 then 0 else left0 z) (g := fun z => if z = order0 1 then 0 else left0 z) (n := n) (x := U 1) (by omega) (fun j j0 j1 e q => by
      have q_zq : (if j = U 1 ∨ j = order0 1 then 0 else left0 j) = 0 := q
      show (if j = order0 1 then 0 else left0 j) = 0
      by_cases w : j = order0 1
      · rw [if_pos w]
      · rw [if_neg w]; rw [if_neg (fun v => v.elim e w)] at q_zq; exact q_zq)
    have c3 := czset (f := fun z => if z = order0 1 then 0 else left0 z) (g := left0) (n := n) (x := order0 1) (by omega) (fun j j0 j1 e q => by
      have q_zq : (if j = order0 1 then 0 else left0 j) = 0 := q
      rw [if_neg e] at q_zq; exact q_zq)
    have c0 : n ≤ cz (fun z => if z = order0 0 ∨ z = U 1 ∨ z = order0 1 then 0 else left0 z) n := by
      have a := czle (f := fun _ => (0 : Int)) (g := fun z => if z = order0 0 ∨ z = U 1 ∨ z = order0 1 then 0 else left0 z) (n := n) (fun j j0 j1 _ => by
        show (if j = order0 0 ∨ j = U 1 ∨ j = order0 1 then 0 else left0 j) = 0
        by_cases w : j = order0 0 ∨ j = U 1 ∨ j = order0 1
        · rw [if_pos w]
        · rw [if_neg w]
          exact Classical.byContradiction (fun v => w (all j ⟨j0, j1⟩ ⟨⟨j0, j1⟩, v⟩)))
      have b : ∀ t : Nat, czN (fun _ => (0 : Int)) t = t := by
        intro t
        induction t with
        | zero => rfl
        | succ t ih =>
          show czN (fun _ => (0 : Int)) t + (if (0 : Int) = 0 then 1 else 0) = ((t + 1 : Nat) : Int)
          rw [ih, if_pos rfl]; omega
      rw [cz_is, b] at a
      omega
    omega)
  -- the new line
  have hstep : 3 ≤ k → cnv0 (order0 0) (order0 1) (upper - 1 + (many - 2)) (nU p (many - 2) U (yv row many at_zq on)) (lfn n left) (jA m pt ph al) ∧ ∃ ω', cnvw (jA m pt ph al) nx (order0 0) (order0 1) (upper - 1 + (many - 2)) (nU p (many - 2) U (yv row many at_zq on)) (lfn n left) ω' := fun hk3 => by
    rw [elf]
    exact can_step q1 (ftri_of hB.1.1.1 hB.1.2.2 hB.2.2.1 q3) h0 hw p1 p2 hch (by omega) (h3 hk3) y0 yl_zq (fun i j i0 ij j1 => ydist i j i0 ij (by omega)) yr
  have hin : ∀ t, 0 ≤ t → t < upper - 3 + many → 0 ≤ nU p (many - 2) U (yv row many at_zq on) t ∧ nU p (many - 2) U (yv row many at_zq on) t < n := fun t t0 t1 => by
    by_cases c1 : t < p
    · rw [nU_lt c1]; exact hU.2 t t0 (by omega)
    · by_cases c2 : t < p + (many - 2)
      · rw [nU_mid (by omega) c2]; exact (yA _ (by omega) (by omega)).2.1
      · rw [nU_ge (by omega) (by omega)]; exact hU.2 _ (by omega) (by omega)
  have hlen : upper + many ≤ 27 := by
    by_cases hk3 : 3 ≤ k
    · have c := (hstep hk3).1
      have := rw_len (L := upper - 1 + (many - 2)) (M := n) (by omega) (fun t a b => hin t a (by omega)) c.2.2.2.2.1
      omega
    · omega
  have hord0 : order 0 = order0 0 := o1 0 (by omega) (by omega)
  have hord1 : order 1 = order0 1 := o1 1 (by omega) (by omega)
  refine ⟨⟨m2, a0, a1⟩, ⟨p1, p2, by omega, hlen⟩, fun t t0 t1 => (rowA t t0 t1).2.1, hU.2, fun U_zq hU_zq => ⟨fun hk2 => ?_, fun hk2 => ?_⟩⟩
  · have hk3 : 3 ≤ k := by omega
    obtain ⟨s1, ω', s2⟩ := hstep hk3
    have ek : upper - 1 + (many - 2) = upper - 3 + many := by omega
    rw [ek] at s1 s2
    -- the step in the history
    have hstj : STJ m pt ph al (order k) (H k) (len k) U_zq (upper - 3 + many) := by
      refine ⟨p, many - 2, ⟨p1, by rw [H2]; exact p2, by omega, by rw [H2]; omega⟩, by rw [H1 p (by omega) (by omega)]; exact o2.symm, fun t t0 t1 => ?_, fun t t0 t1 => ?_, fun t t0 t1 => ?_⟩
      · rw [hU_zq t t0 (by omega), nU_lt t1, H1 t t0 (by omega)]
      · rw [H2] at t1
        rw [hU_zq _ (by omega) (by omega), nU_ge (by omega) (by omega), H1 t (by omega) t1]
        congr 1; omega
      · rw [hU_zq t t0 t1, o2]
        by_cases c1 : t < p
        · rw [nU_lt c1]
          by_cases c0 : t = p - 1
          · constructor
            · intro _; omega
            · intro _; rw [c0, ← y0]; exact q1.1.1 _ _ (yA 0 (by omega) (by omega)).1
          · exact ⟨fun w => absurd w (hch t t0 (by omega) (by omega) (by omega) (by omega)), fun w => by omega⟩
        · by_cases c2 : t < p + (many - 2)
          · rw [nU_mid (by omega) c2]
            exact ⟨fun _ => by omega, fun _ => q1.1.1 _ _ (yA _ (by omega) (by omega)).1⟩
          · rw [nU_ge (by omega) (by omega)]
            by_cases c3 : t = p + (many - 2)
            · constructor
              · intro _; omega
              · intro _
                rw [show t - (many - 2) + 1 = p + 1 by omega, ← yl]
                exact q1.1.1 _ _ (yA _ (by omega) (by omega)).1
            · exact ⟨fun w => absurd w (hch _ (by omega) (by omega) (by omega) (by omega) (by omega)), fun w => by omega⟩
    refine ⟨hB, ⟨by omega, by omega⟩, ⟨nx, ρ, ω', q1, q2, q3, by rw [hord0, hord1]; exact cnv0_congr hU_zq s1, by rw [hord0, hord1]; exact cnvw_congr hU_zq s2⟩, by omega, fun j => if j = k - 1 then U_zq else H j, fun j => if j = k - 1 then upper - 3 + many else len j, fun t t0 t1 => by show (if k - 1 = k - 1 then U_zq else H (k - 1)) t = U_zq t; rw [if_pos rfl], by show (if k - 1 = k - 1 then upper - 3 + many else len (k - 1)) = upper - 3 + many; rw [if_pos rfl], fun j j0 j1 => ?_⟩
    show STJ m pt ph al (order j) (if j = k - 1 then U_zq else H j) (if j = k - 1 then upper - 3 + many else len j) (if j - 1 = k - 1 then U_zq else H (j - 1)) (if j - 1 = k - 1 then upper - 3 + many else len (j - 1)) ∧ (3 ≤ (if j = k - 1 then upper - 3 + many else len j) ∧ (if j = k - 1 then upper - 3 + many else len j) ≤ 24) ∧ ∀ t, 0 ≤ t → t < (if j = k - 1 then upper - 3 + many else len j) → 0 ≤ (if j = k - 1 then U_zq else H j) t ∧ (if j = k - 1 then U_zq else H j) t < n
    rw [if_neg (by omega : ¬ j = k - 1), if_neg (by omega : ¬ j = k - 1)]
    by_cases c : j = k
    · rw [if_pos (by omega : j - 1 = k - 1), if_pos (by omega : j - 1 = k - 1), c]
      refine ⟨hstj, by rw [H2]; exact hU.1, fun t t0 t1 => ?_⟩
      rw [H2] at t1
      rw [H1 t t0 t1]; exact hU.2 t t0 t1
    · rw [if_neg (by omega : ¬ j - 1 = k - 1), if_neg (by omega : ¬ j - 1 = k - 1), o1 j (by omega) c]
      exact H3 j (by omega) j1
  · have ek : k = 2 := by omega
    subst ek
    have eu : upper = 3 := by have := hU.1; omega
    subst eu
    have ep : p = 1 := by omega
    subst ep
    refine ⟨n3, H, len, ⟨H2, by rw [H1 0 (by omega) (by omega), hord0]; exact h0.2.1, by rw [H1 1 (by omega) (by omega)]; exact o2.symm, by rw [H1 2 (by omega) (by omega), hord1, show (2 : Int) = 3 - 1 by omega]; exact h0.2.2.1⟩, fun t t0 t1 => by rw [H1 t t0 t1]; exact hU.2 t t0 t1, fun j j0 j1 => ?_⟩
    rw [o1 j (by omega) (by omega)]
    exact H3 j j0 j1
end
section
/-! reveal's loops, canonical, mayLeave -/
def RS1 (n m upper : Int) (pt ph al rm rot left U order row : Int → Int) (p many at_zq on k q : Int) : Prop := ∃ U0, RVE n m upper pt ph al rm rot left U0 order row p many at_zq on k ∧ many = 2 ∧ (p + 1 ≤ q ∧ q ≤ upper) ∧ (∀ t, 0 ≤ t → t < p → U t = U0 t) ∧ (∀ t, p ≤ t → t < q - 1 → U t = U0 (t + 1)) ∧ ∀ t, q - 1 ≤ t → t < upper → U t = U0 t
def RS2 (n m upper : Int) (pt ph al rm rot left U order row : Int → Int) (p many at_zq on k q : Int) : Prop := ∃ U0, RVE n m upper pt ph al rm rot left U0 order row p many at_zq on k ∧ 3 ≤ many ∧ (p ≤ q ∧ q ≤ upper - 1) ∧ (∀ t, 0 ≤ t → t ≤ q → U t = U0 t) ∧ ∀ t, q < t → t < upper → U (t - 1 + (many - 2)) = U0 t
def RS3 (n m upper : Int) (pt ph al rm rot left U order row : Int → Int) (p many at_zq on k i : Int) : Prop := ∃ U0 up0, upper = up0 - 3 + many ∧ RVE n m up0 pt ph al rm rot left U0 order row p many at_zq on k ∧ (∀ t, 0 ≤ t → t < p → U t = U0 t) ∧ (∀ t, p < t → t < up0 → U (t - 1 + (many - 2)) = U0 t) ∧ (∀ j, 1 ≤ j → j < i → U (p - 1 + j) = yv row many at_zq on j) ∧ 1 ≤ i ∧ i ≤ many - 1
def CNZ (n m upper : Int) (pt ph al rm rot left U order : Int → Int) (k : Int) : Prop := CNX n m upper pt ph al rm rot left U order (k - 1)
theorem rs1_start {n m upper p many at_zq on k q : Int} {pt ph al rm rot left U order row : Int → Int} (h : RVE n m upper pt ph al rm rot left U order row p many at_zq on k) (hm : many = 2) (hq : q = p + 1) : RS1 n m upper pt ph al rm rot left U order row p many at_zq on k q :=
  ⟨U, h, hm, by have := h.2.1; omega, fun _ _ _ => rfl, fun t a b => by omega, fun _ _ _ => rfl⟩
theorem rs1_len {n m upper p many at_zq on k q : Int} {pt ph al rm rot left U order row : Int → Int} (h : RS1 n m upper pt ph al rm rot left U order row p many at_zq on k q) : 1 ≤ p ∧ p + 1 < upper ∧ upper ≤ 24 ∧ p + 1 ≤ q ∧ q ≤ upper ∧ many = 2 := by
  obtain ⟨U0, h1, h2, h3, _⟩ := h
  have := h1.2.1
  omega
theorem rs1_step {n m upper p many at_zq on k q q_zq s v r : Int} {pt ph al rm rot left U U_zq order row : Int → Int} (h : RS1 n m upper pt ph al rm rot left U order row p many at_zq on k q) (hq : q_zq = q + 1) (q1 : q < upper) (hs : st1 U U_zq s v) (hss : s = q - 1) (hv : v = U r) (hr : r = q) : RS1 n m upper pt ph al rm rot left U_zq order row p many at_zq on k q_zq := by
  obtain ⟨U0, h1, h2, h3, h4, h5, h6⟩ := h
  have b := h1.2.1
  have hv_zq : v = U0 q := by rw [hv, hr]; exact h6 q (by omega) q1
  refine ⟨U0, h1, h2, by omega, fun t a c => by rw [(hs t a).2 (by omega)]; exact h4 t a c, fun t a c => ?_, fun t a c => by rw [(hs t (by omega)).2 (by omega)]; exact h6 t (by omega) c⟩
  by_cases z : t = q - 1
  · rw [z, (hs _ (by omega)).1 hss.symm, hv_zq, show q - 1 + 1 = q by omega]
  · rw [(hs t (by omega)).2 (by omega)]; exact h5 t a (by omega)
theorem rs2_start {n m upper p many at_zq on k q : Int} {pt ph al rm rot left U order row : Int → Int} (h : RVE n m upper pt ph al rm rot left U order row p many at_zq on k) (hm : many ≠ 2) (hq : q = upper - 1) : RS2 n m upper pt ph al rm rot left U order row p many at_zq on k q :=
  ⟨U, h, by have := h.1; omega, by have := h.2.1; omega, fun _ _ _ => rfl, fun t a b => by omega⟩
theorem rs2_len {n m upper p many at_zq on k q : Int} {pt ph al rm rot left U order row : Int → Int} (h : RS2 n m upper pt ph al rm rot left U order row p many at_zq on k q) : 1 ≤ p ∧ p ≤ q ∧ q ≤ upper - 1 ∧ upper ≤ 24 ∧ 3 ≤ many ∧ upper + many ≤ 27 := by
  obtain ⟨U0, h1, h2, h3, _⟩ := h
  have := h1.2.1
  omega
theorem rs2_step {n m upper p many at_zq on k q q_zq s v r : Int} {pt ph al rm rot left U U_zq order row : Int → Int} (h : RS2 n m upper pt ph al rm rot left U order row p many at_zq on k q) (hq : q_zq = q - 1) (q1 : p < q) (hs : st1 U U_zq s v) (hss : s = q - 1 + (many - 2)) (hv : v = U r) (hr : r = q) : RS2 n m upper pt ph al rm rot left U_zq order row p many at_zq on k q_zq := by
  obtain ⟨U0, h1, h2, h3, h4, h5⟩ := h
  have b := h1.2.1
  have hv_zq : v = U0 q := by rw [hv, hr]; exact h4 q (by omega) (by omega)
  refine ⟨U0, h1, h2, by omega, fun t a c => by rw [(hs t a).2 (by omega)]; exact h4 t a (by omega), fun t a c => ?_⟩
  by_cases z : t = q
  · rw [z, (hs _ (by omega)).1 (by omega), hv_zq]
  · rw [(hs _ (by omega)).2 (by omega)]; exact h5 t (by omega) c
theorem rs3_1 {n m upper upper_zq p many at_zq on k q i : Int} {pt ph al rm rot left U order row : Int → Int} (h : RS1 n m upper pt ph al rm rot left U order row p many at_zq on k q) (hq : upper ≤ q) (hu : upper_zq = upper + (many - 2 - 1)) (hi : i = 1) : RS3 n m upper_zq pt ph al rm rot left U order row p many at_zq on k i := by
  obtain ⟨U0, h1, h2, h3, h4, h5, h6⟩ := h
  refine ⟨U0, upper, by omega, h1, h4, fun t a b => ?_, fun j a b => by omega, by omega, by omega⟩
  rw [h2, show t - 1 + (2 - 2) = t - 1 by omega, h5 (t - 1) (by omega) (by omega), show t - 1 + 1 = t by omega]
theorem rs3_2 {n m upper upper_zq p many at_zq on k q i : Int} {pt ph al rm rot left U order row : Int → Int} (h : RS2 n m upper pt ph al rm rot left U order row p many at_zq on k q) (hq : q ≤ p) (hu : upper_zq = upper + (many - 2 - 1)) (hi : i = 1) : RS3 n m upper_zq pt ph al rm rot left U order row p many at_zq on k i := by
  obtain ⟨U0, h1, h2, h3, h4, h5⟩ := h
  exact ⟨U0, upper, by omega, h1, fun t a b => h4 t a (by omega), fun t a b => h5 t (by omega) b, fun j a b => by omega, by omega, by omega⟩
theorem rs3_len {n m upper p many at_zq on k i : Int} {pt ph al rm rot left U order row : Int → Int} (h : RS3 n m upper pt ph al rm rot left U order row p many at_zq on k i) : (1 ≤ p ∧ p + many ≤ upper + 1 ∧ upper ≤ 24) ∧ (2 ≤ many ∧ many ≤ 24) ∧ (0 ≤ at_zq ∧ at_zq < many) ∧ 1 ≤ i ∧ i ≤ many - 1 := by
  obtain ⟨U0, up0, h1, h2, _, _, _, h6, h7⟩ := h
  have := h2.1
  have := h2.2.1
  omega
theorem rs3_row {n m upper p many at_zq on k i t : Int} {pt ph al rm rot left U order row : Int → Int} (h : RS3 n m upper pt ph al rm rot left U order row p many at_zq on k i) (t0 : 0 ≤ t) (t1 : t < many) : 0 ≤ row t ∧ row t < n := by
  obtain ⟨U0, up0, h1, h2, _⟩ := h
  exact h2.2.2.1 t t0 t1
theorem rs3_step {n m upper p many at_zq on k i i_zq s v r : Int} {pt ph al rm rot left U U_zq order row : Int → Int} (h : RS3 n m upper pt ph al rm rot left U order row p many at_zq on k i) (hi : i_zq = i + 1) (i1 : i ≤ many - 2) (hs : st1 U U_zq s v) (hss : s = p - 1 + i) (hv : v = row r) (hr : r = wr many (if on ≠ 0 then at_zq + i else at_zq - i)) : RS3 n m upper pt ph al rm rot left U_zq order row p many at_zq on k i_zq := by
  obtain ⟨U0, up0, h1, h2, h3, h4, h5, h6, h7⟩ := h
  have b := h2.2.1
  refine ⟨U0, up0, h1, h2, fun t a c => by rw [(hs t a).2 (by omega)]; exact h3 t a c, fun t a c => by rw [(hs _ (by omega)).2 (by omega)]; exact h4 t a c, fun j a c => ?_, by omega, by omega⟩
  by_cases z : j = i
  · rw [z, (hs _ (by omega)).1 hss.symm, hv, hr]; rfl
  · rw [(hs _ (by omega)).2 (by omega)]; exact h5 j a (by omega)
theorem rs3_end {n m upper p many at_zq on k i : Int} {pt ph al rm rot left U order row : Int → Int} (h : RS3 n m upper pt ph al rm rot left U order row p many at_zq on k i) (hi : many - 2 < i) : CNZ n m upper pt ph al rm rot left U order k := by
  obtain ⟨U0, up0, h1, h2, h3, h4, h5, h6, h7⟩ := h
  have b := h2.2.1
  unfold CNZ
  rw [h1]
  refine h2.2.2.2.2 U (fun t t0 t1 => ?_)
  by_cases c1 : t < p
  · rw [nU_lt c1]; exact h3 t t0 c1
  · by_cases c2 : t < p + (many - 2)
    · rw [nU_mid (by omega) c2]
      have := h5 (t - p + 1) (by omega) (by omega)
      rw [show p - 1 + (t - p + 1) = t by omega] at this; exact this
    · rw [nU_ge (by omega) (by omega)]
      have := h4 (t - (many - 2) + 1) (by omega) (by omega)
      rw [show t - (many - 2) + 1 - 1 + (many - 2) = t by omega] at this; exact this
/-! mayLeave -/
def MLV (m upper : Int) (pt ph al U : Int → Int) (p z : Int) : Prop := z ≠ 0 ↔ nch m upper pt ph al U p
def ML1 (m : Int) (pt ph al U : Int → Int) (p q : Int) : Prop := ∀ t, 0 ≤ t → t < q → t ≠ p → t ≠ p - 1 → t ≠ p + 1 → ¬ jA m pt ph al (U p) (U t)
theorem ml1_next {m p q q_zq x y r : Int} {pt ph al U : Int → Int} (h : ML1 m pt ph al U p q) (hq : q_zq = q + 1) (hc : q = p ∨ q = p - 1 ∨ q = p + 1 ∨ (EOF m pt ph al x y r ∧ r < 0 ∧ x = U p ∧ y = U q)) : ML1 m pt ph al U p q_zq := by
  intro t t0 t1 a b c
  by_cases z : t = q
  · rcases hc with w | w | w | ⟨w1, w2, w3, w4⟩
    · omega
    · omega
    · omega
    · rw [z, ← w3, ← w4]
      rcases w1 with ⟨_, v⟩ | v
      · exact fun ⟨e, j⟩ => v e j
      · have := v.1; omega
  · exact h t t0 (by omega) a b c
theorem mlv_no {m upper p q x y r z : Int} {pt ph al U : Int → Int} (q0 : 0 ≤ q) (q1 : q < upper) (a : q ≠ p) (b : q ≠ p - 1) (c : q ≠ p + 1) (he : EOF m pt ph al x y r) (hr : 0 ≤ r) (hx : x = U p) (hy : y = U q) (hz : z = 0) : MLV m upper pt ph al U p z := by
  refine ⟨fun w => absurd hz w, fun w => ?_⟩
  rcases he with ⟨v, _⟩ | v
  · omega
  · rw [hx, hy] at v; exact absurd ⟨_, v⟩ (w q q0 q1 a b c)
/-! canonical: who leaves -/
def CPK (n m upper : Int) (pt ph al rm rot left U order : Int → Int) (k place p : Int) : Prop := CNS n m upper pt ph al rm rot left U order k ∧ ((place = -1 ∧ ∀ q, 1 ≤ q → q < p → ¬ nch m upper pt ph al U q) ∨ (1 ≤ place ∧ place + 1 < upper ∧ nch m upper pt ph al U place))
theorem cpk_end {n m upper k place p : Int} {pt ph al rm rot left U order : Int → Int} (h : CPK n m upper pt ph al rm rot left U order k place p) (hp : upper ≤ p + 1) : (1 ≤ place ∧ place + 1 < upper ∧ nch m upper pt ph al U place) ∧ upper ≤ 24 ∧ (0 ≤ U place ∧ U place < n) ∧ n ≤ 24 ∧ 2 ≤ k ∧ k < n := by
  obtain ⟨hS, h2⟩ := h
  have hl := cns_line hS
  have hb := hS.1.2.2.2
  have hk := hS.2.1
  have key : 1 ≤ place ∧ place + 1 < upper ∧ nch m upper pt ph al U place := by
    rcases h2 with ⟨_, w⟩ | w
    · obtain ⟨q, q0, q1, q2⟩ := cns_ex hS
      exact absurd q2 (w q q0 (by omega))
    · exact w
  exact ⟨key, hl.1.2, hl.2 place (by omega) (by omega), by omega, hk.1, hk.2⟩
theorem rvp_of {n m upper k place p x s v q w : Int} {pt ph al rm rot left left_zq U order order_zq : Int → Int} (h : CPK n m upper pt ph al rm rot left U order k place p) (hp : upper ≤ p + 1) (hx : x = U place) (hs : st1 order order_zq s v) (hss : s = k) (hv : v = x) (ht : st1 left left_zq q w) (hq : q = x) (hw : w = 0) : RVP n m upper pt ph al rm rot left_zq U order_zq place x k := by
  obtain ⟨⟨a1, a2, a3⟩, b1, b2, b3, b4, b5⟩ := cpk_end h hp
  refine ⟨left, order, h.1, ⟨a1, a2, hx.symm⟩, a3, fun z z0 zn => (ht z z0).2 (by omega), ?_, fun j j0 jn => (hs j j0).2 (by omega), ?_⟩
  · exact ((ht x (by omega)).1 hq.symm).trans hw
  · exact ((hs k (by omega)).1 hss.symm).trans hv
/-! canonical: the start -/
def CNP (n m : Int) (pt ph al rm rot : Int → Int) (u v w : Int) : Prop := CNB n m pt ph al rm rot ∧ ∃ d0 d1 d2, (liv m al d0 ∧ liv m al d1 ∧ liv m al d2) ∧ (NDT m pt ph rm rot d0 d1 ∧ NDT m pt ph rm rot d1 d2 ∧ NDT m pt ph rm rot d2 d0) ∧ u = dfr pt ph d0 ∧ v = dfr pt ph d1 ∧ w = dfr pt ph d2
theorem cns_start {n m upper k u v w i : Int} {pt ph al rm rot left U order : Int → Int} (h : CNP n m pt ph al rm rot u v w) (hl : ∀ j, 0 ≤ j → j < i → left j ≠ 0) (hi : n ≤ i) (hu : upper = 3) (u0 : U 0 = u) (u1 : U 1 = w) (u2 : U 2 = v) (o0 : order 0 = u) (o1 : order 1 = v) (hk : k = n - 1) : CNX n m upper pt ph al rm rot left U order k := by
  obtain ⟨hB, d0, d1, d2, ⟨l0, l1, l2⟩, ⟨s0, s1, s2⟩, eu, ev, ew⟩ := h
  obtain ⟨⟨⟨hg, m0⟩, hal, hr⟩, hc, hf, n3, n24⟩ := hB
  have hB : CNB n m pt ph al rm rot := ⟨⟨⟨hg, m0⟩, hal, hr⟩, hc, hf, n3, n24⟩
  have hE := eml_rot.2 hr
  obtain ⟨hr1, nx, ρ, q1, q2, q3⟩ := hr
  have t0 : dto pt ph d0 = v := by rw [ev]; exact s0.2.2.1.symm
  have t1 : dto pt ph d1 = w := by rw [ew]; exact s1.2.2.1.symm
  have t2 : dto pt ph d2 = u := by rw [eu]; exact s2.2.2.1.symm
  have x0 := ndt_nx hg hE.1 q3 l0 l1 s0
  have x1 := ndt_nx hg hE.1 q3 l1 l2 s1
  have x2 := ndt_nx hg hE.1 q3 l2 l0 s2
  rw [t1, ← eu, t0] at x0
  rw [t2, ← ev, t1] at x1
  rw [t0, ← ew, t2] at x2
  have j0 := dart_J (pt := pt) (ph := ph) l0
  have j1 := dart_J (pt := pt) (ph := ph) l1
  have j2 := dart_J (pt := pt) (ph := ph) l2
  rw [← eu, t0] at j0
  rw [← ev, t1] at j1
  rw [← ew, t2] at j2
  have irr := JJ_irr (al := al) hg
  have nuv := irr _ _ _ j0
  have nvw := irr _ _ _ j1
  have nwu := irr _ _ _ j2
  have Auv : jA m pt ph al u v := ⟨_, j0⟩
  have Avw : jA m pt ph al v w := ⟨_, j1⟩
  have Awu : jA m pt ph al w u := ⟨_, j2⟩
  have sy := q1.1.1
  have lfa : ∀ z, 0 ≤ z → z < n → lfn n left z := fun z a b => ⟨⟨a, b⟩, hl z a (by omega)⟩
  have rg := fun a b (h : jA m pt ph al a b) => (by obtain ⟨e, j⟩ := h; exact JJ_rng hg j : 0 ≤ a ∧ a < n ∧ 0 ≤ b ∧ b < n)
  have lfA : ∀ a b, jA m pt ph al a b → lfn n left a ∧ lfn n left b := fun a b h => ⟨lfa a (rg a b h).1 (rg a b h).2.1, lfa b (rg a b h).2.2.1 (rg a b h).2.2.2⟩
  refine ⟨fun k2 => ?_, fun k2 => by omega⟩
  have lamd : ∀ a b, Lam u v 3 U a b ↔ ((a = u ∧ b = w) ∨ (b = u ∧ a = w)) ∨ ((a = w ∧ b = v) ∨ (b = w ∧ a = v)) ∨ ((a = u ∧ b = v) ∨ (a = v ∧ b = u)) := fun a b => by
    constructor
    · rintro (⟨j, ja, jb, hj⟩ | q)
      · rcases (by omega : j = 0 ∨ j = 1) with e | e
        · subst e; rw [u0, show (0 : Int) + 1 = 1 by omega, u1] at hj; exact Or.inl hj
        · subst e; rw [show (1 : Int) + 1 = 2 by omega, u1, u2] at hj; exact Or.inr (Or.inl hj)
      · exact Or.inr (Or.inr q)
    · rintro (q | q | q)
      · exact Or.inl ⟨0, by omega, by omega, by rw [u0, show (0 : Int) + 1 = 1 by omega, u1]; exact q⟩
      · exact Or.inl ⟨1, by omega, by omega, by rw [show (1 : Int) + 1 = 2 by omega, u1, u2]; exact q⟩
      · exact Or.inr q
  refine ⟨hB, ⟨k2, by omega⟩, ⟨nx, ρ, fun a b => pb ((a = u ∧ b = v) ∨ (a = v ∧ b = w) ∨ (a = w ∧ b = u)), q1, q2, q3, ?_, ?_⟩, ?_, fun _ => U, fun _ => upper, fun _ _ _ => rfl, rfl, fun j a b => by omega⟩
  · rw [o0, o1, hu]
    refine ⟨by omega, u0, by rw [show (3 : Int) - 1 = 2 by omega]; exact u2, fun j a b => ?_, fun i j a b c => ?_, fun j a b => ?_, Auv⟩
    · rcases (by omega : j = 0 ∨ j = 1 ∨ j = 2) with e | e | e <;> subst e
      · rw [u0]; exact (lfA _ _ Auv).1
      · rw [u1]; exact (lfA _ _ Awu).1
      · rw [u2]; exact (lfA _ _ Avw).1
    · rcases (by omega : (i = 0 ∧ j = 1) ∨ (i = 0 ∧ j = 2) ∨ (i = 1 ∧ j = 2)) with ⟨e, f⟩ | ⟨e, f⟩ | ⟨e, f⟩ <;> subst e <;> subst f
      · rw [u0, u1]; exact fun z => nwu z.symm
      · rw [u0, u2]; exact nuv
      · rw [u1, u2]; exact fun z => nvw z.symm
    · rcases (by omega : j = 0 ∨ j = 1) with e | e <;> subst e
      · rw [u0, show (0 : Int) + 1 = 1 by omega, u1]; exact sy _ _ Awu
      · rw [u1, show (1 : Int) + 1 = 2 by omega, u2]; exact sy _ _ Avw
  · rw [o0, o1, hu]
    refine ⟨fun a b hab => ?_, fun a b hab => ?_, fun a b hab hn => absurd (lfA a b hab).2 hn, fun a b hab hn _ => absurd (lfA a b hab).1 hn, fun χ hχ _ a b a_zq b_zq hab hab_zq e e_zq => ?_, fun a b hab _ _ e => ?_⟩
    · show pb ((b = u ∧ nx a b = v) ∨ (b = v ∧ nx a b = w) ∨ (b = w ∧ nx a b = u)) = pb ((a = u ∧ b = v) ∨ (a = v ∧ b = w) ∨ (a = w ∧ b = u))
      apply pb_iff
      constructor
      · rintro (⟨e, f⟩ | ⟨e, f⟩ | ⟨e, f⟩) <;> subst e
        · exact Or.inr (Or.inr ⟨q1.2.2.1 _ _ _ hab Awu (f.trans x2), rfl⟩)
        · exact Or.inl ⟨q1.2.2.1 _ _ _ hab Auv (f.trans x0), rfl⟩
        · exact Or.inr (Or.inl ⟨q1.2.2.1 _ _ _ hab Avw (f.trans x1), rfl⟩)
      · rintro (⟨e, f⟩ | ⟨e, f⟩ | ⟨e, f⟩)
        · rw [e, f]; exact Or.inr (Or.inl ⟨rfl, x0.symm⟩)
        · rw [e, f]; exact Or.inr (Or.inr ⟨rfl, x1.symm⟩)
        · rw [e, f]; exact Or.inl ⟨rfl, x2.symm⟩
    · show (pb ((a = u ∧ b = v) ∨ (a = v ∧ b = w) ∨ (a = w ∧ b = u)) ^^ pb ((b = u ∧ a = v) ∨ (b = v ∧ a = w) ∨ (b = w ∧ a = u))) = pb (Lam u v 3 U a b)
      rw [← pb_or (fun ⟨y, z⟩ => by rcases y with ⟨e, f⟩ | ⟨e, f⟩ | ⟨e, f⟩ <;> rcases z with ⟨g, h⟩ | ⟨g, h⟩ | ⟨g, h⟩ <;> omega)]
      apply pb_iff
      rw [lamd]
      constructor
      · rintro ((⟨e, f⟩ | ⟨e, f⟩ | ⟨e, f⟩) | (⟨e, f⟩ | ⟨e, f⟩ | ⟨e, f⟩)) <;> simp [e, f]
      · rintro ((⟨e, f⟩ | ⟨e, f⟩) | (⟨e, f⟩ | ⟨e, f⟩) | (⟨e, f⟩ | ⟨e, f⟩)) <;> simp [e, f]
    · have key : ∀ a b, ((a = u ∧ b = v) ∨ (a = v ∧ b = w) ∨ (a = w ∧ b = u)) → χ a b = χ u v := fun a b h => by
        have c1 := hχ u v Auv
        rw [← x0] at c1
        have c2 := hχ v w Avw
        rw [← x1, c1] at c2
        rcases h with ⟨e, f⟩ | ⟨e, f⟩ | ⟨e, f⟩ <;> rw [e, f]
        · exact c1
        · exact c2
      rw [key a b (pb_i e), key a_zq b_zq (pb_i e_zq)]
    · rw [lamd]
      rcases pb_i e with ⟨e, f⟩ | ⟨e, f⟩ | ⟨e, f⟩ <;> simp [e, f]
  · have a := czle (f := left) (g := fun _ => (1 : Int)) (n := n) (fun j ja jb z => absurd z (hl j ja (by omega)))
    have b := czb left (n := n) (by omega)
    have c : ∀ t : Nat, czN (fun _ => (1 : Int)) t = 0 := by
      intro t
      induction t with
      | zero => rfl
      | succ t ih =>
        show czN (fun _ => (1 : Int)) t + (if (1 : Int) = 0 then 1 else 0) = 0
        rw [ih, if_neg (by omega)]; omega
    rw [cz_is (fun _ => (1 : Int)), c] at a
    omega
end
section
/-! shift: the lines come back -/
def SHL (n m upper : Int) (pt ph al U order : Int → Int) (k : Int) : Prop := (3 ≤ n ∧ n ≤ 24) ∧ 3 ≤ k ∧ ∃ H len, (∀ t, 0 ≤ t → t < upper → U t = H (k - 1) t) ∧ upper = len (k - 1) ∧ HIS n m pt ph al order H len (k - 1) ∧ (3 ≤ upper ∧ upper ≤ 24) ∧ ∀ t, 0 ≤ t → t < upper → 0 ≤ U t ∧ U t < n
theorem cnh_rng {n m j : Int} {pt ph al order : Int → Int} (h : CNH n m pt ph al order) (j0 : 0 ≤ j) (j1 : j < n) : (0 ≤ order j ∧ order j < n) ∧ 3 ≤ n ∧ n ≤ 24 := by
  obtain ⟨hn, H, len, ⟨e1, e2, e3, e4⟩, hr, hh⟩ := h
  refine ⟨?_, hn⟩
  by_cases q : j ≤ 2
  · rcases (by omega : j = 0 ∨ j = 1 ∨ j = 2) with z | z | z <;> subst z
    · rw [← e2]; exact hr 0 (by omega) (by omega)
    · rw [← e4]; exact hr 2 (by omega) (by omega)
    · rw [← e3]; exact hr 1 (by omega) (by omega)
  · obtain ⟨⟨p, M, ⟨a1, a2, a3, a4⟩, b, _⟩, _, c⟩ := hh j (by omega) j1
    rw [← b]; exact c p (by omega) (by omega)
theorem shl_start {n m upper k : Int} {pt ph al U order : Int → Int} (h : CNH n m pt ph al order) (hu : upper = 3) (hk : k = 3) (u0 : U 0 = order 0) (u1 : U 1 = order 2) (u2 : U 2 = order 1) : SHL n m upper pt ph al U order k := by
  obtain ⟨hn, H, len, ⟨e1, e2, e3, e4⟩, hr, hh⟩ := h
  subst hu; subst hk
  have e : ∀ t, 0 ≤ t → t < 3 → U t = H (3 - 1) t := fun t a b => by
    rw [show (3 : Int) - 1 = 2 by omega]
    rcases (by omega : t = 0 ∨ t = 1 ∨ t = 2) with z | z | z <;> subst z
    · rw [u0, e2]
    · rw [u1, e3]
    · rw [u2, e4]
  refine ⟨hn, by omega, H, len, e, by rw [show (3 : Int) - 1 = 2 by omega, e1], by rw [show (3 : Int) - 1 = 2 by omega]; exact hh, by omega, fun t a b => by rw [e t a b, show (3 : Int) - 1 = 2 by omega]; exact hr t a b⟩
/-- where x is joined with the line -/
theorem shl_stj {n m upper k : Int} {pt ph al U order : Int → Int} (h : SHL n m upper pt ph al U order k) (hk : k < n) : ∃ p M, (1 ≤ p ∧ 0 ≤ M ∧ p + M ≤ upper - 1 ∧ upper + 1 - M ≤ 24) ∧ (∀ t, 0 ≤ t → t < upper → (jA m pt ph al (order k) (U t) ↔ p - 1 ≤ t ∧ t ≤ p + M)) ∧ ∀ U_zq : Int → Int, (∀ t, 0 ≤ t → t < p → U_zq t = U t) → U_zq p = order k → (∀ t, p < t → t < upper + 1 - M → U_zq t = U (t - 1 + M)) → SHL n m (upper + 1 - M) pt ph al U_zq order (k + 1) := by
  obtain ⟨hn, k3, H, len, h1, h2, h3, h4, h5⟩ := h
  obtain ⟨⟨p, M, ⟨a1, a2, a3, a4⟩, b1, b2, b3, b4⟩, c1, c2⟩ := h3 k (by omega) hk
  rw [← h2] at a4 b4
  refine ⟨p, M, ⟨a1, a3, by omega, by omega⟩, fun t t0 t1 => by rw [h1 t t0 t1]; exact b4 t t0 t1, fun U_zq w1 w2 w3 => ?_⟩
  have eH : ∀ t, 0 ≤ t → t < len k → U_zq t = H k t := fun t t0 t1 => by
    by_cases c : t < p
    · rw [w1 t t0 c, h1 t t0 (by omega)]; exact b2 t t0 c
    · by_cases d : t = p
      · rw [d, w2]; exact b1.symm
      · rw [w3 t (by omega) (by omega), h1 _ (by omega) (by omega)]
        have := b3 t (by omega) t1
        exact this
  have el : upper + 1 - M = len k := by omega
  rw [el]
  refine ⟨hn, by omega, H, len, fun t t0 t1 => by rw [show k + 1 - 1 = k by omega]; exact eH t t0 t1, by rw [show k + 1 - 1 = k by omega], fun j j0 j1 => h3 j (by omega) j1, c1, fun t t0 t1 => by rw [eH t t0 t1]; exact c2 t t0 t1⟩
def SHA (n m upper : Int) (pt ph al U order : Int → Int) (k x a : Int) : Prop := SHL n m upper pt ph al U order k ∧ (k < n ∧ x = order k) ∧ 0 ≤ a ∧ ∀ t, 0 ≤ t → t < a → ¬ jA m pt ph al x (U t)
def SHB (n m upper : Int) (pt ph al U order : Int → Int) (k x a b : Int) : Prop := SHA n m upper pt ph al U order k x a ∧ a < upper ∧ jA m pt ph al x (U a) ∧ b < upper ∧ ∀ t, b < t → t < upper → ¬ jA m pt ph al x (U t)
def SHC (n m upper : Int) (pt ph al U order : Int → Int) (k x a b : Int) : Prop := SHB n m upper pt ph al U order k x a b ∧ 0 ≤ b ∧ jA m pt ph al x (U b)
theorem sha_bd {n m upper k x a : Int} {pt ph al U order : Int → Int} (h : SHA n m upper pt ph al U order k x a) : 0 ≤ a ∧ a + 2 ≤ upper ∧ upper ≤ 24 ∧ 3 ≤ k ∧ k < n ∧ n ≤ 24 := by
  obtain ⟨h1, ⟨h2, h3⟩, h4, h5⟩ := h
  obtain ⟨p, M, ⟨p1, p2, p3, p4⟩, q, _⟩ := shl_stj h1 h2
  have u := h1.2.2
  obtain ⟨H, len, _, _, _, u4, _⟩ := u
  refine ⟨h4, Classical.byContradiction (fun z => h5 (p - 1) (by omega) (by omega) ?_), u4.2, h1.2.1, h2, h1.1.2⟩
  rw [h3]; exact (q (p - 1) (by omega) (by omega)).2 (by omega)
theorem sha_U {n m upper k x a t : Int} {pt ph al U order : Int → Int} (h : SHA n m upper pt ph al U order k x a) (t0 : 0 ≤ t) (t1 : t < upper) : 0 ≤ U t ∧ U t < n := by
  obtain ⟨H, len, _, _, _, _, u5⟩ := h.1.2.2
  exact u5 t t0 t1
theorem shb_bd {n m upper k x a b : Int} {pt ph al U order : Int → Int} (h : SHB n m upper pt ph al U order k x a b) : a + 1 ≤ b := by
  have hb := sha_bd h.1
  obtain ⟨⟨h1, ⟨h2, h3⟩, h4, h5⟩, h6, h7, h8, h9⟩ := h
  obtain ⟨p, M, ⟨p1, p2, p3, p4⟩, q, _⟩ := shl_stj h1 h2
  have ha : a = p - 1 := by
    rw [h3] at h7
    have := (q a h4 h6).1 h7
    have : ¬ p - 1 < a := fun z => h5 (p - 1) (by omega) z (by rw [h3]; exact (q (p - 1) (by omega) (by omega)).2 (by omega))
    omega
  refine Classical.byContradiction (fun z => h9 (p + M) (by omega) (by omega) ?_)
  rw [h3]; exact (q (p + M) (by omega) (by omega)).2 (by omega)
theorem shc_end {n m upper k x a b : Int} {pt ph al U order : Int → Int} (h : SHC n m upper pt ph al U order k x a b) : (a + 1 ≤ b ∧ b < upper ∧ upper + 1 - (b - a - 1) ≤ 24) ∧ ∀ U_zq : Int → Int, (∀ t, 0 ≤ t → t ≤ a → U_zq t = U t) → U_zq (a + 1) = x → (∀ t, a + 1 < t → t < upper + 1 - (b - a - 1) → U_zq t = U (t - 1 + (b - a - 1))) → SHL n m (upper + 1 - (b - a - 1)) pt ph al U_zq order (k + 1) := by
  obtain ⟨hB, b0, hb⟩ := h
  have hb1 := shb_bd hB
  obtain ⟨⟨h1, ⟨h2, h3⟩, h4, h5⟩, h6, h7, h8, h9⟩ := hB
  obtain ⟨p, M, ⟨p1, p2, p3, p4⟩, q, w⟩ := shl_stj h1 h2
  have ha : a = p - 1 := by
    rw [h3] at h7
    have := (q a h4 h6).1 h7
    have : ¬ p - 1 < a := fun z => h5 (p - 1) (by omega) z (by rw [h3]; exact (q (p - 1) (by omega) (by omega)).2 (by omega))
    omega
  have hbb : b = p + M := by
    rw [h3] at hb
    have := (q b b0 h8).1 hb
    have : ¬ b < p + M := fun z => h9 (p + M) z (by omega) (by rw [h3]; exact (q (p + M) (by omega) (by omega)).2 (by omega))
    omega
  have eM : b - a - 1 = M := by omega
  rw [eM]
  refine ⟨⟨hb1, h8, p4⟩, fun U_zq w1 w2 w3 => w U_zq (fun t t0 t1 => w1 t t0 (by omega)) ?_ (fun t t0 t1 => w3 t (by omega) t1)⟩
  rw [show p = a + 1 by omega, w2]; exact h3
def SD1 (n m upper : Int) (pt ph al U order : Int → Int) (k x a b q : Int) : Prop := ∃ U0, SHC n m upper pt ph al U0 order k x a b ∧ b = a + 1 ∧ b ≤ q ∧ q ≤ upper ∧ (∀ t, 0 ≤ t → t < q → U t = U0 t) ∧ ∀ t, q < t → t ≤ upper → U t = U0 (t - 1)
def SD2 (n m upper : Int) (pt ph al U order : Int → Int) (k x a b q : Int) : Prop := ∃ U0, SHC n m upper pt ph al U0 order k x a b ∧ a + 2 ≤ b ∧ b ≤ q ∧ q ≤ upper ∧ (∀ t, 0 ≤ t → t ≤ a → U t = U0 t) ∧ (∀ t, b ≤ t → t < q → U (t - (b - a - 1) + 1) = U0 t) ∧ ∀ t, q ≤ t → t < upper → U t = U0 t
theorem sd1_len {n m upper k x a b q : Int} {pt ph al U order : Int → Int} (h : SD1 n m upper pt ph al U order k x a b q) : 0 ≤ a ∧ b = a + 1 ∧ b ≤ q ∧ q ≤ upper ∧ b < upper ∧ upper ≤ 23 := by
  obtain ⟨U0, h1, h2, h3, h4, _⟩ := h
  have a0 := h1.1.1.2.2.1
  have := (shc_end h1).1
  omega
theorem sd1_step {n m upper k x a b q q_zq s v r : Int} {pt ph al U U_zq order : Int → Int} (h : SD1 n m upper pt ph al U order k x a b q) (hq : q_zq = q - 1) (q1 : b < q) (hs : st1 U U_zq s v) (hss : s = q) (hv : v = U r) (hr : r = q - 1) : SD1 n m upper pt ph al U_zq order k x a b q_zq := by
  have hl := sd1_len h
  obtain ⟨U0, h1, h2, h3, h4, h5, h6⟩ := h
  refine ⟨U0, h1, h2, by omega, by omega, fun t t0 t1 => by rw [(hs t t0).2 (by omega)]; exact h5 t t0 (by omega), fun t t0 t1 => ?_⟩
  by_cases z : t = q
  · rw [z, (hs q (by omega)).1 hss.symm, hv, hr]; exact h5 _ (by omega) (by omega)
  · rw [(hs t (by omega)).2 (by omega)]; exact h6 t (by omega) t1
theorem sd2_len {n m upper k x a b q : Int} {pt ph al U order : Int → Int} (h : SD2 n m upper pt ph al U order k x a b q) : 0 ≤ a ∧ a + 2 ≤ b ∧ b ≤ q ∧ q ≤ upper ∧ b < upper ∧ upper ≤ 24 := by
  obtain ⟨U0, h1, h2, h3, h4, _⟩ := h
  have a0 := h1.1.1.2.2.1
  have := (shc_end h1).1
  have := sha_bd h1.1.1
  omega
theorem sd2_step {n m upper k x a b q q_zq s v r : Int} {pt ph al U U_zq order : Int → Int} (h : SD2 n m upper pt ph al U order k x a b q) (hq : q_zq = q + 1) (q1 : q < upper) (hs : st1 U U_zq s v) (hss : s = q - (b - a - 1) + 1) (hv : v = U r) (hr : r = q) : SD2 n m upper pt ph al U_zq order k x a b q_zq := by
  have hl := sd2_len h
  obtain ⟨U0, h1, h2, h3, h4, h5, h6, h7⟩ := h
  refine ⟨U0, h1, h2, by omega, by omega, fun t t0 t1 => by rw [(hs t t0).2 (by omega)]; exact h5 t t0 t1, fun t t0 t1 => ?_, fun t t0 t1 => by rw [(hs t (by omega)).2 (by omega)]; exact h7 t (by omega) t1⟩
  by_cases z : t = q
  · rw [z, (hs _ (by omega)).1 hss.symm, hv, hr]; exact h7 q (by omega) q1
  · rw [(hs _ (by omega)).2 (by omega)]; exact h6 t t0 (by omega)
theorem sd1_end {n m upper upper_zq k k_zq x a b q s v : Int} {pt ph al U U_zq order : Int → Int} (h : SD1 n m upper pt ph al U order k x a b q) (hq : q ≤ b) (hs : st1 U U_zq s v) (hss : s = a + 1) (hv : v = x) (hu : upper_zq = upper + 1 - (b - a - 1)) (hk : k_zq = k + 1) : SHL n m upper_zq pt ph al U_zq order k_zq := by
  have hl := sd1_len h
  obtain ⟨U0, h1, h2, h3, h4, h5, h6⟩ := h
  subst hu; subst hk
  refine (shc_end h1).2 U_zq (fun t t0 t1 => by rw [(hs t t0).2 (by omega)]; exact h5 t t0 (by omega)) ((hs _ (by omega)).1 hss.symm |>.trans hv) (fun t t0 t1 => ?_)
  rw [(hs t (by omega)).2 (by omega), h6 t (by omega) (by omega)]
  congr 1; omega
theorem sd2_end {n m upper upper_zq k k_zq x a b q s v : Int} {pt ph al U U_zq order : Int → Int} (h : SD2 n m upper pt ph al U order k x a b q) (hq : upper ≤ q) (hs : st1 U U_zq s v) (hss : s = a + 1) (hv : v = x) (hu : upper_zq = upper + 1 - (b - a - 1)) (hk : k_zq = k + 1) : SHL n m upper_zq pt ph al U_zq order k_zq := by
  have hl := sd2_len h
  obtain ⟨U0, h1, h2, h3, h4, h5, h6, h7⟩ := h
  subst hu; subst hk
  refine (shc_end h1).2 U_zq (fun t t0 t1 => by rw [(hs t t0).2 (by omega)]; exact h5 t t0 t1) ((hs _ (by omega)).1 hss.symm |>.trans hv) (fun t t0 t1 => ?_)
  rw [(hs t (by omega)).2 (by omega)]
  have := h6 (t - 1 + (b - a - 1)) (by omega) (by omega)
  rw [show t - 1 + (b - a - 1) - (b - a - 1) + 1 = t by omega] at this; exact this
theorem eof_no {m x y r : Int} {pt ph al : Int → Int} (h : EOF m pt ph al x y r) (hr : r < 0) : ¬ jA m pt ph al x y := by
  rcases h with ⟨_, w⟩ | w
  · exact fun ⟨e, j⟩ => w e j
  · have := w.1; omega
theorem eof_yes {m x y r : Int} {pt ph al : Int → Int} (h : EOF m pt ph al x y r) (hr : 0 ≤ r) : jA m pt ph al x y := by
  rcases h with ⟨w, _⟩ | w
  · omega
  · exact ⟨_, w⟩
/-! grid: the first face -/
theorem cnp_of {n m R u v w d0 d1 d2 : Int} {pt ph al rm rot ro rb rd : Int → Int} (h : GRI n m pt ph al rm rot) (hc : CON n m pt ph al) (hn : 3 ≤ n) (hn2 : n ≤ 24) (hf : FTR m pt ph al rm rot) (hR : GRD m R pt ph al rm rot ro rb rd) (e0 : d0 = rd 0) (e1 : d1 = rd 1) (e2 : d2 = rd 2) (hu : DFR pt ph d0 u) (hv : DFR pt ph d1 v) (hw : DFR pt ph d2 w) : CNP n m pt ph al rm rot u v w := by
  have hg := h.1.1
  -- some edge lives
  have r1 : 0 < R := by
    have := hc 1 (by omega) (by omega)
    have ex : ∃ e, 0 ≤ e ∧ e < m := Classical.byContradiction (fun z => by
      have w := this (fun q => q = 0) (fun a b ⟨e, j⟩ _ => absurd ⟨e, j.1, j.2.1⟩ z) rfl
      exact absurd w (by decide))
    obtain ⟨e, a, b⟩ := ex
    have l : liv m al (2 * e) := ⟨by omega, by omega, by rw [show 2 * e / 2 = e by omega]; exact h.2.1 e a b⟩
    have := hR.2.2 _ l
    have := this.1
    have := (hR.2.2 _ l).2.1
    omega
  obtain ⟨b1, b2, b3, st⟩ := rnd_3 h hc hn hR (r := 0) (by omega) r1
  have z0 := hR.1.2.2.2.1 r1
  have l0 := hR.2.1.2.1 0 (by omega) (by omega)
  have l1 := hR.2.1.2.1 1 (by omega) (by omega)
  have l2 := hR.2.1.2.1 2 (by omega) (by omega)
  have s0 := st 0 (by omega) (by omega)
  have s1 := st 1 (by omega) (by omega)
  rw [if_neg (by omega), show (0 : Int) + 1 = 1 by omega] at s0
  rw [if_neg (by omega), show (1 : Int) + 1 = 2 by omega] at s1
  have s2 := hf _ _ _ l0 s0 s1
  rw [← e0, ← e1] at s0
  rw [← e1, ← e2] at s1
  rw [← e2, ← e0] at s2
  rw [← e0] at l0
  rw [← e1] at l1
  rw [← e2] at l2
  exact ⟨⟨h, hc, hf, hn, hn2⟩, d0, d1, d2, ⟨l0, l1, l2⟩, ⟨s0, s1, s2⟩, hu, hv, hw⟩
def GR2 (n m : Int) (pt ph al rm rot : Int → Int) (z : Int) : Prop := GRI n m pt ph al rm rot ∧ CON n m pt ph al ∧ (3 ≤ n ∧ n ≤ 24) ∧ (z = 0 → FTR m pt ph al rm rot)
def LF1 (left : Int → Int) (i : Int) : Prop := ∀ j, 0 ≤ j → j < i → left j ≠ 0
end
