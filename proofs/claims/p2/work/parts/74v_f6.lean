/-! grid: parts joined, faces cut -/
theorem cna_rc {n m x y : Int} {pt ph al : Int → Int} (hg : GOK n m pt ph) : cnA (JJ m pt ph al) (-1) x y ↔ rc (jA m pt ph al) x y := by
  constructor
  · exact rc_mono (fun a b h => h.1)
  · refine rc_mono (fun a b h => ⟨h, ?_, ?_⟩)
    · obtain ⟨e, j⟩ := h; have := JJ_rng hg j; omega
    · obtain ⟨e, j⟩ := h; have := JJ_rng hg j; omega
def CON (n m : Int) (pt ph al : Int → Int) : Prop := ∀ y, 0 ≤ y → y < n → rc (jA m pt ph al) 0 y
def AP1 (n m : Int) (pt ph al seen : Int → Int) (i : Int) : Prop := FLD n m pt ph al seen 0 (-1) ∧ ∀ j, 0 ≤ j → j < i → seen j ≠ 0
def APN (n m : Int) (pt ph al : Int → Int) (z : Int) : Prop := (z = -1 ∧ CON n m pt ph al) ∨ (0 ≤ z ∧ z < n ∧ ¬ rc (jA m pt ph al) 0 z)
theorem apn_no {n m i z : Int} {pt ph al seen : Int → Int} (hg : GOK n m pt ph) (h : AP1 n m pt ph al seen i) (hi : n ≤ i) (hz : z = -1) : APN n m pt ph al z :=
  Or.inl ⟨hz, fun y a b => (cna_rc hg).1 ((h.1 y a b).1 (h.2 y a (by omega)))⟩
theorem apn_yes {n m i : Int} {pt ph al seen : Int → Int} (hg : GOK n m pt ph) (h : AP1 n m pt ph al seen i) (i0 : 0 ≤ i) (i1 : i < n) (hs : seen i = 0) : APN n m pt ph al i :=
  Or.inr ⟨i0, i1, fun r => (h.1 i i0 i1).2 ((cna_rc hg).2 r) hs⟩
theorem ap1_next {n m i i' : Int} {pt ph al seen : Int → Int} (h : AP1 n m pt ph al seen i) (hi : i' = i + 1) (hs : seen i ≠ 0) : AP1 n m pt ph al seen i' := by
  refine ⟨h.1, fun j a b => ?_⟩
  by_cases q : j = i
  · rw [q]; exact hs
  · exact h.2 j a (by omega)
/-- how many nodes are not joined with node 0 -/
noncomputable def rcN (m : Int) (pt ph al : Int → Int) (y : Int) : Int := @ite Int (rc (jA m pt ph al) 0 y) (Classical.propDecidable _) 1 0
theorem rcN_0 {m y : Int} {pt ph al : Int → Int} : rcN m pt ph al y = 0 ↔ ¬ rc (jA m pt ph al) 0 y := by
  unfold rcN
  split <;> simp_all
noncomputable def unc (n m : Int) (pt ph al : Int → Int) : Int := cz (rcN m pt ph al) n
def UNA (n m : Int) (pt ph al : Int → Int) (g : Int) : Prop := unc n m pt ph al ≤ g ∧ m + unc n m pt ph al ≤ 71
def UNP (n m : Int) (pt ph al : Int → Int) (g : Int) : Prop := UNA n (m - 1) pt ph al g
def GLU (n m : Int) (pt ph al : Int → Int) (c : Int) : Prop := 1 ≤ m ∧ 0 ≤ c ∧ c < n ∧ JJ m pt ph al (m - 1) 0 c ∧ ¬ rc (jA (m - 1) pt ph al) 0 c
def GR1 (n m : Int) (pt ph al rm rot : Int → Int) (g : Int) : Prop := GRI n m pt ph al rm rot ∧ (3 ≤ n ∧ n ≤ 24) ∧ UNA n m pt ph al g
def GR1n (n m : Int) (pt ph al rm rot : Int → Int) (g : Int) : Prop := GR1 n m pt ph al rm rot (g - 1)
theorem una_start {n m g : Int} {pt ph al : Int → Int} (hn : 3 ≤ n) (hn2 : n ≤ 24) (hm : m ≤ 48) (hg : g = 25) : UNA n m pt ph al g := by
  have := czlt (f := rcN m pt ph al) (g := fun _ => 0) (n := n) (i := 0) (by omega) (by omega) (fun _ _ _ _ => rfl) rfl (fun z => rcN_0.1 z (rc_refl _ _))
  have b := czb (fun _ => (0 : Int)) (n := n) (by omega)
  unfold UNA unc
  omega
theorem una_congr {n m g : Int} {pt ph al pt' ph' al' : Int → Int} (h : ∀ e, 0 ≤ e → e < m → pt' e = pt e ∧ ph' e = ph e ∧ al' e = al e) (k : UNA n m pt ph al g) : UNA n m pt' ph' al' g := by
  have : rcN m pt' ph' al' = rcN m pt ph al := by unfold rcN jA; rw [JJ_congr h]
  unfold UNA unc
  rw [this]; exact k
theorem jA_mono {m m' u v : Int} {pt ph al : Int → Int} (hm : m ≤ m') (h : jA m pt ph al u v) : jA m' pt ph al u v := by
  obtain ⟨e, j⟩ := h; exact ⟨e, j.1, by have := j.2.1; omega, j.2.2⟩
theorem una_less {n m g c : Int} {pt ph al : Int → Int} (hl : GLU n m pt ph al c) (h : UNP n m pt ph al g) : UNA n m pt ph al (g - 1) := by
  obtain ⟨m1, c0, c1, j, hn⟩ := hl
  have := czlt (f := rcN m pt ph al) (g := rcN (m - 1) pt ph al) (n := n) (i := c) c0 c1 (fun y _ _ z => rcN_0.2 (fun w => rcN_0.1 z (rc_mono (fun a b q => jA_mono (by omega) q) w))) (rcN_0.2 hn) (fun z => rcN_0.1 z (rc_step ⟨_, j⟩))
  have h1 := h.1
  have h2 := h.2
  unfold unc at h1 h2
  unfold UNA unc
  omega
/-! the rows by modes -/
def PN1 (n m : Int) (pt ph al rm rot : Int → Int) (c : Int) : Prop := PNX 1 n m pt ph al rm rot 0 c 0 0
def PN3 (n m : Int) (pt ph al rm rot : Int → Int) (a c d x : Int) : Prop := PNX 3 n m pt ph al rm rot a c d x
def PUa (n m : Int) (pt ph al rm rot : Int → Int) (c e : Int) : Prop := PUX 1 n m pt ph al rm rot 0 c 0 0 e
def PUb (n m : Int) (pt ph al rm rot : Int → Int) (c e : Int) : Prop := PUX 2 n m pt ph al rm rot 0 c 0 0 e
def PUc (n m : Int) (pt ph al rm rot : Int → Int) (a c d x e : Int) : Prop := PUX 3 n m pt ph al rm rot a c d x e
def PUd (n m : Int) (pt ph al rm rot : Int → Int) (a c d x e : Int) : Prop := PUX 4 n m pt ph al rm rot a c d x e
def PAa (n m : Int) (pt ph al rm rot : Int → Int) (i e k c : Int) : Prop := PAX 1 n m pt ph al rm rot i e k 0 c 0 0
def PAb (n m : Int) (pt ph al rm rot : Int → Int) (i e k c : Int) : Prop := PAX 2 n m pt ph al rm rot i e k 0 c 0 0
def PAc (n m : Int) (pt ph al rm rot : Int → Int) (i e k a c d x : Int) : Prop := PAX 3 n m pt ph al rm rot i e k a c d x
def PAd (n m : Int) (pt ph al rm rot : Int → Int) (i e k a c d x : Int) : Prop := PAX 4 n m pt ph al rm rot i e k a c d x
def PLa (n m : Int) (pt ph al rm rot : Int → Int) (i e k j c : Int) : Prop := PAL 1 n m pt ph al rm rot i e k j 0 c 0 0
def PLb (n m : Int) (pt ph al rm rot : Int → Int) (i e k j c : Int) : Prop := PAL 2 n m pt ph al rm rot i e k j 0 c 0 0
def PLc (n m : Int) (pt ph al rm rot : Int → Int) (i e k j a c d x : Int) : Prop := PAL 3 n m pt ph al rm rot i e k j a c d x
def PLd (n m : Int) (pt ph al rm rot : Int → Int) (i e k j a c d x : Int) : Prop := PAL 4 n m pt ph al rm rot i e k j a c d x
def PHA (n m : Int) (pt ph al rm rot : Int → Int) (i e f c d x : Int) : Prop := PUX 3 n m pt ph al rm rot i c d x e ∧ f = d / 2
def PHB (n m : Int) (pt ph al rm rot : Int → Int) (i e f a d x : Int) : Prop := PUX 4 n m pt ph al rm rot a i d x e ∧ f = x / 2
theorem una_new {n m m' g p v q w s t : Int} {pt ph al pt' ph' al' : Int → Int} (h : UNA n m pt ph al g) (hs : st1 pt pt' p v) (hp : p = m) (ht : st1 ph ph' q w) (hq : q = m) (hu : st1 al al' s t) (hs' : s = m) (hm' : m' = m + 1) : UNP n m' pt' ph' al' g := by
  unfold UNP
  rw [show m' - 1 = m by omega]
  exact una_congr (fun e a b => ⟨(hs e a).2 (by omega), (ht e a).2 (by omega), (hu e a).2 (by omega)⟩) h
theorem glu_new {n m c e : Int} {pt ph al rm rot : Int → Int} (h : PUa n m pt ph al rm rot c e) : GLU n m pt ph al c := by
  obtain ⟨⟨⟨h1, h2, h3⟩, g, hal, ⟨ha, hc⟩, _⟩, hn⟩ := h.1 rfl
  have ge := g.1 e h2 (by omega)
  rw [ha, hc] at ge
  have em : m - 1 = e := by omega
  refine ⟨by omega, ge.2.2.1, ge.2.2.2.1, ?_, by rw [em]; exact hn⟩
  rw [em]
  exact ⟨h2, by omega, hal e h2 (by omega), Or.inl ⟨ha, hc⟩⟩
theorem pn1_of {n m c : Int} {pt ph al rm rot : Int → Int} (h : GRI n m pt ph al rm rot) (hn : 1 ≤ n) (c0 : 0 ≤ c) (c1 : c < n) (hc : ¬ rc (jA m pt ph al) 0 c) : PN1 n m pt ph al rm rot c := by
  refine ⟨h, ⟨by omega, by omega, c0, c1, fun z => hc (by rw [← z]; exact rc_refl _ _), fun e e0 e1 j => hc (rc_step ⟨e, e0, e1, h.2.1 e e0 e1, j⟩)⟩, fun _ => hc, fun z => by omega⟩
/-! rounds of a map that hangs together -/
/-- a round of two is a part of its own -/
theorem ndt_back {n m a d x : Int} {pt ph al rm rot : Int → Int} (h : GRI n m pt ph al rm rot) (hd : liv m al d) (h1 : NDT m pt ph rm rot d x) (h2 : NDT m pt ph rm rot x d) (hu : jA m pt ph al a (dto pt ph d)) : a = dfr pt ph d := by
  obtain ⟨⟨hg, m0⟩, hal, hr⟩ := h
  have hE := eml_rot.2 hr
  have hx := ndt_liv hg hE hd h1
  have jd := dart_J (pt := pt) (ph := ph) hd
  have jx := dart_J (pt := pt) (ph := ph) hx
  rw [h1.2.2.1] at jx
  rw [← h2.2.2.1] at jx
  -- one edge
  have ee : x / 2 = d / 2 := JJ_one hg jx (JJ_sym _ _ _ jd)
  obtain ⟨_, _, _, k, k0, k1, k2, k3⟩ := h1
  have rv := JJ_rng hg jd
  obtain ⟨r1, r2, r3, r4⟩ := hr.1 _ rv.2.2.1 rv.2.2.2
  have z := nr_rng k0 k1
  have hk : nr (rm (dto pt ph d)) k = k := by
    rcases Int.lt_trichotomy (nr (rm (dto pt ph d)) k) k with q | q | q
    · exact absurd (by rw [k3, k2, ee]) (r3 _ _ z.1 q k1)
    · exact q
    · exact absurd (by rw [k3, k2, ee]) (r3 _ _ k0 q z.2)
  have hone : rm (dto pt ph d) = 1 := by
    unfold nr at hk
    by_cases w : k + 1 = rm (dto pt ph d)
    · rw [if_pos w] at hk; omega
    · rw [if_neg w] at hk; omega
  obtain ⟨f, jf⟩ := hu
  obtain ⟨l, l0, l1, l2⟩ := r4 f a (JJ_sym _ _ _ jf)
  have : l = k := by omega
  rw [this, k2] at l2
  rw [← l2] at jf
  exact JJ_same (JJ_irr (al := al) hg) (JJ_sym _ _ _ jf) (JJ_sym _ _ _ jd)
theorem no_two {n m d x : Int} {pt ph al rm rot : Int → Int} (h : GRI n m pt ph al rm rot) (hc : CON n m pt ph al) (hn : 3 ≤ n) (hd : liv m al d) (h1 : NDT m pt ph rm rot d x) (h2 : NDT m pt ph rm rot x d) : False := by
  have hg := h.1.1
  have hE := eml_rot.2 h.2.2
  have hx := ndt_liv hg hE hd h1
  have jd := dart_J (pt := pt) (ph := ph) hd
  have rd := JJ_rng hg jd
  have e1 := h1.2.2.1
  have e2 := h2.2.2.1
  have cl : ∀ u v, jA m pt ph al u v → (v = dfr pt ph d ∨ v = dto pt ph d) → (u = dfr pt ph d ∨ u = dto pt ph d) := fun u v huv hv => by
    rcases hv with q | q
    · rw [q, e2] at huv
      have := ndt_back h hx h2 h1 huv
      rw [e1] at this; exact Or.inr this
    · rw [q] at huv
      exact Or.inl (ndt_back h hd h1 h2 huv)
  have sy : ∀ u v, jA m pt ph al u v → jA m pt ph al v u := fun u v ⟨e, j⟩ => ⟨e, JJ_sym _ _ _ j⟩
  have all : ∀ y, 0 ≤ y → y < n → (y = dfr pt ph d ∨ y = dto pt ph d) := fun y y0 y1 => by
    have r1 := hc (dfr pt ph d) rd.1 rd.2.1
    have r2 := rc_trans (rc_symm sy r1) (hc y y0 y1)
    exact r2 (fun z => z = dfr pt ph d ∨ z = dto pt ph d) (fun a b r q => cl b a (sy _ _ r) q) (Or.inl rfl)
  have a0 := all 0 (by omega) (by omega)
  have a1 := all 1 (by omega) (by omega)
  have a2 := all 2 (by omega) (by omega)
  omega
theorem no_one {n m d : Int} {pt ph al rm rot : Int → Int} (hg : GOK n m pt ph) (hd : liv m al d) (h1 : NDT m pt ph rm rot d d) : False := by
  have jd := dart_J (pt := pt) (ph := ph) hd
  exact JJ_irr (al := al) hg _ _ _ jd h1.2.2.1
/-- each round has three darts at least -/
theorem rnd_3 {n m R r : Int} {pt ph al rm rot ro rb rd : Int → Int} (h : GRI n m pt ph al rm rot) (hc : CON n m pt ph al) (hn : 3 ≤ n) (hR : GRD m R pt ph al rm rot ro rb rd) (r0 : 0 ≤ r) (r1 : r < R) : rb r + 3 ≤ rb (r + 1) ∧ 0 ≤ rb r ∧ rb (r + 1) ≤ rb R ∧ ∀ p, rb r ≤ p → p < rb (r + 1) → NDT m pt ph rm rot (rd p) (rd (if p + 1 = rb (r + 1) then rb r else p + 1)) := by
  obtain ⟨⟨_, _, _, _, hk⟩, hD, _⟩ := hR
  obtain ⟨a, b, c, st⟩ := hk r r0 r1
  have en : nxb rb R (rb R) r = rb (r + 1) := by
    unfold nxb
    split
    · next q => rw [← q]
    · rfl
  rw [en] at b c st
  have l0 := hD.2.1 (rb r) a (by omega)
  have s0 := st (rb r) (by omega) b
  have ne1 : rb r + 1 ≠ rb (r + 1) := fun z => by
    rw [if_pos z] at s0
    exact no_one h.1.1 l0 s0
  rw [if_neg ne1] at s0
  have s1 := st (rb r + 1) (by omega) (by omega)
  have ne2 : rb r + 2 ≠ rb (r + 1) := fun z => by
    rw [if_pos (by omega)] at s1
    exact no_two h hc hn l0 s0 s1
  exact ⟨by omega, a, c, st⟩
theorem rnd_many {n m R : Int} {pt ph al rm rot ro rb rd : Int → Int} (h : GRI n m pt ph al rm rot) (hc : CON n m pt ph al) (hn : 3 ≤ n) (hR : GRD m R pt ph al rm rot ro rb rd) : 3 * R ≤ 2 * m := by
  have key : ∀ t : Nat, (t : Int) ≤ R → 3 * (t : Int) ≤ rb t := by
    intro t
    induction t with
    | zero =>
      intro _
      by_cases q : R = 0
      · have := hR.1.2.2.1 q
        rw [q] at this
        have e : rb ((0 : Nat) : Int) = 0 := this
        rw [e]; simp
      · have := hR.1.2.2.2.1 (by have := hR.1.1; omega)
        have e : rb ((0 : Nat) : Int) = 0 := this
        rw [e]; simp
    | succ t ih =>
      intro ht
      have a := ih (by omega)
      have b := rnd_3 h hc hn hR (r := (t : Int)) (by omega) (by omega)
      have e : ((t + 1 : Nat) : Int) = (t : Int) + 1 := by omega
      rw [e]
      omega
  have r0 := hR.1.1
  have := key R.toNat (by omega)
  rw [show ((R.toNat : Nat) : Int) = R by omega] at this
  have := dst_le h.1.2 hR.2.1
  omega
