/-! a large loop's order in the class -/
def MGI (lp mb : Int → Int) (wd v cn : Int) : Prop := 0 ≤ cn ∧ 0 ≤ v ∧ (∀ s, 0 ≤ s → s < cn → 0 ≤ mb s ∧ mb s < v ∧ lp (mb s) = wd) ∧ (∀ s t, 0 ≤ s → s < t → t < cn → mb s ≠ mb t) ∧ (∀ u, 0 ≤ u → u < v → lp u = wd → ∃ s, 0 ≤ s ∧ s < cn ∧ mb s = u)
def MGD (mb : Int → Int) (cn : Int) : Prop := 0 ≤ cn ∧ (∀ s, 0 ≤ s → s < cn → 0 ≤ mb s ∧ mb s < 24) ∧ (∀ s t, 0 ≤ s → s < t → t < cn → mb s ≠ mb t)
theorem mgi_start {lp mb : Int → Int} {wd v cn : Int} (hv : v = 0) (hc : cn = 0) : MGI lp mb wd v cn := ⟨by omega, by omega, fun s a b => by omega, fun s t a b c => by omega, fun u a b => by omega⟩
theorem mgi_skip {lp mb : Int → Int} {wd v v' cn : Int} (h : MGI lp mb wd v cn) (hl : lp v ≠ wd) (hv : v' = v + 1) : MGI lp mb wd v' cn := by
  obtain ⟨h1, h2, h3, h4, h5⟩ := h
  refine ⟨h1, by omega, fun s a b => ?_, h4, fun u a b c => ?_⟩
  · have := h3 s a b; exact ⟨this.1, by omega, this.2.2⟩
  · by_cases e : u = v
    · exact absurd (e ▸ c) hl
    · exact h5 u a (by omega) c
theorem mgi_take {lp mb mb' : Int → Int} {wd v v' cn cn' p x : Int} (h : MGI lp mb wd v cn) (hl : lp v = wd) (hs : st1 mb mb' p x) (hp : p = cn) (hx : x = v) (hv : v' = v + 1) (hc : cn' = cn + 1) : MGI lp mb' wd v' cn' := by
  obtain ⟨h1, h2, h3, h4, h5⟩ := h
  have T : mb' cn = v := by rw [(hs cn h1).1 hp.symm, hx]
  have Nn : ∀ s, 0 ≤ s → s < cn → mb' s = mb s := fun s a b => (hs s a).2 (by omega)
  refine ⟨by omega, by omega, fun s a b => ?_, fun s t a b c => ?_, fun u a b c => ?_⟩
  · by_cases e : s = cn
    · rw [e, T]; exact ⟨h2, by omega, hl⟩
    · rw [Nn s a (by omega)]; have := h3 s a (by omega); exact ⟨this.1, by omega, this.2.2⟩
  · by_cases e : t = cn
    · rw [e, T, Nn s a (by omega)]; have := h3 s a (by omega); omega
    · rw [Nn s a (by omega), Nn t (by omega) (by omega)]; exact h4 s t a b (by omega)
  · by_cases e : u = v
    · exact ⟨cn, h1, by omega, by rw [T, e]⟩
    · obtain ⟨s, s0, s1, s2⟩ := h5 u a (by omega) c
      exact ⟨s, s0, by omega, by rw [Nn s s0 s1]; exact s2⟩
theorem mgd_of {lp mb : Int → Int} {wd v cn : Int} (h : MGI lp mb wd v cn) (hv : v ≤ 24) : MGD mb cn := ⟨h.1, fun s a b => ⟨(h.2.2.1 s a b).1, by have := (h.2.2.1 s a b).2.1; omega⟩, h.2.2.2.1⟩
def ORA (mb : Int → Int) (lf k : Int) : Prop := 0 ≤ k ∧ ∀ w, 0 ≤ w → w < 32 → (bit lf w ↔ ∃ s, 0 ≤ s ∧ s < k ∧ mb s = w)
theorem ora_start {mb : Int → Int} {lf k : Int} (hl : lf = 0) (hk : k = 0) : ORA mb lf k := ⟨by omega, fun w a b => ⟨fun z => absurd (hl ▸ z) (bit_zero w), fun ⟨s, s0, s1, _⟩ => by omega⟩⟩
theorem ora_step {mb : Int → Int} {lf lf' k k' p q one : Int} (h : ORA mb lf k) (hp : bvp p = bvp one <<< q.toNat) (h1 : one = 1) (hq : q = mb k) (q0 : 0 ≤ q) (hl : bvp lf' = bvp lf ||| bvp p) (hk : k' = k + 1) : ORA mb lf' k' := by
  refine ⟨by have := h.1; omega, fun w a b => ?_⟩
  rw [bit_or hl, bit_shl hp h1 q0 a b, h.2 w a b]
  constructor
  · rintro (⟨s, s0, s1, s2⟩ | e)
    · exact ⟨s, s0, by omega, s2⟩
    · exact ⟨k, h.1, by omega, by omega⟩
  · rintro ⟨s, s0, s1, s2⟩
    by_cases e : s = k
    · exact Or.inr (by rw [← s2, e, hq])
    · exact Or.inl ⟨s, s0, by omega, s2⟩
def ORL (rk mb : Int → Int) (cn lf bg en k : Int) : Prop := MGD mb cn ∧ 0 ≤ bg ∧ en < cn ∧ bg + cn - 1 - en = k ∧ (∀ w, 0 ≤ w → w < 32 → bit lf w → ∃ s, 0 ≤ s ∧ s < cn ∧ mb s = w) ∧ (∀ s, 0 ≤ s → s < cn → ¬ bit lf (mb s) → (0 ≤ rk (mb s) ∧ rk (mb s) < bg) ∨ (en < rk (mb s) ∧ rk (mb s) < cn)) ∧ (∀ s t, 0 ≤ s → s < t → t < cn → ¬ bit lf (mb s) → ¬ bit lf (mb t) → rk (mb s) ≠ rk (mb t)) ∧ (∀ r, (0 ≤ r ∧ r < bg) ∨ (en < r ∧ r < cn) → ∃ s, 0 ≤ s ∧ s < cn ∧ ¬ bit lf (mb s) ∧ rk (mb s) = r)
def ORE (rk mb : Int → Int) (cn : Int) : Prop := ∀ s t, 0 ≤ s → s < t → t < cn → rk (mb s) ≠ rk (mb t)
theorem orl_start {rk mb : Int → Int} {cn lf bg en k j : Int} (h : ORA mb lf j) (hM : MGD mb cn) (hj : j ≥ cn) (hj2 : j ≤ cn) (hb : bg = 0) (he : en = cn - 1) (hk : k = 0) : ORL rk mb cn lf bg en k := by
  have e : j = cn := by omega
  subst e
  refine ⟨hM, by omega, by omega, by omega, fun w a b z => (h.2 w a b).mp z, fun s a b z => ?_, fun s t a b c z => ?_, fun r z => by omega⟩
  · have := hM.2.1 s a b; exact absurd ((h.2 (mb s) this.1 (by omega)).mpr ⟨s, a, b, rfl⟩) z
  · have := hM.2.1 s a (by omega); exact absurd ((h.2 (mb s) this.1 (by omega)).mpr ⟨s, a, by omega, rfl⟩) z
/-- some member is left -/
theorem orl_some {rk mb : Int → Int} {cn lf bg en k : Int} (h : ORL rk mb cn lf bg en k) (hk : k < cn) : ∃ w, 0 ≤ w ∧ w < 24 ∧ bit lf w := by
  obtain ⟨hM, h1, h2, h3, h4, h5, h6, h7⟩ := h
  refine Classical.byContradiction fun c => ?_
  have np : ∀ s, 0 ≤ s → s < cn → ¬ bit lf (mb s) := fun s a b z => c ⟨mb s, (hM.2.1 s a b).1, (hM.2.1 s a b).2, z⟩
  have := inj_le (n := k) (f := fun s => if rk (mb s) < bg then rk (mb s) else rk (mb s) - en - 1 + bg) (N := cn.toNat) (by omega) (fun s hs => by
    have q := h5 s (by omega) (by omega) (np s (by omega) (by omega))
    by_cases z : rk (mb s) < bg
    · simp only [if_pos z]; omega
    · simp only [if_neg z]; omega) (fun s t st ht e => by
    have q1 := h5 s (by omega) (by omega) (np s (by omega) (by omega))
    have q2 := h5 t (by omega) (by omega) (np t (by omega) (by omega))
    have q3 := h6 s t (by omega) (by omega) (by omega) (np s (by omega) (by omega)) (np t (by omega) (by omega))
    have e' : (if rk (mb s) < bg then rk (mb s) else rk (mb s) - en - 1 + bg) = (if rk (mb t) < bg then rk (mb t) else rk (mb t) - en - 1 + bg) := e
    by_cases z : rk (mb s) < bg
    · by_cases z2 : rk (mb t) < bg
      · rw [if_pos z, if_pos z2] at e'; omega
      · rw [if_pos z, if_neg z2] at e'; omega
    · by_cases z2 : rk (mb t) < bg
      · rw [if_neg z, if_pos z2] at e'; omega
      · rw [if_neg z, if_neg z2] at e'; omega)
  omega
theorem orl_pos {rk mb : Int → Int} {cn lf bg en k : Int} (h : ORL rk mb cn lf bg en k) (hk : k < cn) (l0 : 0 ≤ lf) : 0 < lf := by
  obtain ⟨w, w0, w1, w2⟩ := orl_some h hk
  by_cases e : lf = 0
  · exact absurd (e ▸ w2) (bit_zero w)
  · omega
theorem orl_first {rk mb : Int → Int} {cn lf bg en k an : Int} (h : ORL rk mb cn lf bg en k) (hk : k < cn) (l0 : 0 ≤ lf) (l1 : lf ≤ 16777215) (hL : LOW lf an) : 0 ≤ an ∧ an < 24 ∧ bit lf an := by
  obtain ⟨a, b, c⟩ := hL (orl_pos h hk l0) (by omega)
  exact ⟨a, bit_lt24 l0 l1 a b c, c⟩
def PKL (lf an : Int) : Prop := an = -1 ∨ (0 ≤ an ∧ an < 24 ∧ bit lf an)
/-- one member is given its place -/
theorem orl_take {rk rk' mb : Int → Int} {cn lf lf' bg bg' en en' k k' x p y q r one m1 : Int} (h : ORL rk mb cn lf bg en k) (hk : k < cn) (hx : 0 ≤ x ∧ x < 24 ∧ bit lf x) (hs : st1 rk rk' p y) (hp : p = x) (hq : bvp q = bvp one <<< x.toNat) (h1 : one = 1) (hr : bvp r = bvp q ^^^ bvp m1) (hm : m1 = -1) (hl : bvp lf' = bvp lf &&& bvp r) (hk' : k' = k + 1) (hy : (y = en ∧ en' = en - 1 ∧ bg' = bg) ∨ (y = bg ∧ bg' = bg + 1 ∧ en' = en)) : ORL rk' mb cn lf' bg' en' k' := by
  obtain ⟨hM, a1, a2, a3, a4, a5, a6, a7⟩ := h
  obtain ⟨x0, x1, x2⟩ := hx
  have nb : ∀ w, 0 ≤ w → w < 32 → (bit lf' w ↔ bit lf w ∧ w ≠ x) := fun w a b => by rw [bit_and hl, bit_xor hr hm a b, bit_shl hq h1 x0 a b]
  obtain ⟨s0, s1, s2, s3⟩ := a4 x x0 (by omega) x2
  have T : rk' x = y := (hs x x0).1 hp.symm
  have Nn : ∀ w, 0 ≤ w → w ≠ x → rk' w = rk w := fun w a b => (hs w a).2 (by omega)
  have old : ∀ s, 0 ≤ s → s < cn → mb s ≠ x → ¬ bit lf' (mb s) → ¬ bit lf (mb s) := fun s a b c z y => z ((nb _ (hM.2.1 s a b).1 (by have := (hM.2.1 s a b).2; omega)).mpr ⟨y, c⟩)
  have rg : ∀ s, 0 ≤ s → s < cn → mb s ≠ x → ¬ bit lf' (mb s) → ((0 ≤ rk (mb s) ∧ rk (mb s) < bg) ∨ (en < rk (mb s) ∧ rk (mb s) < cn)) ∧ rk' (mb s) = rk (mb s) := fun s a b c z => ⟨a5 s a b (old s a b c z), Nn _ (hM.2.1 s a b).1 c⟩
  refine ⟨hM, by omega, by omega, by omega, fun w a b z => a4 w a b ((nb w a b).mp z).1, fun s a b z => ?_, fun s t a b c z z' => ?_, fun r z => ?_⟩
  · by_cases e : mb s = x
    · rw [e, T]; omega
    · have := rg s a b e z; omega
  · by_cases e : mb s = x
    · have e2 : mb t ≠ x := fun w => hM.2.2 s t a b c (e.trans w.symm)
      have := rg t (by omega) c e2 z'
      rw [e, T]; omega
    · by_cases e2 : mb t = x
      · have := rg s a (by omega) e z
        rw [e2, T]; omega
      · rw [(rg s a (by omega) e z).2, (rg t (by omega) c e2 z').2]
        exact a6 s t a b c (old s a (by omega) e z) (old t (by omega) c e2 z')
  · by_cases e : r = y
    · exact ⟨s0, s1, s2, fun w => ((nb _ (by omega) (by omega)).mp w).2 s3, by rw [s3, T, e]⟩
    · obtain ⟨s, b1, b2, b3, b4⟩ := a7 r (by omega)
      have ne : mb s ≠ x := fun w => b3 (w ▸ x2)
      exact ⟨s, b1, b2, fun w => b3 ((nb _ (hM.2.1 s b1 b2).1 (by have := (hM.2.1 s b1 b2).2; omega)).mp w).1, by rw [Nn _ (hM.2.1 s b1 b2).1 ne, b4]⟩
theorem ore_of {rk mb : Int → Int} {cn lf bg en k : Int} (h : ORL rk mb cn lf bg en k) (hk : k ≥ cn) (hk2 : k ≤ cn) : ORE rk mb cn := by
  obtain ⟨hM, a1, a2, a3, a4, a5, a6, a7⟩ := h
  have all : ∀ s, 0 ≤ s → s < cn → ¬ bit lf (mb s) := fun s0 b0 c0 d0 => by
    have hc : ∀ r : Nat, ∃ s : Int, (r : Int) < cn → 0 ≤ s ∧ s < cn ∧ ¬ bit lf (mb s) ∧ rk (mb s) = r := fun r => by
      by_cases hr : (r : Int) < cn
      · obtain ⟨s, q⟩ := a7 r (by omega); exact ⟨s, fun _ => q⟩
      · exact ⟨0, fun z => absurd z hr⟩
    obtain ⟨f, fT, fN⟩ : ∃ f : Nat → Int, f cn.toNat = s0 ∧ ∀ i, i ≠ cn.toNat → f i = Classical.choose (hc i) := ⟨fun i => if i = cn.toNat then s0 else Classical.choose (hc i), if_pos rfl, fun i e => if_neg e⟩
    have := inj_le (n := cn) (f := f) (N := cn.toNat + 1) hM.1 (fun i hi => by
      by_cases e : i = cn.toNat
      · rw [e, fT]; exact ⟨b0, c0⟩
      · rw [fN i e]; have := Classical.choose_spec (hc i) (by omega); exact ⟨this.1, this.2.1⟩) (fun i j ij hj => by
      have ei : i ≠ cn.toNat := by omega
      have qi := Classical.choose_spec (hc i) (by omega)
      rw [fN i ei]
      by_cases e : j = cn.toNat
      · rw [e, fT]; intro z; rw [z] at qi; exact qi.2.2.1 d0
      · rw [fN j e]
        have qj := Classical.choose_spec (hc j) (by omega)
        intro z; rw [z] at qi
        have := qi.2.2.2.symm.trans qj.2.2.2
        omega)
    omega
  exact fun s t a b c => a6 s t a b c (all s a (by omega)) (all t (by omega) c)
theorem low_take {lf b b' : Int} (hb : bit lf b') (b0 : 0 ≤ b') (b1 : b' < 24) : LOW lf b' := fun _ _ => ⟨b0, by omega, hb⟩
theorem pkl_of {lf an : Int} (hb : bit lf an) (b0 : 0 ≤ an) (b1 : an < 24) : PKL lf an := Or.inr ⟨b0, b1, hb⟩
