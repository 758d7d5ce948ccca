/-! canonical: what stands around the node that leaves -/
theorem em_lt {a n : Int} (h0 : 0 ≤ a) (h1 : a < n) : a % n = a := Int.emod_eq_of_lt h0 h1
theorem em_sub {a n : Int} (h0 : n ≤ a) (h1 : a < 2 * n) : a % n = a - n := by
  have e : a % n = ((a - n) + n * 1) % n := by congr 1; omega
  rw [e, Int.add_mul_emod_self_left, Int.emod_eq_of_lt (by omega) (by omega)]
theorem em_ab {a n : Int} (h0 : 0 ≤ a) (h1 : a < 2 * n) : (a < n ∧ a % n = a) ∨ (n ≤ a ∧ a % n = a - n) := by
  by_cases q : a < n
  · exact Or.inl ⟨q, em_lt h0 q⟩
  · exact Or.inr ⟨by omega, em_sub (by omega) h1⟩
/-- from s on, all of F in a row, then e -/
theorem stretch {many at' s e : Int} {row nxx : Int → Int} {F : Int → Prop} (hd : ∀ t t', 0 ≤ t → t < t' → t' < many → row t ≠ row t') (a0 : 0 ≤ at') (a1 : at' < many) (hs : row at' = s) (Fs : F s) (Fe : ¬ F e)
    (hin : ∀ t, 0 ≤ t → t < many → F (row t) ∨ row t = e) (he : ∃ t, 0 ≤ t ∧ t < many ∧ row t = e)
    (hst : ∀ t, 0 ≤ t → t < many → F (row t) → row ((t + 1) % many) = nxx (row t))
    (hcl : ∀ L : Int → Prop, L s → (∀ w, F w → L w → F (nxx w) → L (nxx w)) → ∀ w, F w → L w) :
    (∀ i, 0 ≤ i → i + 1 < many → F (row ((at' + i) % many))) ∧ row ((at' + (many - 1)) % many) = e ∧ 2 ≤ many := by
  have inj : ∀ t t', 0 ≤ t → t < many → 0 ≤ t' → t' < many → row t = row t' → t = t' := fun t t' h1 h2 h3 h4 z => by
    rcases Int.lt_trichotomy t t' with q | q | q
    · exact absurd z (hd t t' h1 q h4)
    · exact q
    · exact absurd z.symm (hd t' t h3 q h2)
  -- the first one that is e
  have hj : ∃ j : Nat, (j : Int) < many ∧ row ((at' + (j : Int)) % many) = e ∧ ∀ i : Nat, i < j → row ((at' + (i : Int)) % many) ≠ e := by
    obtain ⟨t, t0, t1, t2⟩ := he
    have ex : ∃ j : Nat, (j : Int) < many ∧ row ((at' + (j : Int)) % many) = e := by
      by_cases q : at' ≤ t
      · exact ⟨(t - at').toNat, by omega, by rw [show at' + (((t - at').toNat : Nat) : Int) = t by omega, em_lt t0 t1]; exact t2⟩
      · exact ⟨(t + many - at').toNat, by omega, by rw [show at' + (((t + many - at').toNat : Nat) : Int) = t + many by omega, em_sub (by omega) (by omega), show t + many - many = t by omega]; exact t2⟩
    obtain ⟨j, j1, j2⟩ := ex
    induction j using Nat.strongRecOn with
    | _ j ih =>
      by_cases q : ∃ i : Nat, i < j ∧ row ((at' + (i : Int)) % many) = e
      · obtain ⟨i, i1, i2⟩ := q
        exact ih i i1 (by omega) i2
      · exact ⟨j, j1, j2, fun i hi z => q ⟨i, hi, z⟩⟩
  obtain ⟨j, j1, j2, j3⟩ := hj
  have rng : ∀ i : Int, 0 ≤ i → i < many → 0 ≤ (at' + i) % many ∧ (at' + i) % many < many := fun i _ _ => ⟨Int.emod_nonneg _ (by omega), Int.emod_lt_of_pos _ (by omega)⟩
  have Fi : ∀ i : Nat, i < j → F (row ((at' + (i : Int)) % many)) := fun i hi => by
    have r := rng (i : Int) (by omega) (by omega)
    rcases hin _ r.1 r.2 with q | q
    · exact q
    · exact absurd q (j3 i hi)
  have nxt : ∀ i : Nat, i < j → row ((at' + ((i + 1 : Nat) : Int)) % many) = nxx (row ((at' + (i : Int)) % many)) := fun i hi => by
    have r := rng (i : Int) (by omega) (by omega)
    have := hst _ r.1 r.2 (Fi i hi)
    rw [show ((at' + (i : Int)) % many + 1) % many = (at' + ((i + 1 : Nat) : Int)) % many by rw [Int.emod_add_emod]; congr 1; omega] at this
    exact this
  have j0 : 0 < j := by
    rcases Nat.eq_zero_or_pos j with q | q
    · subst q
      rw [show at' + ((0 : Nat) : Int) = at' by omega, em_lt a0 a1, hs] at j2
      rw [j2] at Fs; exact absurd Fs Fe
    · exact q
  have hL := hcl (fun w => ∃ i : Nat, i < j ∧ w = row ((at' + (i : Int)) % many)) ⟨0, j0, by rw [show at' + ((0 : Nat) : Int) = at' by omega, em_lt a0 a1, hs]⟩ (fun w Fw ⟨i, i1, i2⟩ Fn => by
    by_cases q : i + 1 < j
    · exact ⟨i + 1, q, by rw [nxt i i1, i2]⟩
    · have : i + 1 = j := by omega
      have z := nxt i i1
      rw [this, j2, ← i2] at z
      rw [← z] at Fn; exact absurd Fn Fe)
  -- so there are no more
  have hm : many ≤ (j : Int) + 1 := by
    have hx : ∀ t, ∃ i : Nat, (0 ≤ t ∧ t < many) → i < j + 1 ∧ row t = row ((at' + (i : Int)) % many) := fun t => by
      by_cases q : 0 ≤ t ∧ t < many
      · rcases hin t q.1 q.2 with w | w
        · obtain ⟨i, i1, i2⟩ := hL _ w
          exact ⟨i, fun _ => ⟨by omega, i2⟩⟩
        · exact ⟨j, fun _ => ⟨by omega, by rw [j2]; exact w⟩⟩
      · exact ⟨0, fun z => absurd z q⟩
    obtain ⟨I, hI⟩ : ∃ I : Int → Nat, ∀ t, (0 ≤ t ∧ t < many) → I t < j + 1 ∧ row t = row ((at' + (I t : Int)) % many) := ⟨fun t => Classical.choose (hx t), fun t => Classical.choose_spec (hx t)⟩
    have := php many.toNat (j + 1) (fun t => I (t : Int)) (fun t ht => (hI t (by omega)).1) (fun a b ha hb z => by
      have z' : I (a : Int) = I (b : Int) := z
      have x1 := (hI a (by omega)).2
      have x2 := (hI b (by omega)).2
      rw [z'] at x1
      have := inj a b (by omega) (by omega) (by omega) (by omega) (x1.trans x2.symm)
      omega)
    omega
  have e1 : (j : Int) = many - 1 := by omega
  refine ⟨fun i i0 i1 => ?_, by rw [← e1]; exact j2, by omega⟩
  have := Fi i.toNat (by omega)
  rw [show ((i.toNat : Nat) : Int) = i by omega] at this
  exact this
/-- the entries of a row that are left, in their order -/
def GTH (lf : Int → Prop) (R : Int → Int) (row : Int → Int) (K many : Int) : Prop := 0 ≤ many ∧ many ≤ K ∧ ∃ κ : Int → Int, (∀ t, 0 ≤ t → t < many → 0 ≤ κ t ∧ κ t < K ∧ row t = R (κ t) ∧ lf (R (κ t))) ∧ (∀ t t', 0 ≤ t → t < t' → t' < many → κ t < κ t') ∧ ∀ k, 0 ≤ k → k < K → lf (R k) → ∃ t, 0 ≤ t ∧ t < many ∧ κ t = k
theorem gth_0 {lf : Int → Prop} {R row : Int → Int} {K many : Int} (hk : K = 0) (hm : many = 0) : GTH lf R row K many := by
  subst hk; subst hm
  exact ⟨by omega, by omega, fun _ => 0, fun t a b => by omega, fun t t' a b c => by omega, fun k a b => by omega⟩
theorem gth_skip {lf : Int → Prop} {R row : Int → Int} {K K' many : Int} (h : GTH lf R row K many) (hk : K' = K + 1) (hn : ¬ lf (R K)) : GTH lf R row K' many := by
  obtain ⟨h1, h2, κ, h3, h4, h5⟩ := h
  refine ⟨h1, by omega, κ, fun t a b => by have := h3 t a b; exact ⟨this.1, by omega, this.2.2⟩, h4, fun k a b c => ?_⟩
  by_cases q : k = K
  · rw [q] at c; exact absurd c hn
  · exact h5 k a (by omega) c
theorem gth_take {lf : Int → Prop} {R row row' : Int → Int} {K K' many many' p v : Int} (h : GTH lf R row K many) (hk : K' = K + 1) (k0 : 0 ≤ K) (hl : lf (R K)) (hm : many' = many + 1) (hs : st1 row row' p v) (hp : p = many) (hv : v = R K) : GTH lf R row' K' many' := by
  obtain ⟨h1, h2, κ, h3, h4, h5⟩ := h
  have ro : ∀ t, 0 ≤ t → t < many → row' t = row t := fun t a b => (hs t a).2 (by omega)
  have rn : row' many = R K := ((hs many h1).1 hp.symm).trans hv
  refine ⟨by omega, by omega, fun t => if t = many then K else κ t, fun t a b => ?_, fun t t' a b c => ?_, fun k a b c => ?_⟩
  · by_cases q : t = many
    · show 0 ≤ (if t = many then K else κ t) ∧ (if t = many then K else κ t) < K' ∧ row' t = R (if t = many then K else κ t) ∧ lf (R (if t = many then K else κ t))
      rw [if_pos q, q]; exact ⟨k0, by omega, rn, hl⟩
    · show 0 ≤ (if t = many then K else κ t) ∧ (if t = many then K else κ t) < K' ∧ row' t = R (if t = many then K else κ t) ∧ lf (R (if t = many then K else κ t))
      rw [if_neg q, ro t a (by omega)]
      have := h3 t a (by omega)
      exact ⟨this.1, by omega, this.2.2⟩
  · show (if t = many then K else κ t) < (if t' = many then K else κ t')
    rw [if_neg (by omega)]
    by_cases q : t' = many
    · rw [if_pos q]; exact (h3 t a (by omega)).2.1
    · rw [if_neg q]; exact h4 t t' a b (by omega)
  · by_cases q : k = K
    · exact ⟨many, h1, by omega, by show (if many = many then K else κ many) = k; rw [if_pos rfl]; exact q.symm⟩
    · obtain ⟨t, t0, t1, t2⟩ := h5 k a (by omega) c
      exact ⟨t, t0, by omega, by show (if t = many then K else κ t) = k; rw [if_neg (by omega)]; exact t2⟩
/-- one place on in the row of all is one place on in the row of those -/
theorem gth_next {lf : Int → Prop} {R row : Int → Int} {K many t k : Int} (h : GTH lf R row K many) (t0 : 0 ≤ t) (t1 : t < many) {κt : Int} (hk : row t = R κt) (k0 : 0 ≤ κt) (k1 : κt < K) (hi : ∀ a b, 0 ≤ a → a < K → 0 ≤ b → b < K → R a = R b → a = b) (hn : nr K κt = k) (hl : lf (R k)) : row ((t + 1) % many) = R k := by
  obtain ⟨h1, h2, κ, h3, h4, h5⟩ := h
  have e := h3 t t0 t1
  have ek : κ t = κt := hi _ _ e.1 e.2.1 k0 k1 (e.2.2.1.symm.trans hk)
  have kr := nr_rng k0 k1
  rw [hn] at kr
  obtain ⟨s, s0, s1, s2⟩ := h5 k kr.1 kr.2 hl
  have mono : ∀ a b, 0 ≤ a → a < many → 0 ≤ b → b < many → κ a < κ b → a < b := fun a b a0 a1 b0 b1 z => by
    rcases Int.lt_trichotomy a b with q | q | q
    · exact q
    · rw [q] at z; omega
    · have := h4 b a b0 q a1; omega
  have es : s = (t + 1) % many := by
    by_cases q : κt + 1 = K
    · rw [nr_eq q] at hn
      -- t is the last, s the first
      have hs0 : s = 0 := Classical.byContradiction (fun z => by have := h4 0 s (by omega) (by omega) s1; have := (h3 0 (by omega) (by omega)).1; omega)
      have ht1 : t + 1 = many := Classical.byContradiction (fun z => by have := h4 t (t + 1) t0 (by omega) (by omega); have := (h3 (t + 1) (by omega) (by omega)).2.1; omega)
      rw [ht1, hs0, Int.emod_self]
    · rw [nr_lt (by omega)] at hn
      have lt := mono t s t0 t1 s0 s1 (by omega)
      have : s = t + 1 := Classical.byContradiction (fun z => by
        have z1 := h4 t (t + 1) t0 (by omega) (by omega)
        have z2 := h4 (t + 1) s (by omega) (by omega) s1
        omega)
      rw [this, em_lt (by omega) (by omega)]
  rw [← es, (h3 s s0 s1).2.2.1, s2]
