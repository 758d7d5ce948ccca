/-! reveal: bounds -/
theorem rvp_len {n m upper p x k : Int} {pt ph al rm rot left U order : Int → Int} (h : RVP n m upper pt ph al rm rot left U order p x k) : (1 ≤ p ∧ p + 1 < upper ∧ upper ≤ 24) ∧ (0 ≤ x ∧ x < n ∧ n ≤ 24) ∧ 0 ≤ rm x ∧ rm x ≤ m := by
  obtain ⟨left0, order0, hS, ⟨p1, p2, p3⟩, _⟩ := h
  have hU := cns_line hS
  have hx := hU.2 p (by omega) (by omega)
  rw [p3] at hx
  have hr := rt_len hS.1.1.2.2 hS.1.1.1.2 hx.1 hx.2
  have := hS.1.2.2.2
  exact ⟨⟨p1, p2, hU.1.2⟩, ⟨hx.1, hx.2, by omega⟩, hr⟩
theorem rv1_len {n m upper p x l many at' K k : Int} {pt ph al rm rot left U order row : Int → Int} (h : RV1 n m upper pt ph al rm rot left U order row p x l many at' K k) : 0 ≤ many ∧ many ≤ K ∧ 0 ≤ K ∧ K ≤ rm x ∧ -1 ≤ at' ∧ (at' = -1 ∨ at' < many) := by
  obtain ⟨_, _, hG, hat, k0, k1⟩ := h
  have := hG.1
  have := hG.2.1
  omega
theorem rv_2 {n m upper p x l many at' K k : Int} {pt ph al rm rot left U order row : Int → Int} (h : RV1 n m upper pt ph al rm rot left U order row p x l many at' K k) (hK : rm x ≤ K) : (2 ≤ many ∧ 0 ≤ at' ∧ at' < many) ∧ upper + many ≤ 27 := by
  by_cases q : many = 2 ∨ row ((at' + 1) % many) ≠ U (p + 1)
  · have := rv_main (on := 1) h hK ⟨fun _ => q, fun _ => by omega⟩
    exact ⟨this.1, this.2.1.2.2.2⟩
  · have := rv_main (on := 0) h hK ⟨fun z => absurd rfl z, fun z => absurd z q⟩
    exact ⟨this.1, this.2.1.2.2.2⟩
theorem rv1_start {n m upper p x k l many at' K : Int} {pt ph al rm rot left U order row : Int → Int} (h : RVP n m upper pt ph al rm rot left U order p x k) (hl : l = U (p - 1)) (hm : many = 0) (ha : at' = -1) (hK : K = 0) : RV1 n m upper pt ph al rm rot left U order row p x l many at' K k :=
  ⟨h, hl, gth_0 hK hm, Or.inl ⟨ha, fun t a b => by omega⟩, by omega, by have := rvp_len h; omega⟩
theorem rv1_skip {n m upper p x l many at' K K' k y q : Int} {pt ph al rm rot left U order row : Int → Int} (h : RV1 n m upper pt ph al rm rot left U order row p x l many at' K k) (hK : K' = K + 1) (k1 : K < rm x) (hq : q = rt rot x K) (hy : ACR pt ph q x y) (hn : left y = 0) : RV1 n m upper pt ph al rm rot left U order row p x l many at' K' k := by
  obtain ⟨h1, h2, hG, hat, k0, _⟩ := h
  refine ⟨h1, h2, gth_skip hG hK (fun z => z.2 ?_), hat, by omega, by omega⟩
  show left (acr pt ph (rt rot x K) x) = 0
  rw [← hq, ← hy]; exact hn
theorem rv1_take {n m upper p x l many many' at' at2 K K' k y q s v : Int} {pt ph al rm rot left U order row row' : Int → Int} (h : RV1 n m upper pt ph al rm rot left U order row p x l many at' K k) (hK : K' = K + 1) (k1 : K < rm x) (hq : q = rt rot x K) (hy : ACR pt ph q x y) (hn : left y ≠ 0) (hs : st1 row row' s v) (hss : s = many) (hv : v = y) (hm : many' = many + 1) (ha : (y = l ∧ at2 = many) ∨ (y ≠ l ∧ at2 = at')) : RV1 n m upper pt ph al rm rot left U order row' p x l many' at2 K' k := by
  have hl := rvp_len h.1
  obtain ⟨h1, h2, hG, hat, k0, _⟩ := h
  have ey : acr pt ph (rt rot x K) x = y := by rw [← hq, ← hy]
  have y0 : 0 ≤ y ∧ y < n := by
    obtain ⟨left0, order0, hS, ⟨p1, p2, p3⟩, _⟩ := h1
    obtain ⟨z, j⟩ := (hS.1.1.2.2.1 x hl.2.1.1 hl.2.1.2.1).2.1 K k0 k1
    have := JJ_rng hS.1.1.1.1 j
    rw [acr_is (JJ_irr (al := al) hS.1.1.1.1 _ _ _ j) j] at ey
    omega
  have m0 := hG.1
  refine ⟨h1, h2, gth_take hG hK k0 ?_ hm hs hss (by rw [hv]; exact ey.symm), ?_, by omega, by omega⟩
  · show lfn n left (acr pt ph (rt rot x K) x)
    rw [ey]; exact ⟨y0, hn⟩
  · have ro : ∀ t, 0 ≤ t → t < many → row' t = row t := fun t a b => (hs t a).2 (by omega)
    have rn : row' many = y := ((hs many m0).1 hss.symm).trans hv
    rcases ha with ⟨a1, a2⟩ | ⟨a1, a2⟩
    · exact Or.inr ⟨by omega, by omega, by rw [a2, rn]; exact a1⟩
    · rcases hat with ⟨b1, b2⟩ | ⟨b1, b2, b3⟩
      · refine Or.inl ⟨by omega, fun t t0 t1 => ?_⟩
        by_cases z : t = many
        · rw [z, rn]; exact a1
        · rw [ro t t0 (by omega)]; exact b2 t t0 (by omega)
      · exact Or.inr ⟨by omega, by omega, by rw [a2, ro at' b1 b2]; exact b3⟩
theorem tm_wr {a many c : Int} (hm : 2 ≤ many) (h0 : -many < a) (h1 : a < 2 * many) (hc : c = Int.tmod (Int.tmod a many + many) many) : c = wr many a := by
  have w := wr_cases many a
  by_cases q : 0 ≤ a
  · have e1 : Int.tmod a many = a % many := Int.tmod_eq_emod_of_nonneg q
    have r := Int.emod_nonneg a (by omega : many ≠ 0)
    have r2 := Int.emod_lt_of_pos a (by omega : 0 < many)
    rw [e1, Int.tmod_eq_emod_of_nonneg (by omega), em_sub (by omega) (by omega), wr_mod q h1] at hc
    omega
  · have e1 : Int.tmod a many = a := by
      have : Int.tmod a many = -(Int.tmod (-a) many) := by rw [Int.neg_tmod]; omega
      rw [this, Int.tmod_eq_emod_of_nonneg (by omega), em_lt (by omega) (by omega)]; omega
    rw [e1, Int.tmod_eq_emod_of_nonneg (by omega), em_lt (by omega) (by omega)] at hc
    omega
theorem cpk_no {n m upper k place p p' z : Int} {pt ph al rm rot left U order : Int → Int} (h : CPK n m upper pt ph al rm rot left U order k place p) (hp : p' = p + 1) (hm : MLV m upper pt ph al U p z) (hz : z = 0) : CPK n m upper pt ph al rm rot left U order k place p' := by
  obtain ⟨h1, h2⟩ := h
  refine ⟨h1, ?_⟩
  rcases h2 with ⟨a, b⟩ | a
  · refine Or.inl ⟨a, fun q q0 q1 => ?_⟩
    by_cases e : q = p
    · rw [e]; exact fun w => hm.2 w hz
    · exact b q q0 (by omega)
  · exact Or.inr a
theorem cpk_keep {n m upper k place p p' : Int} {pt ph al rm rot left U order : Int → Int} (h : CPK n m upper pt ph al rm rot left U order k place p) (h0 : 0 ≤ place) : CPK n m upper pt ph al rm rot left U order k place p' := by
  obtain ⟨h1, h2⟩ := h
  refine ⟨h1, ?_⟩
  rcases h2 with ⟨a, b⟩ | a
  · omega
  · exact Or.inr a
theorem cpk_yes {n m upper k place p p' z : Int} {pt ph al rm rot left U order : Int → Int} (h : CPK n m upper pt ph al rm rot left U order k place p) (p0 : 1 ≤ p) (p1 : p + 1 < upper) (hm : MLV m upper pt ph al U p z) (hz : z ≠ 0) : CPK n m upper pt ph al rm rot left U order k p p' := ⟨h.1, Or.inr ⟨p0, p1, hm.1 hz⟩⟩
theorem cpk_bd {n m upper k place p : Int} {pt ph al rm rot left U order : Int → Int} (h : CPK n m upper pt ph al rm rot left U order k place p) : (3 ≤ upper ∧ upper ≤ 24) ∧ -1 ≤ place ∧ place + 1 < upper ∧ 2 ≤ k ∧ k < n ∧ n ≤ 24 := by
  have hl := cns_line h.1
  have hb := h.1.1.2.2.2
  have hk := h.1.2.1
  rcases h.2 with ⟨a, _⟩ | ⟨a, b, _⟩ <;> omega
theorem cnp_rng {n m u v w : Int} {pt ph al rm rot : Int → Int} (h : CNP n m pt ph al rm rot u v w) : (0 ≤ u ∧ u < n) ∧ (0 ≤ v ∧ v < n) ∧ (0 ≤ w ∧ w < n) ∧ 3 ≤ n ∧ n ≤ 24 := by
  obtain ⟨hB, d0, d1, d2, ⟨l0, l1, l2⟩, _, eu, ev, ew⟩ := h
  have a := JJ_rng hB.1.1.1 (dart_J (pt := pt) (ph := ph) l0)
  have b := JJ_rng hB.1.1.1 (dart_J (pt := pt) (ph := ph) l1)
  have c := JJ_rng hB.1.1.1 (dart_J (pt := pt) (ph := ph) l2)
  rw [← eu] at a
  rw [← ev] at b
  rw [← ew] at c
  have := hB.2.2.2
  omega
theorem sha_x {n m upper k x a : Int} {pt ph al U order : Int → Int} (h : SHA n m upper pt ph al U order k x a) : 0 ≤ x ∧ x < n := by
  obtain ⟨⟨_, k3, H, len, _, _, hh, _⟩, ⟨hk, hx⟩, _⟩ := h
  obtain ⟨⟨p, M, ⟨a1, a2, a3, a4⟩, b, _⟩, _, c⟩ := hh k (by omega) hk
  rw [hx, ← b]; exact c p (by omega) (by omega)
theorem sha_next {n m upper k x a a' : Int} {pt ph al U order : Int → Int} (h : SHA n m upper pt ph al U order k x a) (ha : a' = a + 1) (hn : ¬ jA m pt ph al x (U a)) : SHA n m upper pt ph al U order k x a' := by
  obtain ⟨h1, h2, h3, h4⟩ := h
  refine ⟨h1, h2, by omega, fun t t0 t1 => ?_⟩
  by_cases q : t = a
  · rw [q]; exact hn
  · exact h4 t t0 (by omega)
theorem shb_next {n m upper k x a b b' : Int} {pt ph al U order : Int → Int} (h : SHB n m upper pt ph al U order k x a b) (hb : b' = b - 1) (hn : ¬ jA m pt ph al x (U b)) : SHB n m upper pt ph al U order k x a b' := by
  obtain ⟨h1, h2, h3, h4, h5⟩ := h
  refine ⟨h1, h2, h3, by omega, fun t t0 t1 => ?_⟩
  by_cases q : t = b
  · rw [q]; exact hn
  · exact h5 t (by omega) t1
theorem sd1_start {n m upper k x a b q : Int} {pt ph al U order : Int → Int} (h : SHC n m upper pt ph al U order k x a b) (hg : b = a + 1) (hq : q = upper) : SD1 n m upper pt ph al U order k x a b q :=
  ⟨U, h, hg, by have := h.1.2.2.2.1; omega, by omega, fun _ _ _ => rfl, fun t a b => by omega⟩
theorem sd2_start {n m upper k x a b q : Int} {pt ph al U order : Int → Int} (h : SHC n m upper pt ph al U order k x a b) (hg : b ≠ a + 1) (hq : q = b) : SD2 n m upper pt ph al U order k x a b q :=
  ⟨U, h, by have := shb_bd h.1; omega, by omega, by have := h.1.2.2.2.1; omega, fun _ _ _ => rfl, fun t a b => by omega, fun _ _ _ => rfl⟩
theorem gr1_m {n m g : Int} {pt ph al rm rot : Int → Int} (h : GR1 n m pt ph al rm rot g) : m ≤ 71 ∧ 0 ≤ g := by
  have b := czb (rcN m pt ph al) (n := n) (by have := h.2.1; omega)
  have a := h.2.2
  unfold UNA unc at a
  omega
theorem gr1_start {r n m z g : Int} {A pt ph al bl rm rot : Int → Int} (h : PLN r n m A pt ph al) (hE : EMQ n m pt ph al bl rm rot z) (hz : z ≠ 0) (hn : 3 ≤ A r) (hg : g = 25) : GR1 n m pt ph al rm rot g := by
  obtain ⟨many, b, h1, h2, h3⟩ := hE hz
  have hg' := pln_gok h
  obtain ⟨p1, p2, p3, p4⟩ := h
  have := p1.1
  exact ⟨⟨⟨hg', by omega⟩, fun e a b => (p4 e a b).2.2, eml_rot.1 (eml_of h1 h2 h3)⟩, ⟨by omega, by omega⟩, una_start (by omega) (by omega) (by omega) hg⟩
theorem apn_2 {n m x y : Int} {pt ph al : Int → Int} (h : APN n m pt ph al x) (hx : 0 ≤ x) (k : APN n m pt ph al y) : 0 ≤ y ∧ y < n ∧ ¬ rc (jA m pt ph al) 0 y := by
  rcases k with ⟨_, c⟩ | c
  · rcases h with ⟨e, _⟩ | ⟨_, a, b⟩
    · omega
    · exact absurd (c x hx a) b
  · exact c
theorem apn_con {n m x : Int} {pt ph al : Int → Int} (h : APN n m pt ph al x) (hx : x < 0) : CON n m pt ph al := by
  rcases h with ⟨_, c⟩ | ⟨a, _⟩
  · exact c
  · omega
