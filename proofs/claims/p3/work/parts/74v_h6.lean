section
/-! reveal: bounds -/
theorem rvp_len {n m upper p x k : Int} {pt ph al rm rot left U order : Int → Int} (h : RVP n m upper pt ph al rm rot left U order p x k) : (1 ≤ p ∧ p + 1 < upper ∧ upper ≤ 24) ∧ (0 ≤ x ∧ x < n ∧ n ≤ 24) ∧ 0 ≤ rm x ∧ rm x ≤ m := by
  obtain ⟨left0, order0, hS, ⟨p1, p2, p3⟩, _⟩ := h
  have hU := cns_line hS
  have hx := hU.2 p (by omega) (by omega)
  rw [p3] at hx
  have hr := rt_len hS.1.1.2.2 hS.1.1.1.2 hx.1 hx.2
  have := hS.1.2.2.2
  exact ⟨⟨p1, p2, hU.1.2⟩, ⟨hx.1, hx.2, by omega⟩, hr⟩
theorem rv1_len {n m upper p x l many at_zq K k : Int} {pt ph al rm rot left U order row : Int → Int} (h : RV1 n m upper pt ph al rm rot left U order row p x l many at_zq K k) : 0 ≤ many ∧ many ≤ K ∧ 0 ≤ K ∧ K ≤ rm x ∧ -1 ≤ at_zq ∧ (at_zq = -1 ∨ at_zq < many) := by
  obtain ⟨_, _, hG, hat, k0, k1⟩ := h
  have := hG.1
  have := hG.2.1
  omega
theorem rv_2 {n m upper p x l many at_zq K k : Int} {pt ph al rm rot left U order row : Int → Int} (h : RV1 n m upper pt ph al rm rot left U order row p x l many at_zq K k) (hK : rm x ≤ K) : (2 ≤ many ∧ 0 ≤ at_zq ∧ at_zq < many) ∧ upper + many ≤ 27 := by
  by_cases q : many = 2 ∨ row ((at_zq + 1) % many) ≠ U (p + 1)
  · have := rv_main (on := 1) h hK ⟨fun _ => q, fun _ => by omega⟩
    exact ⟨this.1, this.2.1.2.2.2⟩
  · have := rv_main (on := 0) h hK ⟨fun z => absurd rfl z, fun z => absurd z q⟩
    exact ⟨this.1, this.2.1.2.2.2⟩
theorem rv1_start {n m upper p x k l many at_zq K : Int} {pt ph al rm rot left U order row : Int → Int} (h : RVP n m upper pt ph al rm rot left U order p x k) (hl : l = U (p - 1)) (hm : many = 0) (ha : at_zq = -1) (hK : K = 0) : RV1 n m upper pt ph al rm rot left U order row p x l many at_zq K k :=
  ⟨h, hl, gth_0 hK hm, Or.inl ⟨ha, fun t a b => by omega⟩, by omega, by have := rvp_len h; omega⟩
theorem rv1_skip {n m upper p x l many at_zq K K_zq k y q : Int} {pt ph al rm rot left U order row : Int → Int} (h : RV1 n m upper pt ph al rm rot left U order row p x l many at_zq K k) (hK : K_zq = K + 1) (k1 : K < rm x) (hq : q = rt rot x K) (hy : ACR pt ph q x y) (hn : left y = 0) : RV1 n m upper pt ph al rm rot left U order row p x l many at_zq K_zq k := by
  obtain ⟨h1, h2, hG, hat, k0, _⟩ := h
  refine ⟨h1, h2, gth_skip hG hK (fun z => z.2 ?_), hat, by omega, by omega⟩
  show left (acr pt ph (rt rot x K) x) = 0
  rw [← hq, ← hy]; exact hn
theorem rv1_take {n m upper p x l many many_zq at_zq at2 K K_zq k y q s v : Int} {pt ph al rm rot left U order row row_zq : Int → Int} (h : RV1 n m upper pt ph al rm rot left U order row p x l many at_zq K k) (hK : K_zq = K + 1) (k1 : K < rm x) (hq : q = rt rot x K) (hy : ACR pt ph q x y) (hn : left y ≠ 0) (hs : st1 row row_zq s v) (hss : s = many) (hv : v = y) (hm : many_zq = many + 1) (ha : (y = l ∧ at2 = many) ∨ (y ≠ l ∧ at2 = at_zq)) : RV1 n m upper pt ph al rm rot left U order row_zq p x l many_zq at2 K_zq k := by
  have hl := rvp_len h.1
  obtain ⟨h1, h2, hG, hat, k0, _⟩ := h
  have ey : acr pt ph (rt rot x K) x = y := by rw [← hq, ← hy]
  have y0 : 0 ≤ y ∧ y < n := by
    obtain ⟨left0, order0, hS, ⟨p1, p2, p3⟩, _⟩ := h1
    obtain ⟨z, j⟩ := (hS.1.1.2.2.1 x hl.2.1.1 hl.2.1.2.1).2.1 K k0 k1
    have := JJ_rng hS.1.1.1.1 j
    rw [acr_is (JJ_irr (al := al) hS.1.1.1.1 _ _ _ j) j] at ey
    omega
  have m0 := hG.1
  refine ⟨h1, h2, gth_take hG hK k0 ?_ hm hs hss (by rw [hv]; exact ey.symm), ?_, by omega, by omega⟩
  · show lfn n left (acr pt ph (rt rot x K) x)
    rw [ey]; exact ⟨y0, hn⟩
  · have ro : ∀ t, 0 ≤ t → t < many → row_zq t = row t := fun t a b => (hs t a).2 (by omega)
    have rn : row_zq many = y := ((hs many m0).1 hss.symm).trans hv
    rcases ha with ⟨a1, a2⟩ | ⟨a1, a2⟩
    · exact Or.inr ⟨by omega, by omega, by rw [a2, rn]; exact a1⟩
    · rcases hat with ⟨b1, b2⟩ | ⟨b1, b2, b3⟩
      · refine Or.inl ⟨by omega, fun t t0 t1 => ?_⟩
        by_cases z : t = many
        · rw [z, rn]; exact a1
        · rw [ro t t0 (by omega)]; exact b2 t t0 (by omega)
      · exact Or.inr ⟨by omega, by omega, by rw [a2, ro at_zq b1 b2]; exact b3⟩
theorem tm_wr {a many c : Int} (hm : 2 ≤ many) (h0 : -many < a) (h1 : a < 2 * many) (hc : c = Int.tmod (Int.tmod a many + many) many) : c = wr many a := by
  have w := wr_cases many a
  by_cases q : 0 ≤ a
  · have e1 : Int.tmod a many = a % many := Int.tmod_eq_emod_of_nonneg q
    have r := Int.emod_nonneg a (by omega : many ≠ 0)
    have r2 := Int.emod_lt_of_pos a (by omega : 0 < many)
    rw [e1, Int.tmod_eq_emod_of_nonneg (by omega), em_sub (by omega) (by omega), wr_mod q h1] at hc
    omega
  · have e1 : Int.tmod a many = a := by
      have : Int.tmod a many = -(Int.tmod (-a) many) := by rw [Int.neg_tmod]; omega
      rw [this, Int.tmod_eq_emod_of_nonneg (by omega), em_lt (by omega) (by omega)]; omega
    rw [e1, Int.tmod_eq_emod_of_nonneg (by omega), em_lt (by omega) (by omega)] at hc
    omega
theorem cpk_no {n m upper k place p p_zq z : Int} {pt ph al rm rot left U order : Int → Int} (h : CPK n m upper pt ph al rm rot left U order k place p) (hp : p_zq = p + 1) (hm : MLV m upper pt ph al U p z) (hz : z = 0) : CPK n m upper pt ph al rm rot left U order k place p_zq := by
  obtain ⟨h1, h2⟩ := h
  refine ⟨h1, ?_⟩
  rcases h2 with ⟨a, b⟩ | a
  · refine Or.inl ⟨a, fun q q0 q1 => ?_⟩
    by_cases e : q = p
    · rw [e]; exact fun w => hm.2 w hz
    · exact b q q0 (by omega)
  · exact Or.inr a
theorem cpk_keep {n m upper k place p p_zq : Int} {pt ph al rm rot left U order : Int → Int} (h : CPK n m upper pt ph al rm rot left U order k place p) (h0 : 0 ≤ place) : CPK n m upper pt ph al rm rot left U order k place p_zq := by
  obtain ⟨h1, h2⟩ := h
  refine ⟨h1, ?_⟩
  rcases h2 with ⟨a, b⟩ | a
  · omega
  · exact Or.inr a
theorem cpk_yes {n m upper k place p p_zq z : Int} {pt ph al rm rot left U order : Int → Int} (h : CPK n m upper pt ph al rm rot left U order k place p) (p0 : 1 ≤ p) (p1 : p + 1 < upper) (hm : MLV m upper pt ph al U p z) (hz : z ≠ 0) : CPK n m upper pt ph al rm rot left U order k p p_zq := ⟨h.1, Or.inr ⟨p0, p1, hm.1 hz⟩⟩
theorem cpk_bd {n m upper k place p : Int} {pt ph al rm rot left U order : Int → Int} (h : CPK n m upper pt ph al rm rot left U order k place p) : (3 ≤ upper ∧ upper ≤ 24) ∧ -1 ≤ place ∧ place + 1 < upper ∧ 2 ≤ k ∧ k < n ∧ n ≤ 24 := by
  have hl := cns_line h.1
  have hb := h.1.1.2.2.2
  have hk := h.1.2.1
  rcases h.2 with ⟨a, _⟩ | ⟨a, b, _⟩ <;> omega
theorem cnp_rng {n m u v w : Int} {pt ph al rm rot : Int → Int} (h : CNP n m pt ph al rm rot u v w) : (0 ≤ u ∧ u < n) ∧ (0 ≤ v ∧ v < n) ∧ (0 ≤ w ∧ w < n) ∧ 3 ≤ n ∧ n ≤ 24 := by
  obtain ⟨hB, d0, d1, d2, ⟨l0, l1, l2⟩, _, eu, ev, ew⟩ := h
  have a := JJ_rng hB.1.1.1 (dart_J (pt := pt) (ph := ph) l0)
  have b := JJ_rng hB.1.1.1 (dart_J (pt := pt) (ph := ph) l1)
  have c := JJ_rng hB.1.1.1 (dart_J (pt := pt) (ph := ph) l2)
  rw [← eu] at a
  rw [← ev] at b
  rw [← ew] at c
  have := hB.2.2.2
  omega
theorem sha_x {n m upper k x a : Int} {pt ph al U order : Int → Int} (h : SHA n m upper pt ph al U order k x a) : 0 ≤ x ∧ x < n := by
  obtain ⟨⟨_, k3, H, len, _, _, hh, _⟩, ⟨hk, hx⟩, _⟩ := h
  obtain ⟨⟨p, M, ⟨a1, a2, a3, a4⟩, b, _⟩, _, c⟩ := hh k (by omega) hk
  rw [hx, ← b]; exact c p (by omega) (by omega)
theorem sha_next {n m upper k x a a_zq : Int} {pt ph al U order : Int → Int} (h : SHA n m upper pt ph al U order k x a) (ha : a_zq = a + 1) (hn : ¬ jA m pt ph al x (U a)) : SHA n m upper pt ph al U order k x a_zq := by
  obtain ⟨h1, h2, h3, h4⟩ := h
  refine ⟨h1, h2, by omega, fun t t0 t1 => ?_⟩
  by_cases q : t = a
  · rw [q]; exact hn
  · exact h4 t t0 (by omega)
theorem shb_next {n m upper k x a b b_zq : Int} {pt ph al U order : Int → Int} (h : SHB n m upper pt ph al U order k x a b) (hb : b_zq = b - 1) (hn : ¬ jA m pt ph al x (U b)) : SHB n m upper pt ph al U order k x a b_zq := by
  obtain ⟨h1, h2, h3, h4, h5⟩ := h
  refine ⟨h1, h2, h3, by omega, fun t t0 t1 => ?_⟩
  by_cases q : t = b
  · rw [q]; exact hn
  · exact h5 t (by omega) t1
theorem sd1_start {n m upper k x a b q : Int} {pt ph al U order : Int → Int} (h : SHC n m upper pt ph al U order k x a b) (hg : b = a + 1) (hq : q = upper) : SD1 n m upper pt ph al U order k x a b q :=
  ⟨U, h, hg, by have := h.1.2.2.2.1; omega, by omega, fun _ _ _ => rfl, fun t a b => by omega⟩
theorem sd2_start {n m upper k x a b q : Int} {pt ph al U order : Int → Int} (h : SHC n m upper pt ph al U order k x a b) (hg : b ≠ a + 1) (hq : q = b) : SD2 n m upper pt ph al U order k x a b q :=
  ⟨U, h, by have := shb_bd h.1; omega, by omega, by have := h.1.2.2.2.1; omega, fun _ _ _ => rfl, fun t a b => by omega, fun _ _ _ => rfl⟩
theorem gr1_m {n m g : Int} {pt ph al rm rot : Int → Int} (h : GR1 n m pt ph al rm rot g) : m ≤ 71 ∧ 0 ≤ g := by
  have b := czb (rcN m pt ph al) (n := n) (by have := h.2.1; omega)
  have a := h.2.2
  unfold UNA unc at a
  omega
theorem gr1_start {r n m z g : Int} {A pt ph al bl rm rot : Int → Int} (h : PLN r n m A pt ph al) (hE : EMQ n m pt ph al bl rm rot z) (hz : z ≠ 0) (hn : 3 ≤ A r) (hg : g = 25) : GR1 n m pt ph al rm rot g := by
  obtain ⟨many, b, h1, h2, h3⟩ := hE hz
  have hg_zq := pln_gok h
  obtain ⟨p1, p2, p3, p4⟩ := h
  have := p1.1
  exact ⟨⟨⟨hg_zq, by omega⟩, fun e a b => (p4 e a b).2.2, eml_rot.1 (eml_of h1 h2 h3)⟩, ⟨by omega, by omega⟩, una_start (by omega) (by omega) (by omega) hg⟩
theorem apn_2 {n m x y : Int} {pt ph al : Int → Int} (h : APN n m pt ph al x) (hx : 0 ≤ x) (k : APN n m pt ph al y) : 0 ≤ y ∧ y < n ∧ ¬ rc (jA m pt ph al) 0 y := by
  rcases k with ⟨_, c⟩ | c
  · rcases h with ⟨e, _⟩ | ⟨_, a, b⟩
    · omega
    · exact absurd (c x hx a) b
  · exact c
theorem apn_con {n m x : Int} {pt ph al : Int → Int} (h : APN n m pt ph al x) (hx : x < 0) : CON n m pt ph al := by
  rcases h with ⟨_, c⟩ | ⟨a, _⟩
  · exact c
  · omega
end
section
/-! stOrder, insert -/
def STB (n m : Int) (pt ph al : Int → Int) : Prop := (GOK n m pt ph ∧ ALV m al ∧ 1 ≤ m ∧ m ≤ 48 ∧ 3 ≤ n ∧ n ≤ 24) ∧ (∃ bl, isBl (JJ m pt ph al) bl ∧ ∀ e f, 0 ≤ e → e < m → 0 ≤ f → f < m → bl e = bl f) ∧ ∀ i, 0 ≤ i → i < n → ∃ e x, JJ m pt ph al e i x
def STR (n R : Int) (pt ph row : Int → Int) : Prop := (2 ≤ R ∧ R ≤ n ∧ n ≤ 24) ∧ (∀ k, 0 ≤ k → k < R → 0 ≤ row k ∧ row k < n) ∧ (∀ k l, 0 ≤ k → k < l → l < R → row k ≠ row l) ∧ (∃ k, 0 ≤ k ∧ k < R ∧ row k = pt 0) ∧ ∃ k, 0 ≤ k ∧ k < R ∧ row k = ph 0
theorem str_start {n m R p v q w : Int} {pt ph al row row1 row2 : Int → Int} (h : STB n m pt ph al) (hR : R = 2) (hs : st1 row row1 p v) (hp : p = 0) (hv : v = pt 0) (ht : st1 row1 row2 q w) (hq : q = 1) (hw : w = ph 0) : STR n R pt ph row2 := by
  have g := h.1.1.1 0 (by omega) (by have := h.1.2.2.1; omega)
  have b := h.1.2.2
  have e0 : row2 0 = pt 0 := by rw [(ht 0 (by omega)).2 (by omega), (hs 0 (by omega)).1 hp.symm, hv]
  have e1 : row2 1 = ph 0 := by rw [(ht 1 (by omega)).1 hq.symm, hw]
  refine ⟨by omega, fun k a c => ?_, fun k l a c d => ?_, ⟨0, by omega, by omega, e0⟩, 1, by omega, by omega, e1⟩
  · rcases (by omega : k = 0 ∨ k = 1) with z | z <;> subst z
    · rw [e0]; omega
    · rw [e1]; omega
  · have : k = 0 := by omega
    have : l = 1 := by omega
    subst k; subst l
    rw [e0, e1]; exact g.2.2.2.2
def ZN (dn : Int → Int) (i : Int) : Prop := ∀ j, 0 ≤ j → j < i → dn j = 0
def DNK (n : Int) (dn row : Int → Int) (k : Int) : Prop := ∀ z, 0 ≤ z → z < n → (dn z ≠ 0 ↔ ∃ t, 0 ≤ t ∧ t < k ∧ row t = z)
theorem dnk_start {n i k : Int} {dn row : Int → Int} (h : ZN dn i) (hi : n ≤ i) (hk : k = 0) : DNK n dn row k := fun z a b => ⟨fun w => absurd (h z a (by omega)) w, fun ⟨t, t0, t1, _⟩ => by omega⟩
theorem dnk_step {n k k_zq p v : Int} {dn dn_zq row : Int → Int} (h : DNK n dn row k) (hk : k_zq = k + 1) (k0 : 0 ≤ k) (hs : st1 dn dn_zq p v) (hp : p = row k) (hv : v = 1) : DNK n dn_zq row k_zq := by
  intro z a b
  by_cases q : z = p
  · rw [(hs z a).1 q, hv]
    exact ⟨fun _ => ⟨k, k0, by omega, by omega⟩, fun _ => by omega⟩
  · rw [(hs z a).2 q, h z a b]
    constructor
    · rintro ⟨t, t0, t1, t2⟩; exact ⟨t, t0, by omega, t2⟩
    · rintro ⟨t, t0, t1, t2⟩
      refine ⟨t, t0, ?_, t2⟩
      have : t ≠ k := fun e => q (by rw [← t2, e]; exact hp.symm)
      omega
def DEK (pt ph dn dE : Int → Int) (i : Int) : Prop := ∀ e, 0 ≤ e → e < i → (dE e = 0 ↔ ¬ (dn (pt e) ≠ 0 ∧ dn (ph e) ≠ 0))
def DRR (n R : Int) (dn row : Int → Int) : Prop := DNK n dn row R
def DEM (m : Int) (pt ph dn dE : Int → Int) : Prop := DEK pt ph dn dE m
theorem dem_ua {n m : Int} {pt ph al dn dE : Int → Int} (h : STB n m pt ph al) : UA m al dE := fun e a b _ => h.1.2.1 e a b
/-- a way over new nodes between two that are drawn -/
def WYG (n : Int) (dn W : Int → Int) (L : Int) : Prop := (3 ≤ L ∧ L ≤ n) ∧ (dn (W 0) ≠ 0 ∧ dn (W (L - 1)) ≠ 0) ∧ (∀ k, 0 ≤ k → k < L → 0 ≤ W k ∧ W k < n) ∧ (∀ k l, 0 ≤ k → k < l → l < L → W k ≠ W l) ∧ ∀ k, 0 < k → k + 1 < L → dn (W k) = 0
def WYM (n wm : Int) (dn way : Int → Int) : Prop := WYG n dn way wm
theorem wyg_of {n m only wm a b nw : Int} {pt ph al dE po dn way : Int → Int} (hD : DEM m pt ph dn dE) (h : SHP n m only wm pt ph al dE po dn way a b nw) (hw : wm ≠ 0) (hab : a ≠ b) (ha : dn a ≠ 0) (hb : dn b ≠ 0) (hn : nw ≠ 0) : WYM n wm dn way := by
  rcases h with ⟨z, _⟩ | h
  · exact absurd z hw
  obtain ⟨w1, w2, w3, w4, w5, w6, w7, w8⟩ := h
  have n1 : wm ≠ 1 := fun z => by rw [z, show (1 : Int) - 1 = 0 by omega, w3] at w4; exact hab w4
  have n2 : wm ≠ 2 := fun z => by
    rw [z, show (2 : Int) - 1 = 1 by omega] at w4
    obtain ⟨e, j, g⟩ := w7 0 (by omega) (by omega)
    rw [w3, show (0 : Int) + 1 = 1 by omega, w4] at j
    have := (hD e j.1 j.2.1).1 g.1
    rcases j.2.2.2 with ⟨q1, q2⟩ | ⟨q1, q2⟩
    · rw [q1, q2] at this; exact this ⟨ha, hb⟩
    · rw [q1, q2] at this; exact this ⟨hb, ha⟩
  refine ⟨⟨by omega, w2⟩, ⟨by rw [w3]; exact ha, by rw [w4]; exact hb⟩, w5, w6, fun k k0 k1 => ?_⟩
  rcases w8 k k0 k1 with q | q
  · exact absurd q hn
  · exact q
/-- no way yet -/
def NOA (n m only : Int) (pt ph dE po dn : Int → Int) (a : Int) : Prop := only = -1 ∧ ∀ a_zq, 0 ≤ a_zq → a_zq < a → dn a_zq ≠ 0 → ∀ b, 0 ≤ b → b < n → b ≠ a_zq → dn b ≠ 0 → NOW n m only pt ph dE po dn a_zq b 1
def NOB (n m only : Int) (pt ph dE po dn : Int → Int) (a b : Int) : Prop := ∀ b_zq, 0 ≤ b_zq → b_zq < b → b_zq ≠ a → dn b_zq ≠ 0 → NOW n m only pt ph dE po dn a b_zq 1
def SA1 (n m only : Int) (pt ph dE po dn bw : Int → Int) (best a : Int) : Prop := (best = 0 ∧ NOA n m only pt ph dE po dn a) ∨ WYG n dn bw best
def SB1 (n m only : Int) (pt ph dE po dn bw : Int → Int) (best a b : Int) : Prop := (best = 0 ∧ NOA n m only pt ph dE po dn a ∧ NOB n m only pt ph dE po dn a b) ∨ WYG n dn bw best
def BC1 (n wm : Int) (dn way bw : Int → Int) (L k : Int) : Prop := WYG n dn way wm ∧ L = wm ∧ ∀ t, 0 ≤ t → t < k → bw t = way t
theorem ear_is {n m R only a : Int} {pt ph al dn dE po row : Int → Int} (hS : STB n m pt ph al) (hR : STR n R pt ph row) (hd : DRR n R dn row) (hD : DEM m pt ph dn dE) (hl : R < n) (hN : NOA n m only pt ph dE po dn a) (ha : n ≤ a) : False := by
  obtain ⟨⟨hg, hal, m1, m48, n3, n24⟩, ⟨bl, hB, h1⟩, hE⟩ := hS
  obtain ⟨ho, hN⟩ := hN
  subst ho
  -- a node that is not drawn
  have ex : ∃ z, 0 ≤ z ∧ z < n ∧ dn z = 0 := Classical.byContradiction (fun w => by
    have := rw_len (L := n) (M := R) (R := fun z => Classical.choose (p := fun t => (0 ≤ z ∧ z < n → 0 ≤ t ∧ t < R ∧ row t = z)) (by
      by_cases q : 0 ≤ z ∧ z < n
      · have nz : dn z ≠ 0 := fun e => w ⟨z, q.1, q.2, e⟩
        obtain ⟨t, t0, t1, t2⟩ := (hd z q.1 q.2).1 nz
        exact ⟨t, fun _ => ⟨t0, t1, t2⟩⟩
      · exact ⟨0, fun v => absurd v q⟩)) (by have := hR.1; omega) (fun z a b => by
        have c := Classical.choose_spec (p := fun t => (0 ≤ z ∧ z < n → 0 ≤ t ∧ t < R ∧ row t = z)) (by
          by_cases q : 0 ≤ z ∧ z < n
          · have nz : dn z ≠ 0 := fun e => w ⟨z, q.1, q.2, e⟩
            obtain ⟨t, t0, t1, t2⟩ := (hd z q.1 q.2).1 nz
            exact ⟨t, fun _ => ⟨t0, t1, t2⟩⟩
          · exact ⟨0, fun v => absurd v q⟩) ⟨a, b⟩
        exact ⟨c.1, c.2.1⟩) (fun y z a b c e => by
        have c1 := Classical.choose_spec (p := fun t => (0 ≤ y ∧ y < n → 0 ≤ t ∧ t < R ∧ row t = y)) (by
          by_cases q : 0 ≤ y ∧ y < n
          · have nz : dn y ≠ 0 := fun e => w ⟨y, q.1, q.2, e⟩
            obtain ⟨t, t0, t1, t2⟩ := (hd y q.1 q.2).1 nz
            exact ⟨t, fun _ => ⟨t0, t1, t2⟩⟩
          · exact ⟨0, fun v => absurd v q⟩) ⟨a, by omega⟩
        have c2 := Classical.choose_spec (p := fun t => (0 ≤ z ∧ z < n → 0 ≤ t ∧ t < R ∧ row t = z)) (by
          by_cases q : 0 ≤ z ∧ z < n
          · have nz : dn z ≠ 0 := fun e => w ⟨z, q.1, q.2, e⟩
            obtain ⟨t, t0, t1, t2⟩ := (hd z q.1 q.2).1 nz
            exact ⟨t, fun _ => ⟨t0, t1, t2⟩⟩
          · exact ⟨0, fun v => absurd v q⟩) ⟨by omega, c⟩
        have := c1.2.2
        have := c2.2.2
        rw [e] at c1
        omega)
    omega)
  obtain ⟨z, z0, z1, z2⟩ := ex
  obtain ⟨e1, z_zq, j1⟩ := hE z z0 z1
  have j0 : JJ m pt ph al 0 (pt 0) (ph 0) := ⟨by omega, by omega, hal 0 (by omega) (by omega), Or.inl ⟨rfl, rfl⟩⟩
  have g0 := hg.1 0 (by omega) (by omega)
  obtain ⟨_, _, _, ⟨k1, a1, a2, a3⟩, k2, b1, b2, b3⟩ := hR
  have d1 : dn (pt 0) ≠ 0 := (hd _ g0.1 g0.2.1).2 ⟨k1, a1, a2, a3⟩
  have d2 : dn (ph 0) ≠ 0 := (hd _ g0.2.2.1 g0.2.2.2.1).2 ⟨k2, b1, b2, b3⟩
  obtain ⟨p, q, npq, hp, hq, hL⟩ := ear_lem (D := fun w => 0 ≤ w ∧ w < n → dn w ≠ 0) JJ_sym JJ_uni (JJ_irr (al := al) hg) hB (fun e f u v u_zq v_zq k l => h1 e f k.1 k.2.1 l.1 l.2.1) j0 (fun _ => d1) (fun _ => d2) j1 (fun w => w ⟨z0, z1⟩ z2)
  -- p and q lie among the nodes, else their sets hold nothing
  by_cases pin : 0 ≤ p ∧ p < n
  · by_cases qin : 0 ≤ q ∧ q < n
    · obtain ⟨L, lb, la, cl⟩ := hN p pin.1 (by omega) (hp pin) q qin.1 qin.2 (fun e => npq e.symm) (hq qin)
      refine la (hL L (fun i j k hk nd hi hj Lj => ?_) lb)
      have r := JJ_rng hg hk
      refine cl i j r.1 r.2.1 r.2.2.1 r.2.2.2 ⟨k, hk.1, hk.2.1, ⟨(hD k hk.1 hk.2.1).2 (fun w => nd ?_), Or.inl (by omega)⟩, hk.2.2.2⟩ ⟨?_, ?_⟩ Lj
      · rcases hk.2.2.2 with ⟨q1, q2⟩ | ⟨q1, q2⟩
        · rw [q1, q2] at w; exact ⟨fun _ => w.1, fun _ => w.2⟩
        · rw [q1, q2] at w; exact ⟨fun _ => w.2, fun _ => w.1⟩
      · rcases hj with e | e
        · exact Or.inr (Or.inl e)
        · exact Or.inr (Or.inr (Classical.byContradiction (fun w => e (fun _ => w))))
      · rcases hi with e | e
        · exact Or.inr (Or.inl e)
        · exact Or.inr (Or.inr (Classical.byContradiction (fun w => e (fun _ => w))))
    · have := hL (fun w => w = q) (fun i j k hk _ _ _ e => by have r := JJ_rng hg hk; rw [e] at r; exact absurd ⟨r.2.2.1, r.2.2.2⟩ qin) rfl
      exact npq this
  · have := hL (fun w => w ≠ p) (fun i j k hk _ _ _ _ e => by have r := JJ_rng hg hk; rw [e] at r; exact absurd ⟨r.1, r.2.1⟩ pin) (fun e => npq e.symm)
    exact this rfl
end
section
/-! insert -/
def RPL (R : Int) (row : Int → Int) (x : Int) : Prop := ∃ k, 0 ≤ k ∧ k < R ∧ row k = x
def RP1 (row : Int → Int) (x k : Int) : Prop := ∀ j, 0 ≤ j → j < k → row j ≠ x
def RPQ (R : Int) (row : Int → Int) (x z : Int) : Prop := 0 ≤ z ∧ z < R ∧ row z = x
theorem rp_lt {R x k : Int} {row : Int → Int} (h : RPL R row x) (h1 : RP1 row x k) : k < R := by
  obtain ⟨j, j0, j1, j2⟩ := h
  exact Classical.byContradiction (fun z => h1 j j0 (by omega) j2)
theorem rp1_next {x k k_zq : Int} {row : Int → Int} (h : RP1 row x k) (hk : k_zq = k + 1) (hn : row k ≠ x) : RP1 row x k_zq := by
  intro j a b
  by_cases q : j = k
  · rw [q]; exact hn
  · exact h j a (by omega)
def INP (n R : Int) (pt ph dn row W : Int → Int) (L : Int) : Prop := STR n R pt ph row ∧ DRR n R dn row ∧ WYG n dn W L
def INQ (n R : Int) (pt ph dn row W : Int → Int) (L a b : Int) : Prop := INP n R pt ph dn row W L ∧ (0 ≤ a ∧ a < R ∧ row a = W 0) ∧ 0 ≤ b ∧ b < R ∧ row b = W (L - 1)
theorem inp_len {n R L : Int} {pt ph dn row W : Int → Int} (h : INP n R pt ph dn row W L) : 2 ≤ R ∧ 3 ≤ L ∧ R + (L - 2) ≤ n ∧ n ≤ 24 ∧ L ≤ n := by
  obtain ⟨hS, hd, ⟨l1, l2⟩, _, w2, w3, w4⟩ := h
  obtain ⟨⟨r1, r2, r3⟩, s1, s2, _⟩ := hS
  have := rw_len (L := R + (L - 2)) (M := n) (R := fun t => if t < R then row t else W (t - R + 1)) (by omega) (fun t a b => by
    show 0 ≤ (if t < R then row t else W (t - R + 1)) ∧ (if t < R then row t else W (t - R + 1)) < n
    split
    · next q => exact s1 t a q
    · exact w2 _ (by omega) (by omega)) (fun s t a b c => by
    show (if s < R then row s else W (s - R + 1)) ≠ (if t < R then row t else W (t - R + 1))
    by_cases qs : s < R <;> by_cases qt : t < R
    · rw [if_pos qs, if_pos qt]; exact s2 s t a b qt
    · rw [if_pos qs, if_neg qt]
      intro e
      have r := s1 s a qs
      have := (hd (row s) r.1 r.2).2 ⟨s, a, qs, rfl⟩
      rw [e] at this
      exact this (w4 _ (by omega) (by omega))
    · omega
    · rw [if_neg qs, if_neg qt]; exact w3 _ _ (by omega) (by omega) (by omega))
  omega
theorem inp_end {n R L : Int} {pt ph dn row W : Int → Int} (h : INP n R pt ph dn row W L) (i : Int) (hi : i = 0 ∨ i = L - 1) : RPL R row (W i) := by
  obtain ⟨hS, hd, ⟨l1, l2⟩, ⟨e1, e2⟩, w2, _⟩ := h
  rcases hi with z | z
  · subst z
    have r := w2 0 (by omega) (by omega)
    obtain ⟨t, t0, t1, t2⟩ := (hd _ r.1 r.2).1 e1
    exact ⟨t, t0, t1, t2⟩
  · subst z
    have r := w2 (L - 1) (by omega) (by omega)
    obtain ⟨t, t0, t1, t2⟩ := (hd _ r.1 r.2).1 e2
    exact ⟨t, t0, t1, t2⟩
def frm (a b : Int) : Int := if a < b then a + 1 else a
def IN1 (n R : Int) (pt ph dn row W : Int → Int) (L a b fr k : Int) : Prop := ∃ row0, INQ n R pt ph dn row0 W L a b ∧ fr = frm a b ∧ fr - 1 ≤ k ∧ k ≤ R - 1 ∧ (∀ t, 0 ≤ t → t ≤ k → row t = row0 t) ∧ ∀ t, k < t → t < R → row (t + (L - 2)) = row0 t
def IN2 (n R : Int) (pt ph dn row W : Int → Int) (L a b fr k : Int) : Prop := ∃ row0, INQ n R pt ph dn row0 W L a b ∧ fr = frm a b ∧ 0 ≤ k ∧ k ≤ L - 2 ∧ (∀ t, 0 ≤ t → t < fr → row t = row0 t) ∧ (∀ t, fr ≤ t → t < R → row (t + (L - 2)) = row0 t) ∧ ∀ j, 0 ≤ j → j < k → row (fr + j) = W (if a < b then 1 + j else L - 2 - j)
theorem frm_rng {R a b : Int} (a0 : 0 ≤ a) (a1 : a < R) (b1 : b < R) : 0 ≤ frm a b ∧ frm a b ≤ R - 1 := by unfold frm; split <;> omega
theorem in1_len {n R L a b fr k : Int} {pt ph dn row W : Int → Int} (h : IN1 n R pt ph dn row W L a b fr k) : (2 ≤ R ∧ 3 ≤ L ∧ R + (L - 2) ≤ n ∧ n ≤ 24) ∧ 0 ≤ fr ∧ fr ≤ R - 1 ∧ fr - 1 ≤ k ∧ k ≤ R - 1 := by
  obtain ⟨row0, h1, h2, h3, h4, _⟩ := h
  have a1 := inp_len h1.1
  have f := frm_rng (R := R) (a := a) (b := b) h1.2.1.1 h1.2.1.2.1 h1.2.2.2.1
  omega
theorem in1_step {n R L a b fr k k_zq s v r : Int} {pt ph dn row row_zq W : Int → Int} (h : IN1 n R pt ph dn row W L a b fr k) (hk : k_zq = k - 1) (k1 : fr ≤ k) (hs : st1 row row_zq s v) (hss : s = k + (L - 2)) (hv : v = row r) (hr : r = k) : IN1 n R pt ph dn row_zq W L a b fr k_zq := by
  have hl := in1_len h
  obtain ⟨row0, h1, h2, h3, h4, h5, h6⟩ := h
  refine ⟨row0, h1, h2, by omega, by omega, fun t t0 t1 => by rw [(hs t t0).2 (by omega)]; exact h5 t t0 (by omega), fun t t0 t1 => ?_⟩
  by_cases z : t = k
  · rw [z, (hs _ (by omega)).1 (by omega), hv, hr]; exact h5 k (by omega) (by omega)
  · rw [(hs _ (by omega)).2 (by omega)]; exact h6 t (by omega) t1
theorem in2_start {n R L a b fr k i : Int} {pt ph dn row W : Int → Int} (h : IN1 n R pt ph dn row W L a b fr k) (hk : k < fr) (hi : i = 0) : IN2 n R pt ph dn row W L a b fr i := by
  have hl := in1_len h
  obtain ⟨row0, h1, h2, h3, h4, h5, h6⟩ := h
  exact ⟨row0, h1, h2, by omega, by omega, fun t t0 t1 => h5 t t0 (by omega), fun t t0 t1 => h6 t (by omega) t1, fun j j0 j1 => by omega⟩
theorem in2_len {n R L a b fr k : Int} {pt ph dn row W : Int → Int} (h : IN2 n R pt ph dn row W L a b fr k) : (2 ≤ R ∧ 3 ≤ L ∧ R + (L - 2) ≤ n ∧ n ≤ 24) ∧ 0 ≤ fr ∧ fr ≤ R - 1 ∧ 0 ≤ k ∧ k ≤ L - 2 := by
  obtain ⟨row0, h1, h2, h3, h4, _⟩ := h
  have a1 := inp_len h1.1
  have f := frm_rng (R := R) (a := a) (b := b) h1.2.1.1 h1.2.1.2.1 h1.2.2.2.1
  omega
theorem in2_W {n R L a b fr k t : Int} {pt ph dn row W : Int → Int} (h : IN2 n R pt ph dn row W L a b fr k) (t0 : 0 ≤ t) (t1 : t < L) : 0 ≤ W t ∧ W t < n := by
  obtain ⟨row0, h1, _⟩ := h
  exact h1.1.2.2.2.2.1 t t0 t1
theorem in2_step {n R L a b fr k k_zq s v r : Int} {pt ph dn row row_zq W : Int → Int} (h : IN2 n R pt ph dn row W L a b fr k) (hk : k_zq = k + 1) (k1 : k < L - 2) (hs : st1 row row_zq s v) (hss : s = fr + k) (hv : v = W r) (hr : (a < b ∧ r = 1 + k) ∨ (b ≤ a ∧ r = L - 2 - k)) : IN2 n R pt ph dn row_zq W L a b fr k_zq := by
  have hl := in2_len h
  obtain ⟨row0, h1, h2, h3, h4, h5, h6, h7⟩ := h
  refine ⟨row0, h1, h2, by omega, by omega, fun t t0 t1 => by rw [(hs t t0).2 (by omega)]; exact h5 t t0 t1, fun t t0 t1 => by rw [(hs _ (by omega)).2 (by omega)]; exact h6 t t0 t1, fun j j0 j1 => ?_⟩
  by_cases z : j = k
  · rw [z, (hs _ (by omega)).1 (by omega), hv]
    rcases hr with ⟨q, e⟩ | ⟨q, e⟩
    · rw [if_pos q, e]
    · rw [if_neg (by omega), e]
  · rw [(hs _ (by omega)).2 (by omega)]; exact h7 j j0 (by omega)
theorem in2_end {n R R_zq L a b fr k : Int} {pt ph dn row W : Int → Int} (h : IN2 n R pt ph dn row W L a b fr k) (hk : L - 2 ≤ k) (hR : R_zq = R + (L - 2)) : STR n R_zq pt ph row := by
  have hl := in2_len h
  obtain ⟨row0, ⟨⟨hS, hd, ⟨l1, l2⟩, _, w2, w3, w4⟩, _, _⟩, h2, h3, h4, h5, h6, h7⟩ := h
  obtain ⟨⟨r1, r2, r3⟩, s1, s2, ⟨k1, c0, c1, c2⟩, k2, e0, e1, e2⟩ := hS
  -- every place: an old one, or one of the way
  have cls : ∀ t, 0 ≤ t → t < R_zq → (∃ o, 0 ≤ o ∧ o < R ∧ row t = row0 o ∧ ((t < fr ∧ o = t) ∨ (fr + (L - 2) ≤ t ∧ o = t - (L - 2)))) ∨ (∃ i, 0 < i ∧ i + 1 < L ∧ row t = W i ∧ fr ≤ t ∧ t < fr + (L - 2) ∧ (i = 1 + (t - fr) ∧ a < b ∨ i = L - 2 - (t - fr) ∧ ¬ a < b)) := fun t t0 t1 => by
    by_cases q : t < fr
    · exact Or.inl ⟨t, t0, by omega, h5 t t0 q, Or.inl ⟨q, rfl⟩⟩
    · by_cases q2 : t < fr + (L - 2)
      · right
        have := h7 (t - fr) (by omega) (by omega)
        rw [show fr + (t - fr) = t by omega] at this
        by_cases w : a < b
        · rw [if_pos w] at this; exact ⟨1 + (t - fr), by omega, by omega, this, by omega, q2, Or.inl ⟨rfl, w⟩⟩
        · rw [if_neg w] at this; exact ⟨L - 2 - (t - fr), by omega, by omega, this, by omega, q2, Or.inr ⟨rfl, w⟩⟩
      · left
        have := h6 (t - (L - 2)) (by omega) (by omega)
        rw [show t - (L - 2) + (L - 2) = t by omega] at this
        exact ⟨t - (L - 2), by omega, by omega, this, Or.inr ⟨by omega, rfl⟩⟩
  have pl : ∀ o, 0 ≤ o → o < R → ∃ t, 0 ≤ t ∧ t < R_zq ∧ row t = row0 o := fun o o0 o1 => by
    by_cases q : o < fr
    · exact ⟨o, o0, by omega, h5 o o0 q⟩
    · exact ⟨o + (L - 2), by omega, by omega, h6 o (by omega) o1⟩
  have mix : ∀ o i, 0 ≤ o → o < R → 0 < i → i + 1 < L → row0 o ≠ W i := fun o i o0 o1 i0 i1 e => by
    have r := s1 o o0 o1
    have := (hd _ r.1 r.2).2 ⟨o, o0, o1, rfl⟩
    rw [e] at this
    exact this (w4 i i0 i1)
  refine ⟨⟨by omega, by omega, r3⟩, fun t t0 t1 => ?_, fun s t s0 st t1 e => ?_, ?_, ?_⟩
  · rcases cls t t0 t1 with ⟨o, o0, o1, e, _⟩ | ⟨i, i0, i1, e, _⟩
    · rw [e]; exact s1 o o0 o1
    · rw [e]; exact w2 i (by omega) (by omega)
  · rcases cls s s0 (by omega) with ⟨o, o0, o1, x, xo⟩ | ⟨i, i0, i1, x, x1, x2, xo⟩ <;> rcases cls t (by omega) t1 with ⟨p, p0, p1, y, yo⟩ | ⟨j, j0, j1, y, y1, y2, yo⟩
    · rw [x, y] at e; exact s2 o p o0 (by omega) p1 e
    · rw [x, y] at e; exact mix o j o0 o1 j0 j1 e
    · rw [x, y] at e; exact mix p i p0 p1 i0 i1 e.symm
    · rw [x, y] at e
      rcases Int.lt_trichotomy i j with q | q | q
      · exact w3 i j (by omega) q (by omega) e
      · omega
      · exact w3 j i (by omega) q (by omega) e.symm
  · obtain ⟨t, t0, t1, t2⟩ := pl k1 c0 c1
    exact ⟨t, t0, t1, by rw [t2]; exact c2⟩
  · obtain ⟨t, t0, t1, t2⟩ := pl k2 e0 e1
    exact ⟨t, t0, t1, by rw [t2]; exact e2⟩
/-! bars -/
theorem stb_con {n m : Int} {pt ph al : Int → Int} (h : STB n m pt ph al) : CON n m pt ph al := by
  obtain ⟨⟨hg, hal, m1, m48, n3, n24⟩, ⟨bl, hB, h1⟩, hE⟩ := h
  have sy : ∀ u v, jA m pt ph al u v → jA m pt ph al v u := fun u v ⟨e, j⟩ => ⟨e, JJ_sym _ _ _ j⟩
  have key : ∀ e f, (∃ u v, JJ m pt ph al e u v) → (∃ u v, JJ m pt ph al f u v) → (∃ u v, JJ m pt ph al e u v ∧ rc (jA m pt ph al) 0 u) → ∃ u v, JJ m pt ph al f u v ∧ rc (jA m pt ph al) 0 u := fun e f he hf => by
    obtain ⟨u, v, j⟩ := he
    obtain ⟨u_zq, v_zq, j_zq⟩ := hf
    exact hB.2 (fun e => ∃ u v, JJ m pt ph al e u v ∧ rc (jA m pt ph al) 0 u) (fun e f ⟨w, x, y, a, b, c⟩ ⟨p, q, jp, rp⟩ => by
      have rw_zq : rc (jA m pt ph al) 0 w := by
        rcases JJ_uni _ _ _ _ _ a jp with ⟨z1, z2⟩ | ⟨z1, z2⟩
        · rw [← z1]; exact rp
        · rw [z1] at rp; exact rc_trans rp (rc_step ⟨e, JJ_sym _ _ _ a⟩)
      exact ⟨w, y, b, rw_zq⟩) e f ⟨u, v, j⟩ ⟨u_zq, v_zq, j_zq⟩ (h1 e f j.1 j.2.1 j_zq.1 j_zq.2.1)
  intro y y0 y1
  obtain ⟨e0, x0, j0⟩ := hE 0 (by omega) (by omega)
  obtain ⟨e, x, j⟩ := hE y y0 y1
  obtain ⟨u, v, jv, rv⟩ := key e0 e ⟨0, x0, j0⟩ ⟨y, x, j⟩ ⟨0, x0, j0, rc_refl _ _⟩
  rcases JJ_uni _ _ _ _ _ j jv with ⟨z1, z2⟩ | ⟨z1, z2⟩
  · rw [← z1]; exact rv
  · rw [z1] at rv; exact rc_trans rv (rc_step ⟨e, JJ_sym _ _ _ j⟩)
def RMN (rm : Int → Int) (i : Int) : Prop := ∀ j, 0 ≤ j → j < i → rm j ≠ 0
theorem stb_of {r n m z many i : Int} {A pt ph al bl bl_zq rm rot : Int → Int} (h : PLN r n m A pt ph al) (hE : EMQ n m pt ph al bl_zq rm rot z) (hz : z ≠ 0) (hB : BK m pt ph al bl many) (hm : many = 1) (hr : RMN rm i) (hi : n ≤ i) (hn : 3 ≤ n) : STB n m pt ph al ∧ GRI n m pt ph al rm rot := by
  obtain ⟨mm, b, h1, h2, h3⟩ := hE hz
  have hg_zq := pln_gok h
  obtain ⟨p1, p2, p3, p4⟩ := h
  have q := p1.1
  have hR := eml_rot.1 (eml_of h1 h2 h3)
  have hx : ∀ i, 0 ≤ i → i < n → ∃ e x, JJ m pt ph al e i x := fun j a c => by
    obtain ⟨r1, r2, _⟩ := hR.1 j a c
    have := hr j a (by omega)
    obtain ⟨x, k⟩ := r2 0 (by omega) (by omega)
    exact ⟨_, x, k⟩
  obtain ⟨e0, x0, j0⟩ := hx 0 (by omega) (by omega)
  have j1 := j0.1
  have j2 := j0.2.1
  exact ⟨⟨⟨hg_zq, fun e a b => (p4 e a b).2.2, by omega, by omega, hn, by omega⟩, ⟨bl, hB.1, fun e f a b c d => by
    have x := (hB.2.2.1 e a b).1 (p4 e a b).2.2
    have y := (hB.2.2.1 f c d).1 (p4 f c d).2.2
    omega⟩, hx⟩, ⟨hg_zq, by omega⟩, fun e a b => (p4 e a b).2.2, hR⟩
def BRB (n m R : Int) (pt ph al rm rot ro rb rd : Int → Int) : Prop := STB n m pt ph al ∧ GRI n m pt ph al rm rot ∧ GRD m R pt ph al rm rot ro rb rd
theorem brb_R {n m R : Int} {pt ph al rm rot ro rb rd : Int → Int} (h : BRB n m R pt ph al rm rot ro rb rd) : 0 ≤ R ∧ R ≤ 32 ∧ 1 ≤ m ∧ m ≤ 48 ∧ 3 ≤ n ∧ n ≤ 24 := by
  have := rnd_many h.2.1 (stb_con h.1) h.1.1.2.2.2.2.1 h.2.2
  have := h.1.1.2.2
  have := h.2.2.1.1
  omega
theorem brb_ro {n m R d : Int} {pt ph al rm rot ro rb rd : Int → Int} (h : BRB n m R pt ph al rm rot ro rb rd) (d0 : 0 ≤ d) (d1 : d < 2 * m) : 0 ≤ ro d ∧ ro d < R := by
  have := h.2.2.2.2 d ⟨d0, d1, h.1.1.2.1 _ (by omega) (by omega)⟩
  exact ⟨this.1, this.2.1⟩
theorem xor_1 {z d : Int} (h : bvp z = bvp d ^^^ bvp 1) (d0 : 0 ≤ d) (d1 : d ≤ 159) (z0 : 0 ≤ z) (z1 : z ≤ 1000) : z / 2 = d / 2 := by
  have e := congrArg BitVec.toNat h
  rw [BitVec.toNat_xor] at e
  have t : ∀ x : Int, 0 ≤ x → x ≤ 1000 → (bvp x).toNat = x.toNat := fun x a b => by
    unfold bvp
    rw [BitVec.toNat_ofInt]
    have : ((x % (2 ^ 32 : Nat)) : Int) = x := Int.emod_eq_of_lt a (by omega)
    rw [this]
  rw [t z z0 z1, t d d0 (by omega), t 1 (by omega) (by omega)] at e
  have f := congrArg (· / 2) e
  have f_zq : z.toNat / 2 = (d.toNat ^^^ (1 : Int).toNat) / 2 := f
  rw [Nat.xor_div_two] at f_zq
  have g : (1 : Int).toNat / 2 = 0 := rfl
  rw [g, Nat.xor_zero] at f_zq
  omega
def LNB (R : Int) (line : Int → Int) (c : Int) : Prop := ∀ f, 0 ≤ f → f < R → -1000000 ≤ line f ∧ line f ≤ c
def BRP (r n m : Int) (A pt ph al rm rot bl : Int → Int) : Prop := (PLN r n m A pt ph al ∧ 3 ≤ n) ∧ GRI n m pt ph al rm rot ∧ BK m pt ph al bl 1
theorem brp_of {r n m many : Int} {A pt ph al bl rm rot : Int → Int} (h : PLN r n m A pt ph al) (hE : EML n m pt ph al rm rot) (hB : BK m pt ph al bl many) (hm : many = 1) (hn : 3 ≤ n) : BRP r n m A pt ph al rm rot bl := by
  have q := h.1.1
  have p3 := h.2.2.1
  subst hm
  exact ⟨⟨h, hn⟩, ⟨⟨pln_gok h, by omega⟩, fun e a b => (h.2.2.2 e a b).2.2, eml_rot.1 hE⟩, hB⟩
def LN0 (line : Int → Int) (i : Int) : Prop := ∀ f, 0 ≤ f → f < i → -1000000 ≤ line f ∧ line f ≤ 0
theorem ln0_step {i i_zq p v : Int} {line line_zq : Int → Int} (h : LN0 line i) (hi : i_zq = i + 1) (hs : st1 line line_zq p v) (hp : p = i) (h0 : -1000000 ≤ v) (h1 : v ≤ 0) : LN0 line_zq i_zq := by
  intro f a b
  by_cases q : f = i
  · rw [(hs f a).1 (by omega)]; omega
  · rw [(hs f a).2 (by omega)]; exact h f a (by omega)
theorem brp_stb {r n m i : Int} {A pt ph al bl rm rot : Int → Int} (h : BRP r n m A pt ph al rm rot bl) (hr : RMN rm i) (hi : n ≤ i) : STB n m pt ph al := by
  obtain ⟨⟨hP, hn⟩, hG, hB⟩ := h
  have hg_zq := pln_gok hP
  obtain ⟨p1, p2, p3, p4⟩ := hP
  have q := p1.1
  have hx : ∀ i, 0 ≤ i → i < n → ∃ e x, JJ m pt ph al e i x := fun j a c => by
    obtain ⟨r1, r2, _⟩ := hG.2.2.1 j a c
    have := hr j a (by omega)
    obtain ⟨x, k⟩ := r2 0 (by omega) (by omega)
    exact ⟨_, x, k⟩
  obtain ⟨e0, x0, j0⟩ := hx 0 (by omega) (by omega)
  have j1 := j0.1
  have j2 := j0.2.1
  exact ⟨⟨hg_zq, hG.2.1, by omega, by omega, hn, by omega⟩, ⟨bl, hB.1, fun e f a b c d => by
    have x := (hB.2.2.1 e a b).1 (p4 e a b).2.2
    have y := (hB.2.2.1 f c d).1 (p4 f c d).2.2
    omega⟩, hx⟩
def LNR (R : Int) (line : Int → Int) (i : Int) : Prop := LNB R line (100 * i)
def LNE (R : Int) (line : Int → Int) (i e : Int) : Prop := LNB R line (100 * i + e)
theorem lnb_step {R c c_zq p v : Int} {line line_zq : Int → Int} (h : LNB R line c) (hc : c ≤ c_zq) (hs : st1 line line_zq p v) (h0 : -1000000 ≤ v) (h1 : v ≤ c_zq) : LNB R line_zq c_zq := by
  intro f a b
  by_cases q : f = p
  · rw [(hs f a).1 q]; omega
  · rw [(hs f a).2 q]; have := h f a b; omega
theorem lnb_le {R c c_zq : Int} {line : Int → Int} (h : LNB R line c) (hc : c ≤ c_zq) : LNB R line c_zq := fun f a b => by have := h f a b; omega
end
section
/-! stOrder: its loops -/
theorem sa_0 {n m only best a : Int} {pt ph dE po dn bw : Int → Int} (ho : only = -1) (hb : best = 0) (ha : a = 0) : SA1 n m only pt ph dE po dn bw best a := Or.inl ⟨hb, ho, fun a_zq x y => by omega⟩
theorem sa_skip {n m only best a a_zq : Int} {pt ph dE po dn bw : Int → Int} (h : SA1 n m only pt ph dE po dn bw best a) (ha : a_zq = a + 1) (hd : dn a = 0) : SA1 n m only pt ph dE po dn bw best a_zq := by
  rcases h with ⟨b, ho, c⟩ | b
  · refine Or.inl ⟨b, ho, fun x x0 x1 hx => ?_⟩
    have : x ≠ a := fun e => hx (by rw [e]; exact hd)
    exact c x x0 (by omega) hx
  · exact Or.inr b
theorem sb_0 {n m only best a b : Int} {pt ph dE po dn bw : Int → Int} (h : SA1 n m only pt ph dE po dn bw best a) (hb : b = 0) : SB1 n m only pt ph dE po dn bw best a b := by
  rcases h with ⟨x, y⟩ | x
  · exact Or.inl ⟨x, y, fun b_zq p q => by omega⟩
  · exact Or.inr x
theorem sb_skip {n m only best a b b_zq : Int} {pt ph dE po dn bw : Int → Int} (h : SB1 n m only pt ph dE po dn bw best a b) (hb : b_zq = b + 1) (hs : b = a ∨ dn b = 0) : SB1 n m only pt ph dE po dn bw best a b_zq := by
  rcases h with ⟨x, y, z⟩ | x
  · refine Or.inl ⟨x, y, fun q q0 q1 q2 q3 => ?_⟩
    have : q ≠ b := fun e => by
      rcases hs with w | w
      · exact q2 (by omega)
      · exact q3 (by rw [e]; exact w)
    exact z q q0 (by omega) q2 q3
  · exact Or.inr x
theorem sb_now {n m only wm best a b b_zq nw : Int} {pt ph al dE po dn way bw : Int → Int} (h : SB1 n m only pt ph dE po dn bw best a b) (hb : b_zq = b + 1) (hS : SHP n m only wm pt ph al dE po dn way a b nw) (hw : wm = 0) (hn : nw = 1) : SB1 n m only pt ph dE po dn bw best a b_zq := by
  rcases h with ⟨x, y, z⟩ | x
  · refine Or.inl ⟨x, y, fun q q0 q1 q2 q3 => ?_⟩
    by_cases e : q = b
    · rw [e, ← hn]
      rcases hS with ⟨_, w⟩ | w
      · exact w
      · have := w.1; omega
    · exact z q q0 (by omega) q2 q3
  · exact Or.inr x
theorem sb_way {n m only best a b : Int} {pt ph dE po dn bw : Int → Int} (h : SB1 n m only pt ph dE po dn bw best a b) (hb : best ≠ 0) : WYG n dn bw best := by
  rcases h with ⟨x, _⟩ | x
  · exact absurd x hb
  · exact x
theorem sb_any {n m only best a b b_zq : Int} {pt ph dE po dn bw : Int → Int} (h : SB1 n m only pt ph dE po dn bw best a b) (hb : best ≠ 0) : SB1 n m only pt ph dE po dn bw best a b_zq := Or.inr (sb_way h hb)
theorem bc_way {n wm L k : Int} {dn way bw : Int → Int} (h : BC1 n wm dn way bw L k) (hk : L ≤ k) : WYG n dn bw L := by
  obtain ⟨⟨a, ⟨b1, b2⟩, c, d, e⟩, hL, f⟩ := h
  subst hL
  refine ⟨a, ⟨by rw [f 0 (by omega) (by omega)]; exact b1, by rw [f (L - 1) (by omega) (by omega)]; exact b2⟩, fun t t0 t1 => by rw [f t t0 (by omega)]; exact c t t0 t1, fun s t s0 st t1 => by rw [f s s0 (by omega), f t (by omega) (by omega)]; exact d s t s0 st t1, fun t t0 t1 => by rw [f t (by omega) (by omega)]; exact e t t0 t1⟩
theorem bc_step {n wm L k k_zq p v r : Int} {dn way bw bw_zq : Int → Int} (h : BC1 n wm dn way bw L k) (hk : k_zq = k + 1) (hs : st1 bw bw_zq p v) (hp : p = k) (hv : v = way r) (hr : r = k) : BC1 n wm dn way bw_zq L k_zq := by
  refine ⟨h.1, h.2.1, fun t t0 t1 => ?_⟩
  by_cases q : t = k
  · rw [q, (hs k (by omega)).1 hp.symm, hv, hr]
  · rw [(hs t t0).2 (by omega)]; exact h.2.2 t t0 (by omega)
theorem bc_len {n wm L k : Int} {dn way bw : Int → Int} (h : BC1 n wm dn way bw L k) : 3 ≤ L ∧ L ≤ n ∧ L = wm := by
  have := h.1.1
  have := h.2.1
  omega
theorem sa_next {n m only best a a_zq b : Int} {pt ph dE po dn bw : Int → Int} (h : SB1 n m only pt ph dE po dn bw best a b) (ha : a_zq = a + 1) (hb : n ≤ b) : SA1 n m only pt ph dE po dn bw best a_zq := by
  rcases h with ⟨x, ⟨ho, y⟩, z⟩ | x
  · refine Or.inl ⟨x, ho, fun q q0 q1 q2 => ?_⟩
    by_cases e : q = a
    · intro t t0 t1 t2 t3; rw [e] at t2 ⊢; exact z t t0 (by omega) t2 t3
    · exact y q q0 (by omega) q2
  · exact Or.inr x
theorem inp_of {n m R only best a : Int} {pt ph al dn dE po row bw : Int → Int} (hS : STB n m pt ph al) (hR : STR n R pt ph row) (hd : DRR n R dn row) (hD : DEM m pt ph dn dE) (hl : R < n) (h : SA1 n m only pt ph dE po dn bw best a) (ha : n ≤ a ∨ best ≠ 0) : INP n R pt ph dn row bw best := by
  rcases h with ⟨x, y⟩ | x
  · rcases ha with w | w
    · exact (ear_is hS hR hd hD hl y w).elim
    · exact absurd x w
  · exact ⟨hR, hd, x⟩
theorem dek_step {i i_zq p v : Int} {pt ph dn dE dE_zq : Int → Int} (h : DEK pt ph dn dE i) (hi : i_zq = i + 1) (hs : st1 dE dE_zq p v) (hp : p = i) (hv : (v = 0 ∧ ¬ (dn (pt i) ≠ 0 ∧ dn (ph i) ≠ 0)) ∨ (v ≠ 0 ∧ dn (pt i) ≠ 0 ∧ dn (ph i) ≠ 0)) : DEK pt ph dn dE_zq i_zq := by
  intro e a b
  by_cases q : e = i
  · rw [q] at a ⊢
    rw [(hs i a).1 hp.symm]
    rcases hv with ⟨x, y⟩ | ⟨x, y, z⟩
    · exact ⟨fun _ => y, fun _ => x⟩
    · exact ⟨fun w => absurd w x, fun w => absurd ⟨y, z⟩ w⟩
  · rw [(hs e a).2 (by omega)]; exact h e a (by omega)
end
section
/-! orders: one behind another -/
def rkF (o : Int → Int) (v t : Int) : Int := if o t < v then 0 else 1
noncomputable def rkO (o : Int → Int) (n v : Int) : Int := cz (rkF o v) n
noncomputable def vN (o : Int → Int) (n : Int) : Nat → Int
  | 0 => 0
  | k + 1 => 8 * vN o n k + rkO o n (o (k : Int))
noncomputable def VO (o : Int → Int) (n : Int) : Int := Classical.choose (⟨vN o n n.toNat, rfl⟩ : ∃ c : Int, c = vN o n n.toNat)
theorem VO_is (o : Int → Int) (n : Int) : VO o n = vN o n n.toNat := Classical.choose_spec (⟨vN o n n.toNat, rfl⟩ : ∃ c : Int, c = vN o n n.toNat)
theorem rk_bd {o : Int → Int} {n k : Int} (n8 : n ≤ 8) (k0 : 0 ≤ k) (k1 : k < n) : 0 ≤ rkO o n (o k) ∧ rkO o n (o k) ≤ 7 := by
  have b := czb (rkF o (o k)) (n := n) (by omega)
  have c := czlt (f := rkF o (o k)) (g := fun _ => (0 : Int)) (n := n) (i := k) k0 k1 (fun _ _ _ _ => rfl) rfl (by unfold rkF; rw [if_neg (by omega)]; omega)
  have d := czb (fun _ => (0 : Int)) (n := n) (by omega)
  unfold rkO
  omega
theorem vN_bd {o : Int → Int} {n : Int} (n8 : n ≤ 8) : ∀ k : Nat, (k : Int) ≤ n → 0 ≤ vN o n k ∧ vN o n k < 8 ^ k := by
  intro k
  induction k with
  | zero => intro _; exact ⟨Int.le_refl 0, by show (0 : Int) < 8 ^ 0; decide⟩
  | succ k ih =>
    intro hk
    have a := ih (by omega)
    have r := rk_bd (o := o) n8 (k := (k : Int)) (by omega) (by omega)
    show 0 ≤ 8 * vN o n k + rkO o n (o (k : Int)) ∧ 8 * vN o n k + rkO o n (o (k : Int)) < 8 ^ (k + 1)
    rw [Int.pow_succ]
    omega
theorem VO_bd {o : Int → Int} {n : Int} (n0 : 0 ≤ n) (n8 : n ≤ 8) : 0 ≤ VO o n ∧ VO o n < 16777216 := by
  have h := vN_bd (o := o) n8 n.toNat (by omega)
  rw [VO_is]
  refine ⟨h.1, Int.lt_of_lt_of_le h.2 ?_⟩
  have : n.toNat ≤ 8 := by omega
  have e : ∀ k : Nat, k ≤ 8 → (8 : Int) ^ k ≤ 16777216 := by
    intro k hk
    rcases (by omega : k = 0 ∨ k = 1 ∨ k = 2 ∨ k = 3 ∨ k = 4 ∨ k = 5 ∨ k = 6 ∨ k = 7 ∨ k = 8) with z | z | z | z | z | z | z | z | z <;> subst z <;> decide
  exact e _ this
/-- the same ranks, and greater at the first place that differs -/
theorem VO_lt {o o_zq : Int → Int} {n i : Int} (n8 : n ≤ 8) (hr : ∀ v, rkO o_zq n v = rkO o n v) (i0 : 0 ≤ i) (i1 : i < n) (hs : ∀ t, 0 ≤ t → t < i → o_zq t = o t) (hi : o i < o_zq i) : VO o n + 1 ≤ VO o_zq n := by
  have eq : ∀ k : Nat, (k : Int) ≤ i → vN o_zq n k = vN o n k := by
    intro k
    induction k with
    | zero => intro _; rfl
    | succ k ih =>
      intro hk
      show 8 * vN o_zq n k + rkO o_zq n (o_zq (k : Int)) = 8 * vN o n k + rkO o n (o (k : Int))
      rw [ih (by omega), hs (k : Int) (by omega) (by omega), hr]
  have at1 : rkO o n (o i) + 1 ≤ rkO o n (o_zq i) := by
    unfold rkO
    have := czlt (f := rkF o (o i)) (g := rkF o (o_zq i)) (n := n) (i := i) i0 i1 (fun j _ _ z => by
      unfold rkF at z ⊢
      by_cases q : o j < o i
      · rw [if_pos (by omega)]
      · rw [if_neg q] at z; omega) (by unfold rkF; rw [if_pos hi]) (by unfold rkF; rw [if_neg (by omega)]; omega)
    omega
  have gr : ∀ d : Nat, i + 1 + (d : Int) ≤ n → vN o n (i.toNat + 1 + d) + 1 ≤ vN o_zq n (i.toNat + 1 + d) := by
    intro d
    induction d with
    | zero =>
      intro _
      show 8 * vN o n i.toNat + rkO o n (o ((i.toNat : Nat) : Int)) + 1 ≤ 8 * vN o_zq n i.toNat + rkO o_zq n (o_zq ((i.toNat : Nat) : Int))
      rw [eq i.toNat (by omega), hr, show ((i.toNat : Nat) : Int) = i by omega]
      omega
    | succ d ih =>
      intro hd
      have a := ih (by omega)
      have r := rk_bd (o := o) n8 (k := ((i.toNat + 1 + d : Nat) : Int)) (by omega) (by omega)
      have r_zq := rk_bd (o := o_zq) n8 (k := ((i.toNat + 1 + d : Nat) : Int)) (by omega) (by omega)
      show 8 * vN o n (i.toNat + 1 + d) + rkO o n (o ((i.toNat + 1 + d : Nat) : Int)) + 1 ≤ 8 * vN o_zq n (i.toNat + 1 + d) + rkO o_zq n (o_zq ((i.toNat + 1 + d : Nat) : Int))
      omega
  have := gr (n.toNat - (i.toNat + 1)) (by omega)
  rw [show i.toNat + 1 + (n.toNat - (i.toNat + 1)) = n.toNat by omega] at this
  rw [VO_is, VO_is]
  exact this
/-- two places exchanged -/
theorem cz_swap {f f_zq : Int → Int} {n a b : Int} (a0 : 0 ≤ a) (a1 : a < n) (b0 : 0 ≤ b) (b1 : b < n) (hab : a ≠ b) (ha : f_zq a = f b) (hb : f_zq b = f a) (ho : ∀ j, 0 ≤ j → j ≠ a → j ≠ b → f_zq j = f j) : cz f_zq n = cz f n := by
  have key : ∀ t : Nat, czN f_zq t + ((if a < (t : Int) then (if f a = 0 then 1 else 0) else 0) + (if b < (t : Int) then (if f b = 0 then 1 else 0) else 0)) = czN f t + ((if a < (t : Int) then (if f_zq a = 0 then 1 else 0) else 0) + (if b < (t : Int) then (if f_zq b = 0 then 1 else 0) else 0)) := by
    intro t
    induction t with
    | zero =>
      show (0 : Int) + _ = 0 + _
      rw [if_neg (by omega), if_neg (by omega), if_neg (by omega), if_neg (by omega)]
    | succ t ih =>
      show czN f_zq t + (if f_zq (t : Int) = 0 then 1 else 0) + _ = czN f t + (if f (t : Int) = 0 then 1 else 0) + _
      by_cases qa : (t : Int) = a
      · subst qa
        rw [if_neg (by omega : ¬ (t : Int) < (t : Int)), if_neg (by omega : ¬ (t : Int) < (t : Int))] at ih
        rw [if_pos (by omega : (t : Int) < ((t + 1 : Nat) : Int)), if_pos (by omega : (t : Int) < ((t + 1 : Nat) : Int))]
        by_cases q : b < (t : Int)
        · rw [if_pos q, if_pos q] at ih
          rw [if_pos (by omega : b < ((t + 1 : Nat) : Int)), if_pos (by omega : b < ((t + 1 : Nat) : Int))]
          omega
        · rw [if_neg q, if_neg q] at ih
          rw [if_neg (by omega : ¬ b < ((t + 1 : Nat) : Int)), if_neg (by omega : ¬ b < ((t + 1 : Nat) : Int))]
          omega
      · by_cases qb : (t : Int) = b
        · subst qb
          rw [if_neg (by omega : ¬ (t : Int) < (t : Int)), if_neg (by omega : ¬ (t : Int) < (t : Int))] at ih
          rw [if_pos (by omega : (t : Int) < ((t + 1 : Nat) : Int)), if_pos (by omega : (t : Int) < ((t + 1 : Nat) : Int))]
          by_cases q : a < (t : Int)
          · rw [if_pos q, if_pos q] at ih
            rw [if_pos (by omega : a < ((t + 1 : Nat) : Int)), if_pos (by omega : a < ((t + 1 : Nat) : Int))]
            omega
          · rw [if_neg q, if_neg q] at ih
            rw [if_neg (by omega : ¬ a < ((t + 1 : Nat) : Int)), if_neg (by omega : ¬ a < ((t + 1 : Nat) : Int))]
            omega
        · rw [ho (t : Int) (by omega) qa qb]
          have e1 : (a < ((t + 1 : Nat) : Int)) ↔ (a < (t : Int)) := by omega
          have e2 : (b < ((t + 1 : Nat) : Int)) ↔ (b < (t : Int)) := by omega
          simp only [e1, e2]
          omega
  have := key n.toNat
  have ea : a < ((n.toNat : Nat) : Int) := by omega
  have eb : b < ((n.toNat : Nat) : Int) := by omega
  rw [if_pos ea, if_pos eb, if_pos ea, if_pos eb, ha, hb] at this
  rw [cz_is, cz_is]
  omega
def swp (o o_zq : Int → Int) (a b : Int) : Prop := o_zq a = o b ∧ o_zq b = o a ∧ ∀ j, 0 ≤ j → j ≠ a → j ≠ b → o_zq j = o j
theorem rk_swp {o o_zq : Int → Int} {n a b : Int} (a0 : 0 ≤ a) (a1 : a < n) (b0 : 0 ≤ b) (b1 : b < n) (hab : a ≠ b) (h : swp o o_zq a b) (v : Int) : rkO o_zq n v = rkO o n v := by
  unfold rkO
  exact cz_swap a0 a1 b0 b1 hab (by unfold rkF; rw [h.1]) (by unfold rkF; rw [h.2.1]) (fun j j0 ja jb => by unfold rkF; rw [h.2.2 j j0 ja jb])
def DIS (o : Int → Int) (n : Int) : Prop := ∀ s t, 0 ≤ s → s < t → t < n → o s ≠ o t
theorem dis_swp {o o_zq : Int → Int} {n a b : Int} (h : DIS o n) (a0 : 0 ≤ a) (a1 : a < n) (b0 : 0 ≤ b) (b1 : b < n) (hab : a ≠ b) (hs : swp o o_zq a b) : DIS o_zq n := by
  have inj : ∀ s t, 0 ≤ s → s < n → 0 ≤ t → t < n → o s = o t → s = t := fun s t s0 s1 t0 t1 z => by
    rcases Int.lt_trichotomy s t with q | q | q
    · exact absurd z (h s t s0 q t1)
    · exact q
    · exact absurd z.symm (h t s t0 q s1)
  -- where a place's value comes from
  have fr : ∀ s, 0 ≤ s → s < n → ∃ p, 0 ≤ p ∧ p < n ∧ o_zq s = o p ∧ ((s = a ∧ p = b) ∨ (s = b ∧ p = a) ∨ (s ≠ a ∧ s ≠ b ∧ p = s)) := fun s s0 s1 => by
    by_cases qa : s = a
    · exact ⟨b, b0, b1, by rw [qa]; exact hs.1, Or.inl ⟨qa, rfl⟩⟩
    · by_cases qb : s = b
      · exact ⟨a, a0, a1, by rw [qb]; exact hs.2.1, Or.inr (Or.inl ⟨qb, rfl⟩)⟩
      · exact ⟨s, s0, s1, hs.2.2 s s0 qa qb, Or.inr (Or.inr ⟨qa, qb, rfl⟩)⟩
  intro s t s0 st t1 e
  obtain ⟨p, p0, p1, p2, p3⟩ := fr s s0 (by omega)
  obtain ⟨q, q0, q1, q2, q3⟩ := fr t (by omega) t1
  rw [p2, q2] at e
  have := inj p q p0 p1 q0 q1 e
  omega
theorem swp_st {o o1 o2 : Int → Int} {a b p v q w : Int} (a0 : 0 ≤ a) (b0 : 0 ≤ b) (hab : a ≠ b) (hs : st1 o o1 p v) (hp : p = a) (hv : v = o b) (ht : st1 o1 o2 q w) (hq : q = b) (hw : w = o a) : swp o o2 a b := by
  refine ⟨?_, ?_, fun j j0 ja jb => ?_⟩
  · rw [(ht a a0).2 (by omega), (hs a a0).1 hp.symm]; exact hv
  · rw [(ht b b0).1 hq.symm]; exact hw
  · rw [(ht j j0).2 (by omega), (hs j j0).2 (by omega)]
/-! nextOrder -/
def ORM (o : Int → Int) (n g : Int) : Prop := 16777216 ≤ VO o n + g
def ORN (o : Int → Int) (n g z : Int) : Prop := z ≠ 0 → 16777217 ≤ VO o n + g
/-- behind the place i everything falls -/
def NO1 (o : Int → Int) (n i : Int) : Prop := DIS o n ∧ i ≤ n - 2
def NO2 (o : Int → Int) (n i j : Int) : Prop := DIS o n ∧ (0 ≤ i ∧ i ≤ n - 2) ∧ o i < o (i + 1) ∧ i + 1 ≤ j ∧ j ≤ n - 1
def NO3 (o : Int → Int) (n i a b g : Int) : Prop := DIS o n ∧ (0 ≤ i ∧ i ≤ n - 2) ∧ i < a ∧ b ≤ n - 1 ∧ ∃ o0, (∀ v, rkO o n v = rkO o0 n v) ∧ (∀ t, 0 ≤ t → t < i → o t = o0 t) ∧ o0 i < o i ∧ ORM o0 n g
theorem no3_start {o o_zq : Int → Int} {n i j a b g : Int} (h : NO2 o n i j) (hj : o i ≤ o j) (hs : swp o o_zq i j) (ha : a = i + 1) (hb : b = n - 1) (hM : ORM o n g) : NO3 o_zq n i a b g := by
  obtain ⟨h1, h2, h3, h4, h5⟩ := h
  have hne := h1 i j h2.1 (by omega) (by omega)
  refine ⟨dis_swp h1 h2.1 (by omega) (by omega) (by omega) (by omega) hs, h2, by omega, by omega, o, rk_swp h2.1 (by omega) (by omega) (by omega) (by omega) hs, fun t t0 t1 => hs.2.2 t t0 (by omega) (by omega), by rw [hs.1]; omega, hM⟩
theorem no3_step {o o_zq : Int → Int} {n i a b a_zq b_zq g : Int} (h : NO3 o n i a b g) (hab : a < b) (hs : swp o o_zq a b) (ha : a_zq = a + 1) (hb : b_zq = b - 1) : NO3 o_zq n i a_zq b_zq g := by
  obtain ⟨h1, h2, h3, h4, o0, k1, k2, k3, k4⟩ := h
  refine ⟨dis_swp h1 (by omega) (by omega) (by omega) (by omega) (by omega) hs, h2, by omega, by omega, o0, fun v => (rk_swp (by omega) (by omega) (by omega) (by omega) (by omega) hs v).trans (k1 v), fun t t0 t1 => by rw [hs.2.2 t t0 (by omega) (by omega)]; exact k2 t t0 t1, by rw [hs.2.2 i h2.1 (by omega) (by omega)]; exact k3, k4⟩
theorem no3_end {o : Int → Int} {n i a b g z : Int} (n8 : n ≤ 8) (h : NO3 o n i a b g) : ORN o n g z := by
  obtain ⟨h1, h2, h3, h4, o0, k1, k2, k3, k4⟩ := h
  intro _
  have := VO_lt n8 k1 h2.1 (by omega) k2 k3
  unfold ORM at k4
  omega
theorem no2_start {o : Int → Int} {n i j : Int} (h : NO1 o n i) (i0 : 0 ≤ i) (hl : o i ≤ o (i + 1)) (hj : j = n - 1) : NO2 o n i j := by
  have := h.1 i (i + 1) i0 (by omega) (by have := h.2; omega)
  exact ⟨h.1, ⟨i0, h.2⟩, by omega, by have := h.2; omega, by omega⟩
theorem no2_step {o : Int → Int} {n i j j_zq : Int} (h : NO2 o n i j) (hl : o j < o i) (hj : j_zq = j - 1) : NO2 o n i j_zq := by
  obtain ⟨h1, h2, h3, h4, h5⟩ := h
  have : j ≠ i + 1 := fun e => by rw [e] at hl; omega
  exact ⟨h1, h2, h3, by omega, by omega⟩
end
section
/-! bestOrder, ring, putBest -/
def DSM (n : Int) (o : Int → Int) : Prop := DIS o n
def ORQ (n : Int) (o : Int → Int) (g : Int) : Prop := ORM o n g
def ORZ (n : Int) (o : Int → Int) (g z : Int) : Prop := z ≠ 0 → ORM o n g
def ORR (n : Int) (o : Int → Int) (g z : Int) : Prop := ORN o n g z
def OZ2 (o : Int → Int) (n g z : Int) : Prop := z ≠ 0 → ORM o n g
theorem orm_start {o : Int → Int} {n g : Int} (n0 : 0 ≤ n) (n8 : n ≤ 8) (hg : g = 16777216) : ORM o n g := by
  have := VO_bd (o := o) n0 n8
  unfold ORM; omega
theorem orm_pos {o : Int → Int} {n g : Int} (n0 : 0 ≤ n) (n8 : n ≤ 8) (h : ORM o n g) : 1 ≤ g := by
  have := VO_bd (o := o) n0 n8
  unfold ORM at h; omega
def MBD (n : Int) (mb : Int → Int) : Prop := ∀ s t, 0 ≤ s → s < t → t < n → mb s ≠ mb t
def MBI (n : Int) (mb : Int → Int) (i : Int) : Prop := (∀ s t, 0 ≤ s → s < t → t < n → mb s ≠ mb t) ∧ ∀ s, 0 ≤ s → s < n → mb s < i
theorem mbi_take {n n_zq i i_zq p v : Int} {mb mb_zq : Int → Int} (h : MBI n mb i) (n0 : 0 ≤ n) (hs : st1 mb mb_zq p v) (hp : p = n) (hv : v = i) (hn : n_zq = n + 1) (hi : i_zq = i + 1) : MBI n_zq mb_zq i_zq := by
  refine ⟨fun s t s0 st t1 => ?_, fun s s0 s1 => ?_⟩
  · rw [(hs s s0).2 (by omega)]
    by_cases q : t = n
    · rw [q, (hs n n0).1 hp.symm, hv]; have := h.2 s s0 (by omega); omega
    · rw [(hs t (by omega)).2 (by omega)]; exact h.1 s t s0 st (by omega)
  · by_cases q : s = n
    · rw [q, (hs n n0).1 hp.symm, hv]; omega
    · rw [(hs s s0).2 (by omega)]; have := h.2 s s0 (by omega); omega
theorem mbi_skip {n i i_zq : Int} {mb : Int → Int} (h : MBI n mb i) (hi : i_zq = i + 1) : MBI n mb i_zq := ⟨h.1, fun s a b => by have := h.2 s a b; omega⟩
def CYM (o mb : Int → Int) (k : Int) : Prop := ∀ t, 0 ≤ t → t < k → o t = mb t
theorem dis_cym {n k : Int} {o mb : Int → Int} (h : MBD n mb) (hc : CYM o mb k) (hk : n ≤ k) : DIS o n := fun s t s0 st t1 => by
  rw [hc s s0 (by omega), hc t (by omega) (by omega)]; exact h s t s0 st t1
def IDN (o : Int → Int) (k : Int) : Prop := ∀ t, 0 ≤ t → t < k → o t = t
def PRM (o : Int → Int) (n : Int) : Prop := ∀ v, 0 ≤ v → v < n → ∃ k, 0 ≤ k ∧ k < n ∧ o k = v
theorem idn_dis {o : Int → Int} {n k : Int} (h : IDN o k) (hk : n ≤ k) : DIS o n ∧ PRM o n := ⟨fun s t s0 st t1 => by rw [h s s0 (by omega), h t (by omega) (by omega)]; omega, fun v a b => ⟨v, a, b, h v a (by omega)⟩⟩
theorem idn_step {o o_zq : Int → Int} {k k_zq p v : Int} (h : IDN o k) (hk : k_zq = k + 1) (hs : st1 o o_zq p v) (hp : p = k) (hv : v = k) : IDN o_zq k_zq := by
  intro t a b
  by_cases q : t = k
  · rw [(hs t a).1 (by omega)]; omega
  · rw [(hs t a).2 (by omega)]; exact h t a (by omega)
/-- all but i, in n - 1 places -/
def WOI (o : Int → Int) (n i : Int) : Prop := ∀ v, 0 ≤ v → v < n → v ≠ i → ∃ k, 0 ≤ k ∧ k < n - 1 ∧ o k = v
def PB0 (o : Int → Int) (n i k : Int) : Prop := (PRM o n ∧ 0 ≤ i ∧ i < n) ∧ ∀ j, 0 ≤ j → j < k → o j ≠ i
theorem pb0_lt {o : Int → Int} {n i k : Int} (h : PB0 o n i k) : k < n := by
  obtain ⟨⟨h1, h2, h3⟩, h4⟩ := h
  obtain ⟨j, j0, j1, j2⟩ := h1 i h2 h3
  exact Classical.byContradiction (fun z => h4 j j0 (by omega) j2)
theorem pb0_next {o : Int → Int} {n i k k_zq : Int} (h : PB0 o n i k) (hk : k_zq = k + 1) (hn : o k ≠ i) : PB0 o n i k_zq := by
  refine ⟨h.1, fun j a b => ?_⟩
  by_cases q : j = k
  · rw [q]; exact hn
  · exact h.2 j a (by omega)
def PB1 (o : Int → Int) (n i k : Int) : Prop := (0 ≤ i ∧ i < n) ∧ ∃ o0 at_zq, PRM o0 n ∧ o0 at_zq = i ∧ (0 ≤ at_zq ∧ at_zq ≤ k ∧ k ≤ n - 1) ∧ (∀ t, 0 ≤ t → t < at_zq → o t = o0 t) ∧ (∀ t, at_zq ≤ t → t < k → o t = o0 (t + 1)) ∧ ∀ t, k ≤ t → t < n → o t = o0 t
theorem pb1_start {o : Int → Int} {n i k : Int} (h : PB0 o n i k) (k0 : 0 ≤ k) (he : o k = i) : PB1 o n i k := ⟨h.1.2, o, k, h.1.1, he, ⟨k0, by omega, by have := pb0_lt h; omega⟩, fun _ _ _ => rfl, fun t a b => by omega, fun _ _ _ => rfl⟩
theorem pb1_step {o o_zq : Int → Int} {n i k k_zq p v r : Int} (h : PB1 o n i k) (hk : k_zq = k + 1) (k1 : k + 1 < n) (hs : st1 o o_zq p v) (hp : p = k) (hv : v = o r) (hr : r = k + 1) : PB1 o_zq n i k_zq := by
  obtain ⟨hi, o0, a, h1, h2, h3, h4, h5, h6⟩ := h
  refine ⟨hi, o0, a, h1, h2, by omega, fun t t0 t1 => by rw [(hs t t0).2 (by omega)]; exact h4 t t0 t1, fun t t0 t1 => ?_, fun t t0 t1 => by rw [(hs t (by omega)).2 (by omega)]; exact h6 t (by omega) t1⟩
  by_cases q : t = k
  · rw [q, (hs k (by omega)).1 hp.symm, hv, hr]; exact h6 (k + 1) (by omega) (by omega)
  · rw [(hs t (by omega)).2 (by omega)]; exact h5 t t0 (by omega)
theorem pb1_end {o : Int → Int} {n i k : Int} (h : PB1 o n i k) (hk : n ≤ k + 1) : WOI o n i ∧ 0 ≤ i ∧ i < n := by
  obtain ⟨hi, o0, a, h1, h2, h3, h4, h5, h6⟩ := h
  refine ⟨fun v v0 v1 vn => ?_, hi⟩
  obtain ⟨j, j0, j1, j2⟩ := h1 v v0 v1
  have : j ≠ a := fun e => vn (by rw [← j2, e]; exact h2)
  by_cases q : j < a
  · exact ⟨j, j0, by omega, by rw [h4 j j0 q]; exact j2⟩
  · refine ⟨j - 1, by omega, by omega, ?_⟩
    rw [h5 (j - 1) (by omega) (by omega), show j - 1 + 1 = j by omega]; exact j2
def WO2 (o : Int → Int) (n i : Int) : Prop := WOI o n i ∧ 0 ≤ i ∧ i < n
def PB2 (o : Int → Int) (n i p k : Int) : Prop := ∃ o0, WO2 o0 n i ∧ (1 ≤ p ∧ p ≤ k ∧ k ≤ n - 1) ∧ (∀ t, 0 ≤ t → t < k → o t = o0 t) ∧ ∀ t, k < t → t < n → o t = o0 (t - 1)
theorem pb2_start {o : Int → Int} {n i p k : Int} (h : WO2 o n i) (p1 : 1 ≤ p) (pn : p < n) (hk : k = n - 1) : PB2 o n i p k := ⟨o, h, by omega, fun _ _ _ => rfl, fun t a b => by omega⟩
theorem pb2_step {o o_zq : Int → Int} {n i p k k_zq s v r : Int} (h : PB2 o n i p k) (hk : k_zq = k - 1) (k1 : p < k) (hs : st1 o o_zq s v) (hss : s = k) (hv : v = o r) (hr : r = k - 1) : PB2 o_zq n i p k_zq := by
  obtain ⟨o0, h1, h2, h3, h4⟩ := h
  refine ⟨o0, h1, by omega, fun t t0 t1 => by rw [(hs t t0).2 (by omega)]; exact h3 t t0 (by omega), fun t t0 t1 => ?_⟩
  by_cases q : t = k
  · rw [q, (hs k (by omega)).1 hss.symm, hv, hr]; exact h3 (k - 1) (by omega) (by omega)
  · rw [(hs t (by omega)).2 (by omega)]; exact h4 t (by omega) t1
/-- i stands at p -/
def PB3 (o : Int → Int) (n i p k : Int) : Prop := ∃ o0, WO2 o0 n i ∧ (1 ≤ p ∧ p ≤ k ∧ k ≤ n - 1) ∧ (∀ t, 0 ≤ t → t < k → o t = o0 t) ∧ ∀ t, k < t → t < n → o t = o0 (t - 1)
theorem pb3_start {o o_zq : Int → Int} {n i p k q s v : Int} (h : PB2 o n i p k) (hk : k ≤ p) (hs : st1 o o_zq s v) (hss : s = p) (hq : q = p) : PB3 o_zq n i p q := by
  obtain ⟨o0, h1, h2, h3, h4⟩ := h
  exact ⟨o0, h1, by omega, fun t t0 t1 => by rw [(hs t t0).2 (by omega)]; exact h3 t t0 (by omega), fun t t0 t1 => by rw [(hs t (by omega)).2 (by omega)]; exact h4 t (by omega) t1⟩
theorem pb3_step {o o_zq : Int → Int} {n i p k k_zq s v r : Int} (h : PB3 o n i p k) (hk : k_zq = k + 1) (k1 : k + 1 < n) (hs : st1 o o_zq s v) (hss : s = k) (hv : v = o r) (hr : r = k + 1) : PB3 o_zq n i p k_zq := by
  obtain ⟨o0, h1, h2, h3, h4⟩ := h
  refine ⟨o0, h1, by omega, fun t t0 t1 => ?_, fun t t0 t1 => by rw [(hs t (by omega)).2 (by omega)]; exact h4 t (by omega) t1⟩
  by_cases q : t = k
  · rw [q, (hs k (by omega)).1 hss.symm, hv, hr, h4 (k + 1) (by omega) k1]; congr 1; omega
  · rw [(hs t t0).2 (by omega)]; exact h3 t t0 (by omega)
theorem pb3_end {o : Int → Int} {n i p k : Int} (h : PB3 o n i p k) (hk : n ≤ k + 1) : WO2 o n i := by
  obtain ⟨o0, h1, h2, h3, h4⟩ := h
  refine ⟨fun v v0 v1 vn => ?_, h1.2⟩
  obtain ⟨j, j0, j1, j2⟩ := h1.1 v v0 v1 vn
  exact ⟨j, j0, j1, by rw [h3 j j0 (by omega)]; exact j2⟩
theorem pb2_end {o o_zq : Int → Int} {n i p k s v : Int} (h : PB2 o n i p k) (hk : k ≤ p) (hs : st1 o o_zq s v) (hss : s = p) (hv : v = i) : PRM o_zq n := by
  obtain ⟨o0, h1, h2, h3, h4⟩ := h
  intro x x0 x1
  by_cases q : x = i
  · exact ⟨p, by omega, by omega, by rw [(hs p (by omega)).1 hss.symm, hv, q]⟩
  · obtain ⟨j, j0, j1, j2⟩ := h1.1 x x0 x1 q
    by_cases z : j < p
    · exact ⟨j, j0, by omega, by rw [(hs j j0).2 (by omega), h3 j j0 (by omega)]; exact j2⟩
    · exact ⟨j + 1, by omega, by omega, by rw [(hs _ (by omega)).2 (by omega), h4 (j + 1) (by omega) (by omega), show j + 1 - 1 = j by omega]; exact j2⟩
theorem pb_len {o : Int → Int} {n i p k : Int} (h : PB2 o n i p k) : 1 ≤ p ∧ p ≤ k ∧ k ≤ n - 1 := by obtain ⟨_, _, a, _⟩ := h; exact a
theorem pb3_len {o : Int → Int} {n i p k : Int} (h : PB3 o n i p k) : 1 ≤ p ∧ p ≤ k ∧ k ≤ n - 1 := by obtain ⟨_, _, a, _⟩ := h; exact a
theorem pb1_len {o : Int → Int} {n i k : Int} (h : PB1 o n i k) : 0 ≤ k ∧ k ≤ n - 1 := by obtain ⟨_, _, _, _, _, a, _⟩ := h; omega
end
section
/-! farFrom, parts, tree -/
def fnt (f : Int → Int) (j : Int) : Prop := f j < 1000000
def cfn (f : Int → Int) : Nat → Int
  | 0 => 0
  | k + 1 => cfn f k + if f (k : Int) < 1000000 then 1 else 0
theorem cfn_le (f : Int → Int) (k : Nat) : 0 ≤ cfn f k ∧ cfn f k ≤ k := by
  induction k with
  | zero => simp [cfn]
  | succ k ih => unfold cfn; split <;> (push_cast; omega)
theorem cfn_mono {f g : Int → Int} (k : Nat) (h : ∀ j : Int, 0 ≤ j → j < k → fnt f j → fnt g j) : cfn f k ≤ cfn g k := by
  induction k with
  | zero => simp [cfn]
  | succ k ih =>
    have i1 := ih (fun j a b => h j a (by push_cast; omega))
    unfold cfn
    by_cases q : fnt f (k : Int)
    · rw [if_pos (show f (k : Int) < 1000000 from q), if_pos (show g (k : Int) < 1000000 from h k (by omega) (by push_cast; omega) q)]; omega
    · rw [if_neg (show ¬ f (k : Int) < 1000000 from q)]; split <;> omega
theorem cfn_more {f g : Int → Int} (k : Nat) (h : ∀ j : Int, 0 ≤ j → j < k → fnt f j → fnt g j) {x : Int} (x0 : 0 ≤ x) (x1 : x < k) (n1 : ¬ fnt f x) (n2 : fnt g x) : cfn f k + 1 ≤ cfn g k := by
  induction k with
  | zero => exact absurd x1 (by push_cast; omega)
  | succ k ih =>
    unfold cfn
    by_cases z : x = k
    · rw [z] at n1 n2
      have i1 := cfn_mono (f := f) (g := g) k (fun j a b => h j a (by push_cast; omega))
      rw [if_neg (show ¬ f (k : Int) < 1000000 from n1), if_pos (show g (k : Int) < 1000000 from n2)]; omega
    · have i1 := ih (fun j a b => h j a (by push_cast; omega)) (by push_cast at x1; omega)
      by_cases q : fnt f (k : Int)
      · rw [if_pos (show f (k : Int) < 1000000 from q), if_pos (show g (k : Int) < 1000000 from h k (by omega) (by push_cast; omega) q)]; omega
      · rw [if_neg (show ¬ f (k : Int) < 1000000 from q)]; split <;> omega
theorem cfn_one {f : Int → Int} (k : Nat) {x : Int} (x0 : 0 ≤ x) (x1 : x < k) (n2 : fnt f x) : 1 ≤ cfn f k := by
  have h0 := cfn_more (f := fun _ => 1000000) (g := f) k (fun j _ _ q => absurd q (Int.lt_irrefl 1000000)) x0 x1 (Int.lt_irrefl 1000000) n2
  have := (cfn_le (fun _ => 1000000) k).1
  omega
def ECL (A : Int → Int) (r : Int) (U : Int → Prop) (k : Int) : Prop := ∀ e, 0 ≤ e → e < k → (U (A (r + 267 + e)) ↔ U (A (r + 315 + e)))
def FBB (r : Int) (A f : Int → Int) (s b : Int) : Prop := (∀ v, 0 ≤ v → v < A r → 0 ≤ f v ∧ (f v ≤ b ∨ f v = 1000000)) ∧ fnt f s ∧ ∀ U : Int → Prop, U s → ECL A r U (A (r + 1)) → ∀ v, 0 ≤ v → v < A r → fnt f v → U v
def FCC (r : Int) (A : Int → Int) (s : Int) : Prop := SG A r ∧ 0 ≤ s ∧ s < A r
def cfi (f : Int → Int) (n : Int) : Int := cfn f n.toNat
def FA0 (r : Int) (A f : Int → Int) (s k : Int) : Prop := FCC r A s → ∀ v, 0 ≤ v → v < k → (v = s → f v = 0) ∧ (v ≠ s → f v = 1000000)
def FA1 (r : Int) (A f : Int → Int) (s i : Int) : Prop := FCC r A s → FBB r A f s (96 * i) ∧ (ECL A r (fnt f) (A (r + 1)) ∨ i + 1 ≤ cfi f (A r))
def FA2 (r : Int) (A f : Int → Int) (s i j : Int) : Prop := FCC r A s → FBB r A f s (96 * i + 2 * j) ∧ (ECL A r (fnt f) (A (r + 1)) ∨ i + 2 ≤ cfi f (A r) ∨ (i + 1 ≤ cfi f (A r) ∧ ECL A r (fnt f) j))
def FAP (r : Int) (A f : Int → Int) (s : Int) : Prop := FCC r A s → FBB r A f s 2304 ∧ ECL A r (fnt f) (A (r + 1))
theorem fa0_step {r s k k_zq p v : Int} {A f f_zq : Int → Int} (h : FA0 r A f s k) (hs : st1 f f_zq p v) (hp : p = k) (hk : k_zq = k + 1) (hv : (p = s → v = 0) ∧ (p ≠ s → v = 1000000)) : FA0 r A f_zq s k_zq := by
  intro c x x0 x1
  by_cases q : x = p
  · rw [(hs x x0).1 q, q]; exact hv
  · rw [(hs x x0).2 q]; exact h c x x0 (by omega)
theorem fa1_start {r s k i : Int} {A f : Int → Int} (h : FA0 r A f s k) (hk : A r ≤ k) (hi : i = 0) : FA1 r A f s i := by
  intro c
  have h0 := h c
  obtain ⟨c1, c2, c3⟩ := c
  have fs : fnt f s := by unfold fnt; rw [(h0 s c2 (by omega)).1 rfl]; omega
  refine ⟨⟨fun v a b => ?_, fs, fun U us _ v a b q => ?_⟩, Or.inr ?_⟩
  · have := h0 v a (by omega); by_cases z : v = s
    · have := this.1 z; omega
    · have := this.2 z; omega
  · by_cases z : v = s
    · rw [z]; exact us
    · have := (h0 v a (by omega)).2 z; unfold fnt at q; omega
  · have := cfn_one (f := f) (A r).toNat c2 (by omega) fs
    unfold cfi; omega
theorem fa2_start {r s i j : Int} {A f : Int → Int} (h : FA1 r A f s i) (hj : j = 0) : FA2 r A f s i j := by
  intro c
  obtain ⟨h1, h2⟩ := h c
  rw [hj]
  refine ⟨by rw [show 96 * i + 2 * 0 = 96 * i by omega]; exact h1, ?_⟩
  rcases h2 with q | q
  · exact Or.inl q
  · exact Or.inr (Or.inr ⟨q, fun e a b => absurd b (by omega)⟩)
theorem fbb_more {r s b b_zq : Int} {A f : Int → Int} (h : FBB r A f s b) (hb : b ≤ b_zq) : FBB r A f s b_zq := ⟨fun v a c => by have := h.1 v a c; omega, h.2⟩
theorem fa2_end {r s i i_zq j : Int} {A f : Int → Int} (h : FA2 r A f s i j) (hj : A (r + 1) ≤ j) (hj2 : j ≤ 48) (hi : i_zq = i + 1) : FA1 r A f s i_zq := by
  intro c
  obtain ⟨h1, h2⟩ := h c
  refine ⟨fbb_more h1 (by omega), ?_⟩
  rcases h2 with q | q | q
  · exact Or.inl q
  · exact Or.inr (by omega)
  · exact Or.inl (fun e a b => q.2 e a (by omega))
theorem fa1_end {r s i : Int} {A f : Int → Int} (h : FA1 r A f s i) (hi : A r ≤ i) (hi2 : i ≤ 24) : FAP r A f s := by
  intro c
  obtain ⟨h1, h2⟩ := h c
  refine ⟨fbb_more h1 (by omega), ?_⟩
  rcases h2 with q | q
  · exact q
  · have := (cfn_le f (A r).toNat).2
    have := c.2
    unfold cfi at q; omega
theorem ecl_congr {r k : Int} {A f g : Int → Int} (hg : SG A r) (hk : k ≤ A (r + 1)) (h : ∀ v, 0 ≤ v → v < A r → (fnt f v ↔ fnt g v)) (he : ECL A r (fnt f) k) : ECL A r (fnt g) k := by
  intro e a b
  have hh := hg.2.1 e a (by omega)
  have := he e a b
  rw [h _ hh.1 hh.2.1, h _ hh.2.2.1 hh.2.2.2.1] at this
  exact this
theorem fa2_step {r s i j j_zq t h v w : Int} {A f f1 f2 : Int → Int} (hF : FA2 r A f s i j) (j0 : 0 ≤ j) (j1 : j < A (r + 1)) (hj : j_zq = j + 1) (i0 : 0 ≤ i) (i1 : i ≤ 24) (ht : t = A (r + 267 + j)) (hh : h = A (r + 315 + j))
    (hs1 : st1 f f1 h v) (v1 : v ≤ f h) (v2 : v ≤ f t + 1) (v3 : v = f h ∨ v = f t + 1) (hs2 : st1 f1 f2 t w) (w1 : w ≤ f1 t) (w2 : w ≤ f1 h + 1) (w3 : w = f1 t ∨ w = f1 h + 1) : FA2 r A f2 s i j_zq := by
  intro c
  obtain ⟨⟨hb, hs, hu⟩, hd⟩ := hF c
  obtain ⟨c1, c2, c3⟩ := c
  have cr := c1.1
  have e0 := c1.2.1 j j0 j1
  simp only [← ht, ← hh] at e0
  obtain ⟨t0, tn, h0, hn, th⟩ := e0
  have a1 := (hs1 h h0).1 rfl
  have a2 := (hs1 t t0).2 th
  have b1 := (hs2 t t0).1 rfl
  have b2 := (hs2 h h0).2 (fun z => th z.symm)
  have ft := hb t t0 tn
  have fh := hb h h0 hn
  have ot : ∀ x, 0 ≤ x → x ≠ t → x ≠ h → f2 x = f x := fun x x0 z1 z2 => by rw [(hs2 x x0).2 z1, (hs1 x x0).2 z2]
  have m1 : ∀ x, 0 ≤ x → x < A r → fnt f x → fnt f2 x := fun x x0 x1 q => by
    unfold fnt at q ⊢
    by_cases z1 : x = t
    · rw [z1] at q ⊢; omega
    · by_cases z2 : x = h
      · rw [z2] at q ⊢; omega
      · rw [ot x x0 z1 z2]; exact q
  have hbb : FBB r A f2 s (96 * i + 2 * j_zq) := by
    refine ⟨fun x x0 x1 => ?_, m1 s c2 c3 hs, fun U us ue x x0 x1 q => ?_⟩
    · by_cases z1 : x = t
      · rw [z1]; omega
      · by_cases z2 : x = h
        · rw [z2]; omega
        · rw [ot x x0 z1 z2]; have := hb x x0 x1; omega
    · have ue_zq := ue j j0 j1
      rw [← ht, ← hh] at ue_zq
      unfold fnt at q
      by_cases z1 : x = t
      · rw [z1] at q ⊢
        by_cases z : f t < 1000000
        · exact hu U us ue t t0 tn z
        · exact ue_zq.2 (hu U us ue h h0 hn (by unfold fnt; omega))
      · by_cases z2 : x = h
        · rw [z2] at q ⊢
          by_cases z : f h < 1000000
          · exact hu U us ue h h0 hn z
          · exact ue_zq.1 (hu U us ue t t0 tn (by unfold fnt; omega))
        · rw [ot x x0 z1 z2] at q; exact hu U us ue x x0 x1 q
  refine ⟨hbb, ?_⟩
  by_cases q : fnt f t ↔ fnt f h
  · have sm : ∀ x, 0 ≤ x → x < A r → (fnt f x ↔ fnt f2 x) := fun x x0 x1 => by
      refine ⟨m1 x x0 x1, fun z => ?_⟩
      unfold fnt at z q ⊢
      by_cases z1 : x = t
      · rw [z1] at z ⊢; omega
      · by_cases z2 : x = h
        · rw [z2] at z ⊢; omega
        · rw [ot x x0 z1 z2] at z; exact z
    have cm : cfi f (A r) ≤ cfi f2 (A r) := cfn_mono _ (fun x x0 x1 => m1 x x0 (by omega))
    rcases hd with y | y | y
    · exact Or.inl (ecl_congr c1 (by omega) sm y)
    · exact Or.inr (Or.inl (by omega))
    · refine Or.inr (Or.inr ⟨by omega, ?_⟩)
      refine ecl_congr c1 (by omega) sm (fun e a b => ?_)
      by_cases z : e = j
      · rw [z, ← ht, ← hh]; exact q
      · exact y.2 e a (by omega)
  · have cm : cfi f (A r) + 1 ≤ cfi f2 (A r) := by
      by_cases z : fnt f t
      · have z2 : ¬ fnt f h := fun z2 => q ⟨fun _ => z2, fun _ => z⟩
        exact cfn_more _ (fun x x0 x1 => m1 x x0 (by omega)) h0 (by omega) z2 (by unfold fnt at z ⊢; omega)
      · have z2 : fnt f h := Classical.byContradiction (fun z2 => q ⟨fun y => absurd y z, fun y => absurd y z2⟩)
        exact cfn_more _ (fun x x0 x1 => m1 x x0 (by omega)) t0 (by omega) z (by unfold fnt at z2 ⊢; omega)
    rcases hd with y | y | y
    · have := y j j0 j1; rw [← ht, ← hh] at this; exact absurd this q
    · exact Or.inr (Or.inl (by omega))
    · exact Or.inr (Or.inl (by omega))
theorem fap_same {r s p v : Int} {A f f_zq : Int → Int} (h : FAP r A f s) (hs : st1 f f_zq p v) (p0 : 0 ≤ p) (p1 : p < A r) (v1 : v ≤ f p) (v2 : v ≤ 1000000) (v3 : v = f p ∨ v = 1000000) : FAP r A f_zq s := by
  intro c
  obtain ⟨⟨h1, h2, h3⟩, h4⟩ := h c
  have e : ∀ x, 0 ≤ x → f_zq x = f x := fun x x0 => by
    by_cases q : x = p
    · have := h1 p p0 p1; rw [(hs x x0).1 q, q]; omega
    · exact (hs x x0).2 q
  have e2 : ∀ x, 0 ≤ x → (fnt f x ↔ fnt f_zq x) := fun x x0 => by unfold fnt; rw [e x x0]
  refine ⟨⟨fun x a b => by rw [e x a]; exact h1 x a b, (e2 s c.2.1).1 h2, fun U us ue x a b q => h3 U us ue x a b ((e2 x a).2 q)⟩, ?_⟩
  exact ecl_congr c.1 (by omega) (fun x a _ => e2 x a) h4
/-! parts -/
def PT0 (r : Int) (A p : Int → Int) (k : Int) : Prop := ∀ v, 0 ≤ v → v < k → p v = -1
def PT1 (r : Int) (A p : Int → Int) (i c : Int) : Prop := SG A r → (0 ≤ c ∧ ∀ v, 0 ≤ v → v < A r → -1 ≤ p v ∧ p v < c) ∧ (∀ e, 0 ≤ e → e < A (r + 1) → p (A (r + 267 + e)) = p (A (r + 315 + e))) ∧ (∀ v, 0 ≤ v → v < i → 0 ≤ p v) ∧ ∀ d, 0 ≤ d → d < c → ∃ v, 0 ≤ v ∧ v < A r ∧ p v = d
def PT2 (r : Int) (A f p : Int → Int) (i c k : Int) : Prop := SG A r → (0 ≤ i ∧ i < A r) ∧ FAP r A f i ∧ ∃ p0, PT1 r A p0 i c ∧ p0 i < 0 ∧ (∀ v, 0 ≤ v → v < k → v < A r → (fnt f v → p v = c) ∧ (¬ fnt f v → p v = p0 v)) ∧ ∀ v, k ≤ v → v < A r → p v = p0 v
def PTP (r : Int) (A p : Int → Int) (c : Int) : Prop := SG A r → ∀ d, 0 ≤ d → d < c → ∃ v, 0 ≤ v ∧ v < A r ∧ p v = d
theorem pt0_step {r k k_zq q v : Int} {A p p_zq : Int → Int} (h : PT0 r A p k) (hs : st1 p p_zq q v) (hq : q = k) (hv : v = -1) (hk : k_zq = k + 1) : PT0 r A p_zq k_zq := by
  intro x a b
  by_cases z : x = q
  · rw [(hs x a).1 z, hv]
  · rw [(hs x a).2 z]; exact h x a (by omega)
theorem pt1_start {r k i c : Int} {A p : Int → Int} (h : PT0 r A p k) (hk : A r ≤ k) (hi : i = 0) (hc : c = 0) : PT1 r A p i c := by
  intro g
  refine ⟨⟨by omega, fun v a b => by have := h v a (by omega); omega⟩, fun e a b => ?_, fun v a b => by omega, fun d a b => by omega⟩
  have hh := g.2.1 e a b
  rw [h _ hh.1 (by have := hh.2.1; omega), h _ hh.2.2.1 (by have := hh.2.2.2.1; omega)]
theorem pt1_skip {r i i_zq c : Int} {A p : Int → Int} (h : PT1 r A p i c) (hi : i_zq = i + 1) (hp : 0 ≤ p i) : PT1 r A p i_zq c := by
  intro g
  obtain ⟨h1, h2, h3, h4⟩ := h g
  refine ⟨h1, h2, fun v a b => ?_, h4⟩
  by_cases q : v = i
  · rw [q]; exact hp
  · exact h3 v a (by omega)
theorem pt2_start {r i c k : Int} {A f p : Int → Int} (h : PT1 r A p i c) (i0 : 0 ≤ i) (i1 : i < A r) (hp : p i < 0) (hf : FAP r A f i) (hk : k = 0) : PT2 r A f p i c k := fun _ => ⟨⟨i0, i1⟩, hf, p, h, hp, fun v a b => by omega, fun _ _ _ => rfl⟩
theorem pt2_yes {r i c k k_zq q v : Int} {A f p p_zq : Int → Int} (h : PT2 r A f p i c k) (k0 : 0 ≤ k) (hk : k_zq = k + 1) (hf : f k < 1000000) (hs : st1 p p_zq q v) (hq : q = k) (hv : v = c) : PT2 r A f p_zq i c k_zq := by
  intro g
  obtain ⟨h1, h2, p0, h3, h4, h5, h6⟩ := h g
  refine ⟨h1, h2, p0, h3, h4, fun x a b d => ?_, fun x a b => by rw [(hs x (by omega)).2 (by omega)]; exact h6 x (by omega) b⟩
  by_cases z : x = k
  · rw [(hs x a).1 (by omega), z]; exact ⟨fun _ => hv, fun y => absurd hf y⟩
  · rw [(hs x a).2 (by omega)]; exact h5 x a (by omega) d
theorem pt2_no {r i c k k_zq : Int} {A f p : Int → Int} (h : PT2 r A f p i c k) (hk : k_zq = k + 1) (hf : 1000000 ≤ f k) : PT2 r A f p i c k_zq := by
  intro g
  obtain ⟨h1, h2, p0, h3, h4, h5, h6⟩ := h g
  refine ⟨h1, h2, p0, h3, h4, fun x a b d => ?_, fun x a b => h6 x (by omega) b⟩
  by_cases z : x = k
  · rw [z]; exact ⟨fun y => absurd y (by unfold fnt; omega), fun _ => h6 k (by omega) (by omega)⟩
  · exact h5 x a (by omega) d
theorem pt2_end {r i i_zq c c_zq k : Int} {A f p : Int → Int} (h : PT2 r A f p i c k) (hk : A r ≤ k) (hi : i_zq = i + 1) (hc : c_zq = c + 1) : PT1 r A p i_zq c_zq := by
  intro g
  obtain ⟨⟨i0, i1⟩, h2, p0, h3, h4, h5, h6⟩ := h g
  obtain ⟨q1, q2, q3, q4⟩ := h3 g
  obtain ⟨⟨f1, f2, f3⟩, f4⟩ := h2 ⟨g, i0, i1⟩
  have hx : ∀ x, 0 ≤ x → x < A r → (fnt f x → p x = c) ∧ (¬ fnt f x → p x = p0 x) := fun x a b => h5 x a (by omega) b
  have hU := f3 (fun x => p0 x < 0) h4 (fun e a b => by have := q2 e a b; constructor <;> (intro y; simp only at y ⊢; omega))
  refine ⟨⟨by omega, fun v a b => ?_⟩, fun e a b => ?_, fun v a b => ?_, fun d a b => ?_⟩
  · have := hx v a b; have := q1.2 v a b
    by_cases z : fnt f v
    · have := (hx v a b).1 z; omega
    · have := (hx v a b).2 z; omega
  · have hh := g.2.1 e a b
    have e1 := f4 e a b
    have e2 := q2 e a b
    have x1 := hx _ hh.1 hh.2.1
    have x2 := hx _ hh.2.2.1 hh.2.2.2.1
    by_cases z : fnt f (A (r + 267 + e))
    · rw [x1.1 z, x2.1 (e1.1 z)]
    · rw [x1.2 z, x2.2 (fun y => z (e1.2 y))]; exact e2
  · by_cases z : v < A r
    · by_cases y : fnt f v
      · have := (hx v a z).1 y; omega
      · have := (hx v a z).2 y
        by_cases w : v = i
        · exact absurd (w ▸ f2) y
        · have := q3 v a (by omega); omega
    · omega
  · by_cases z : d = c
    · exact ⟨i, i0, i1, by rw [z]; exact (hx i i0 i1).1 f2⟩
    · obtain ⟨v, v0, v1, v2⟩ := q4 d a (by omega)
      refine ⟨v, v0, v1, ?_⟩
      have : ¬ fnt f v := fun y => by have : p0 v < 0 := hU v v0 v1 y; omega
      rw [(hx v v0 v1).2 this]; exact v2
theorem pt1_end {r i c : Int} {A p : Int → Int} (h : PT1 r A p i c) : PTP r A p c := fun g => (h g).2.2.2
/-! tree -/
def RTK (root : Int → Int) (n k : Int) : Prop := ∀ c, 0 ≤ c → c < k → 0 ≤ root c ∧ root c < n
def RTJ (p root : Int → Int) (n i j : Int) : Prop := RTK root n i ∧ ((0 ≤ root i ∧ root i < n) ∨ (root i = -1 ∧ ∀ v, j < v → v < n → p v ≠ i))
theorem rtj_start {p root root_zq : Int → Int} {n i j q v : Int} (h : RTK root n i) (i0 : 0 ≤ i) (hs : st1 root root_zq q v) (hq : q = i) (hv : v = -1) (hj : n ≤ j + 1) : RTJ p root_zq n i j := by
  refine ⟨fun c a b => by rw [(hs c a).2 (by omega)]; exact h c a b, Or.inr ⟨by rw [(hs i i0).1 hq.symm, hv], fun v a b => by omega⟩⟩
theorem rtj_skip {p root : Int → Int} {n i j j_zq : Int} (h : RTJ p root n i j) (hj : j_zq = j - 1) (hp : p j ≠ i) : RTJ p root n i j_zq := by
  refine ⟨h.1, ?_⟩
  rcases h.2 with q | q
  · exact Or.inl q
  · refine Or.inr ⟨q.1, fun v a b => ?_⟩
    by_cases z : v = j
    · rw [z]; exact hp
    · exact q.2 v (by omega) b
theorem rtj_take {p root root_zq : Int → Int} {n i j j_zq q v : Int} (h : RTJ p root n i j) (i0 : 0 ≤ i) (hs : st1 root root_zq q v) (hq : q = i) (v0 : 0 ≤ v) (v1 : v < n) : RTJ p root_zq n i j_zq :=
  ⟨fun c a b => by rw [(hs c a).2 (by omega)]; exact h.1 c a b, Or.inl (by rw [(hs i i0).1 hq.symm]; omega)⟩
theorem rtj_end {r : Int} {A p root : Int → Int} {n i i_zq j c : Int} (h : RTJ p root n i j) (hj : j < 0) (hi : i_zq = i + 1) (hP : PTP r A p c) (hg : SG A r) (hn : n = A r) (i0 : 0 ≤ i) (ic : i < c) : RTK root n i_zq := by
  intro d a b
  by_cases z : d = i
  · rw [z]
    rcases h.2 with q | q
    · exact q
    · obtain ⟨v, v0, v1, v2⟩ := hP hg i i0 ic
      exact absurd v2 (q.2 v (by omega) (by omega))
  · exact h.1 d a (by omega)
theorem rtj_end2 {p root root_zq : Int → Int} {n i i_zq j q v : Int} (h : RTJ p root n i j) (hi : i_zq = i + 1) (i0 : 0 ≤ i) (hs : st1 root root_zq q v) (hq : q = i) (v0 : 0 ≤ v) (v1 : v < n) : RTK root_zq n i_zq := by
  intro d a b
  by_cases z : d = i
  · rw [(hs d a).1 (by omega)]; omega
  · rw [(hs d a).2 (by omega)]; exact h.1 d a (by omega)
def ABI (ab lv : Int → Int) (k : Int) : Prop := ∀ v, 0 ≤ v → v < k → ab v = -1 ∧ -1 ≤ lv v ∧ lv v ≤ 0
theorem abi_step {ab ab_zq lv lv' : Int → Int} {k k_zq p v q w : Int} (h : ABI ab lv k) (hk : k_zq = k + 1) (hs : st1 ab ab_zq p v) (hp : p = k) (hv : v = -1) (ht : st1 lv lv' q w) (hq : q = k) (hw : w = -1) : ABI ab_zq lv' k_zq := by
  intro x a b
  by_cases z : x = k
  · rw [(hs x a).1 (by omega), (ht x a).1 (by omega)]; omega
  · rw [(hs x a).2 (by omega), (ht x a).2 (by omega)]; exact h x a (by omega)
theorem abi_root {ab lv lv' : Int → Int} {k q w : Int} (h : ABI ab lv k) (ht : st1 lv lv' q w) (hw : w = 0) : ABI ab lv' k := by
  intro x a b
  have := h x a b
  by_cases z : x = q
  · rw [(ht x a).1 z]; omega
  · rw [(ht x a).2 z]; exact this
end
section
/-! greedyOrder -/
def cnl (f : Int → Int) : Nat → Int
  | 0 => 0
  | k + 1 => cnl f k + if f (k : Int) ≠ 0 then 1 else 0
theorem cnl_same {f g : Int → Int} (k : Nat) (h : ∀ j : Int, 0 ≤ j → j < k → g j = f j) : cnl g k = cnl f k := by
  induction k with
  | zero => rfl
  | succ k ih =>
    unfold cnl
    rw [ih (fun j a b => h j a (by push_cast; omega)), h k (by omega) (by push_cast; omega)]
theorem cnl_zero {f g : Int → Int} (k : Nat) {x : Int} (x0 : 0 ≤ x) (x1 : x < k) (hf : f x ≠ 0) (hg : g x = 0) (h : ∀ j : Int, 0 ≤ j → j ≠ x → g j = f j) : cnl g k + 1 = cnl f k := by
  induction k with
  | zero => exact absurd x1 (by push_cast; omega)
  | succ k ih =>
    unfold cnl
    by_cases z : x = k
    · rw [cnl_same (f := f) (g := g) k (fun j a b => h j a (by omega)), if_neg (show ¬ g (k : Int) ≠ 0 from fun y => y (z ▸ hg)), if_pos (show f (k : Int) ≠ 0 from z ▸ hf)]; omega
    · have := ih (by push_cast at x1; omega)
      rw [h k (by omega) (fun y => z y.symm)]; omega
theorem cnl_ex {f : Int → Int} (k : Nat) (h : 1 ≤ cnl f k) : ∃ v : Int, 0 ≤ v ∧ v < k ∧ f v ≠ 0 := by
  induction k with
  | zero => simp [cnl] at h
  | succ k ih =>
    by_cases z : f (k : Int) = 0
    · unfold cnl at h
      rw [if_neg (fun y => y z)] at h
      obtain ⟨v, a, b, c⟩ := ih (by omega)
      exact ⟨v, a, by push_cast; omega, c⟩
    · exact ⟨k, by omega, by push_cast; omega, z⟩
theorem cnl_nn (f : Int → Int) (k : Nat) : 0 ≤ cnl f k := by
  induction k with
  | zero => simp [cnl]
  | succ k ih => unfold cnl; split <;> omega
theorem cnl_list {mb : Int → Int} (n : Nat) (k : Nat) : ∀ f : Int → Int, (∀ s t : Int, 0 ≤ s → s < t → t < k → mb s ≠ mb t) → (∀ t : Int, 0 ≤ t → t < k → 0 ≤ mb t ∧ mb t < n ∧ f (mb t) ≠ 0) → (k : Int) ≤ cnl f n := by
  induction k with
  | zero => intro f _ _; have := cnl_nn f n; push_cast; omega
  | succ k ih =>
    intro f h1 h2
    have hk := h2 k (by omega) (by push_cast; omega)
    have i1 := ih (fun j => if j = mb k then 0 else f j) (fun s t a b c => h1 s t a b (by push_cast; omega)) (fun t a b => by
      have := h2 t a (by push_cast; omega)
      refine ⟨this.1, this.2.1, ?_⟩
      rw [if_neg (h1 t k a b (by push_cast; omega))]; exact this.2.2)
    have := cnl_zero (f := f) (g := fun j => if j = mb k then 0 else f j) n hk.1 hk.2.1 hk.2.2 (if_pos rfl) (fun j _ b => if_neg b)
    push_cast; omega
def MBN (n r : Int) (mb A : Int → Int) : Prop := (∀ s t, 0 ≤ s → s < t → t < n → mb s ≠ mb t) ∧ ∀ s, 0 ≤ s → s < n → 0 ≤ mb s ∧ mb s < A r
def ISL (n : Int) (mb : Int → Int) (v k : Int) : Prop := ∀ t, 0 ≤ t → t < k → mb t ≠ v
def ISM (n : Int) (mb : Int → Int) (v z : Int) : Prop := (∃ t, 0 ≤ t ∧ t < n ∧ mb t = v) → z ≠ 0
theorem isl_next {n : Int} {mb : Int → Int} {v k k_zq : Int} (h : ISL n mb v k) (hk : k_zq = k + 1) (hn : mb k ≠ v) : ISL n mb v k_zq := by
  intro t a b
  by_cases q : t = k
  · rw [q]; exact hn
  · exact h t a (by omega)
def LMB (n : Int) (lf mb : Int → Int) (k : Int) : Prop := ∀ t, 0 ≤ t → t < n → mb t < k → lf (mb t) ≠ 0
theorem lmb_step {n r k k_zq q v z : Int} {lf lf_zq mb A : Int → Int} (h : LMB n lf mb k) (hk : k_zq = k + 1) (hm : MBN n r mb A) (hs : st1 lf lf_zq q v) (hq : q = k) (hi : ISM n mb k z) (hv : v = z) : LMB n lf_zq mb k_zq := by
  intro t a b c
  by_cases y : mb t = k
  · rw [(hs _ (hm.2 t a b).1).1 (by omega), hv]; exact hi ⟨t, a, b, y⟩
  · rw [(hs _ (hm.2 t a b).1).2 (by omega)]; exact h t a b (by omega)
def GL1 (r : Int) (A lf : Int → Int) (a b : Int) : Prop := b + 1 ≤ cnl lf (A r).toNat + a
def GL2 (r : Int) (A lf : Int → Int) (x k : Int) : Prop := (0 ≤ x ∧ lf x ≠ 0 ∧ x < A r) ∨ (x < 0 ∧ ∀ v, 0 ≤ v → v < k → lf v = 0)
def GL3 (r : Int) (A lf : Int → Int) (x : Int) : Prop := x < 0 ∨ (lf x ≠ 0 ∧ x < A r)
theorem gl1_start {n r a b k : Int} {A lf mb : Int → Int} (n0 : 0 ≤ n) (hM : MBN n r mb A) (hL : LMB n lf mb k) (hk : A r ≤ k) (ha : a = 0) (hb : b = n - 1) : GL1 r A lf a b := by
  have := cnl_list (mb := mb) (A r).toNat n.toNat lf (fun s t x y z => hM.1 s t x y (by omega)) (fun t x y => by
    have h1 := hM.2 t x (by omega)
    exact ⟨h1.1, by omega, hL t x (by omega) (by omega)⟩)
  unfold GL1; omega
theorem gl1_ex {r a b x k : Int} {A lf : Int → Int} (h : GL1 r A lf a b) (hab : a ≤ b) (h2 : GL2 r A lf x k) (hk : A r ≤ k) : 0 ≤ x ∧ lf x ≠ 0 ∧ x < A r := by
  rcases h2 with q | q
  · exact q
  · exfalso
    unfold GL1 at h
    obtain ⟨v, v0, v1, v2⟩ := cnl_ex (f := lf) (A r).toNat (by omega)
    exact v2 (q.2 v v0 (by omega))
theorem gl1_step {r a b a_zq b_zq x q v : Int} {A lf lf_zq : Int → Int} (h : GL1 r A lf a b) (hx : 0 ≤ x ∧ lf x ≠ 0 ∧ x < A r) (hs : st1 lf lf_zq q v) (hq : q = x) (hv : v = 0) (hab : b_zq - a_zq = b - a - 1) : GL1 r A lf_zq a_zq b_zq := by
  have := cnl_zero (f := lf) (g := lf_zq) (A r).toNat hx.1 (by omega) hx.2.1 (by rw [(hs x hx.1).1 hq.symm, hv]) (fun j a b => (hs j a).2 (by omega))
  unfold GL1 at h ⊢; omega
theorem gl3_of {r x : Int} {A lf : Int → Int} (h : GL3 r A lf x) (x0 : 0 ≤ x) : 0 ≤ x ∧ lf x ≠ 0 ∧ x < A r := by
  rcases h with q | q
  · omega
  · exact ⟨x0, q⟩
theorem gl2_skip {r x k k_zq : Int} {A lf : Int → Int} (h : GL2 r A lf x k) (hk : k_zq = k + 1) (hl : 0 ≤ x ∨ lf k = 0) : GL2 r A lf x k_zq := by
  rcases h with q | q
  · exact Or.inl q
  · refine Or.inr ⟨q.1, fun v a b => ?_⟩
    by_cases z : v = k
    · rw [z]; rcases hl with y | y
      · omega
      · exact y
    · exact q.2 v a (by omega)
theorem mbn_take {n n_zq r i p v : Int} {mb mb_zq A : Int → Int} (h : MBN n r mb A) (h_zq : MBI n mb i) (n0 : 0 ≤ n) (hs : st1 mb mb_zq p v) (hp : p = n) (hv : v = i) (i0 : 0 ≤ i) (hi : i < A r) (hn : n_zq = n + 1) : MBN n_zq r mb_zq A := by
  refine ⟨(mbi_take h_zq n0 hs hp hv hn rfl).1, fun s a b => ?_⟩
  by_cases q : s = n
  · rw [(hs s a).1 (by omega)]; omega
  · rw [(hs s a).2 (by omega)]; exact h.2 s a (by omega)
end
section
/-! route: the rectangle -/
def RTB (l t g : Int) (X Y : Int → Int) (a b k : Int) : Prop := ∀ v, 0 ≤ v → v < k → l + 3 ≤ X (24 * g + v) ∧ X (24 * g + v) + 3 ≤ a ∧ t + 3 ≤ Y (24 * g + v) ∧ Y (24 * g + v) + 3 ≤ b
theorem rtb_step {l t g l_zq t_zq a b a_zq b_zq k k_zq x y w : Int} {X Y : Int → Int} (h : RTB l t g X Y a b k) (hk : k_zq = k + 1) (w3 : 3 ≤ w) (hx : x = X (24 * g + k)) (hy : y = Y (24 * g + k)) (l1 : l_zq ≤ l) (l2 : l_zq ≤ x - w) (t1 : t_zq ≤ t) (t2 : t_zq ≤ y - 3) (a1 : a ≤ a_zq) (a2 : x + w ≤ a_zq) (b1 : b ≤ b_zq) (b2 : y + 3 ≤ b_zq) : RTB l_zq t_zq g X Y a_zq b_zq k_zq := by
  intro v v0 v1
  by_cases q : v = k
  · rw [q, ← hx, ← hy]; omega
  · have := h v v0 (by omega); omega
theorem grid_cell {l t w h a b x y c : Int} (hw : w = a - l + 1) (hh : h = b - t + 1) (x1 : l + 3 ≤ x) (x2 : x + 3 ≤ a) (y1 : t + 3 ≤ y) (y2 : y + 3 ≤ b) (hc : c = (y - t) * w + x - l) : 1 ≤ w ∧ 1 ≤ h ∧ 0 ≤ c ∧ c < w * h := by
  refine ⟨by omega, by omega, ?_, ?_⟩
  · have := Int.mul_nonneg (show 0 ≤ y - t by omega) (show 0 ≤ w by omega); omega
  · have h1 : (y - t + 1) * w ≤ h * w := Int.mul_le_mul_of_nonneg_right (by omega) (by omega)
    rw [Int.add_mul, Int.one_mul] at h1
    rw [Int.mul_comm w h]; omega
def RTW (r l t g w h : Int) (A X Y : Int → Int) : Prop := (1 ≤ w ∧ 1 ≤ h ∧ w * h ≤ 6000) ∧ ∀ v, 0 ≤ v → v < A r → (l + 3 ≤ X (24 * g + v) ∧ X (24 * g + v) + 3 ≤ l + w - 1) ∧ t + 3 ≤ Y (24 * g + v) ∧ Y (24 * g + v) + 3 ≤ t + h - 1
theorem rtw_start {r l t g w h a b k p x y : Int} {A X Y : Int → Int} (hB : RTB l t g X Y a b k) (hk : A r ≤ k) (hg : SG A r) (he : 1 ≤ A (r + 1)) (hw : w = a - l + 1) (hh : h = b - t + 1) (hx : x = w) (hy : y = h) (hp : p = x * y) (h6 : p ≤ 6000) : RTW r l t g w h A X Y := by
  have h0 := hg.2.1 0 (by omega) (by omega)
  have h1 := hB _ h0.1 (by have := h0.2.1; omega)
  rw [hx, hy] at hp
  exact ⟨⟨by omega, by omega, by omega⟩, fun v a b => by have := hB v a (by omega); omega⟩
theorem rtw_cell {r l t g w h e v x y d p s q c : Int} {A X Y : Int → Int} (hR : RTW r l t g w h A X Y) (v0 : 0 ≤ v) (v1 : v < A r) (hx : x = X (24 * g + v)) (hy : y = Y (24 * g + v)) (hd : d = y - t) (he : e = w) (hp : p = d * e) (hs : s = p + x) (hc : c = s - l) : 0 ≤ c ∧ c ≤ 5999 := by
  have h1 := hR.2 v v0 v1
  rw [← hx, ← hy] at h1
  have := grid_cell (l := l) (t := t) (w := w) (h := h) (a := l + w - 1) (b := t + h - 1) (x := x) (y := y) (c := (y - t) * w + x - l) (by omega) (by omega) h1.1.1 h1.1.2 h1.2.1 h1.2.2 rfl
  have h6 := hR.1.2.2
  rw [hd, he] at hp
  omega
end
section
/-! augment: a flood with a way back -/
def AU0 (cb : Int → Int) (k : Int) : Prop := ∀ v, 0 ≤ v → v < k → cb v = -1
theorem au0_step {cb cb_zq : Int → Int} {k k_zq p v : Int} (h : AU0 cb k) (hk : k_zq = k + 1) (hs : st1 cb cb_zq p v) (hp : p = k) (hv : v = -1) : AU0 cb_zq k_zq := by
  intro x a b
  by_cases q : x = k
  · rw [(hs x a).1 (by omega), hv]
  · rw [(hs x a).2 (by omega)]; exact h x a (by omega)
def AU1 (q cb : Int → Int) (n s m : Int) : Prop := (1 ≤ m ∧ 0 ≤ s ∧ s < n ∧ n ≤ 78) ∧ (q 0 = s ∧ cb s = s) ∧ (∀ k, 0 ≤ k → k < m → 0 ≤ q k ∧ q k < n) ∧ (∀ j k, 0 ≤ j → j < k → k < m → q j ≠ q k) ∧ (∀ k, 1 ≤ k → k < m → ∃ j, 0 ≤ j ∧ j < k ∧ cb (q k) = q j) ∧ ∀ v, 0 ≤ v → v < n → 0 ≤ cb v → ∃ k, 0 ≤ k ∧ k < m ∧ q k = v
def AU2 (q cb : Int → Int) (n s m u : Int) : Prop := AU1 q cb n s m ∧ ∃ j, 0 ≤ j ∧ j < m ∧ q j = u
def AUW (q cb : Int → Int) (n s m x g : Int) : Prop := AU1 q cb n s m ∧ ∃ k, 0 ≤ k ∧ k ≤ g ∧ k < m ∧ q k = x
theorem cnl_ones (k : Nat) : cnl (fun _ => 1) k ≤ k := by
  induction k with
  | zero => simp [cnl]
  | succ k ih => unfold cnl; split <;> (push_cast; omega)
theorem pigeon {q : Int → Int} {n m : Int} (n0 : 0 ≤ n) (h1 : ∀ k, 0 ≤ k → k < m → 0 ≤ q k ∧ q k < n) (h2 : ∀ j k, 0 ≤ j → j < k → k < m → q j ≠ q k) : m ≤ n := by
  by_cases z : m ≤ 0
  · omega
  · have := cnl_list (mb := q) n.toNat m.toNat (fun _ => 1) (fun s t a b c => h2 s t a b (by omega)) (fun t a b => by
      have := h1 t a (by omega); exact ⟨this.1, by omega, by omega⟩)
    have := cnl_ones n.toNat
    omega
theorem au1_start {q q_zq cb cb_zq : Int → Int} {n s m k p v i w : Int} (h : AU0 cb k) (hk : n ≤ k) (s0 : 0 ≤ s) (s1 : s < n) (n78 : n ≤ 78) (hs : st1 cb cb_zq p v) (hp : p = s) (hv : v = s) (ht : st1 q q_zq i w) (hi : i = 0) (hw : w = s) (hm : m = 1) : AU1 q_zq cb_zq n s m := by
  have q0 : q_zq 0 = s := by rw [(ht 0 (by omega)).1 hi.symm, hw]
  refine ⟨by omega, ⟨q0, by rw [(hs s s0).1 hp.symm, hv]⟩, fun k a b => ?_, fun j k a b c => by omega, fun k a b => by omega, fun v a b c => ?_⟩
  · rw [show k = 0 by omega, q0]; omega
  · by_cases z : v = s
    · exact ⟨0, by omega, by omega, by rw [q0, z]⟩
    · rw [(hs v a).2 (by omega)] at c; have := h v a (by omega); omega
theorem au1_in {q cb : Int → Int} {n s m k : Int} (h : AU1 q cb n s m) (k0 : 0 ≤ k) (k1 : k < m) : 0 ≤ cb (q k) := by
  obtain ⟨h1, h2, h3, h4, h5, h6⟩ := h
  by_cases z : k = 0
  · rw [z, h2.1, h2.2]; omega
  · obtain ⟨j, j0, j1, j2⟩ := h5 k (by omega) k1
    rw [j2]; exact (h3 j j0 (by omega)).1
theorem au1_room {q cb : Int → Int} {n s m v : Int} (h : AU1 q cb n s m) (v0 : 0 ≤ v) (v1 : v < n) (hv : cb v < 0) : m + 1 ≤ n := by
  obtain ⟨h1, h2, h3, h4, h5, h6⟩ := h
  have hn : ∀ k, 0 ≤ k → k < m → q k ≠ v := fun k a b e => by
    have := au1_in ⟨h1, h2, h3, h4, h5, h6⟩ a b; rw [e] at this; omega
  refine pigeon (q := fun k => if k = m then v else q k) (by omega) (fun k a b => ?_) (fun j k a b c => ?_)
  · split
    · omega
    · exact h3 k a (by omega)
  · rw [if_neg (show ¬ j = m by omega)]
    by_cases z : k = m
    · rw [if_pos z]; exact hn j a (by omega)
    · rw [if_neg z]; exact h4 j k a b (by omega)
theorem au1_len {q cb : Int → Int} {n s m : Int} (h : AU1 q cb n s m) : 1 ≤ m ∧ m ≤ n ∧ n ≤ 78 := by
  have := pigeon (q := q) (n := n) (m := m) (by have := h.1; omega) h.2.2.1 h.2.2.2.1
  have := h.1; omega
theorem au2_start {q cb : Int → Int} {n s m k u : Int} (h : AU1 q cb n s m) (k0 : 0 ≤ k) (k1 : k < m) (hu : u = q k) : AU2 q cb n s m u := ⟨h, k, k0, k1, hu.symm⟩
theorem au2_step {q q_zq cb cb_zq : Int → Int} {n s m m_zq u p v i w : Int} (h : AU2 q cb n s m u) (hm : m_zq = m + 1) (p0 : 0 ≤ p) (p1 : p < n) (hc : cb p < 0) (hs : st1 cb cb_zq p v) (hv : v = u) (ht : st1 q q_zq i w) (hi : i = m) (hw : w = p) : AU2 q_zq cb_zq n s m_zq u := by
  obtain ⟨h0, a, a0, a1, a2⟩ := h
  have hn : ∀ k, 0 ≤ k → k < m → q k ≠ p := fun k x y e => by
    have := au1_in h0 x y; rw [e] at this; omega
  obtain ⟨h1, h2, h3, h4, h5, h6⟩ := h0
  have eq : ∀ k, 0 ≤ k → k < m → q_zq k = q k := fun k x y => (ht k x).2 (by omega)
  have em : q_zq m = p := by rw [(ht m (by omega)).1 hi.symm, hw]
  have ec : ∀ k, 0 ≤ k → k < m → cb_zq (q k) = cb (q k) := fun k x y => (hs _ (h3 k x y).1).2 (hn k x y)
  have sp : s ≠ p := fun e => by have := hn 0 (by omega) (by omega); rw [h2.1] at this; exact this e
  refine ⟨⟨by omega, ⟨by rw [eq 0 (by omega) (by omega)]; exact h2.1, by rw [(hs s (by omega)).2 sp]; exact h2.2⟩, fun k x y => ?_, fun j k x y z => ?_, fun k x y => ?_, fun x x0 x1 hx => ?_⟩, a, a0, by omega, by rw [eq a a0 a1]; exact a2⟩
  · by_cases z : k = m
    · rw [z, em]; omega
    · rw [eq k x (by omega)]; exact h3 k x (by omega)
  · rw [eq j x (by omega)]
    by_cases e : k = m
    · rw [e, em]; exact hn j x (by omega)
    · rw [eq k (by omega) (by omega)]; exact h4 j k x y (by omega)
  · by_cases e : k = m
    · exact ⟨a, a0, by omega, by rw [e, em, (hs p p0).1 rfl, hv, eq a a0 a1, a2]⟩
    · obtain ⟨j, j0, j1, j2⟩ := h5 k x (by omega)
      exact ⟨j, j0, j1, by rw [eq k (by omega) (by omega), ec k (by omega) (by omega), eq j j0 (by omega)]; exact j2⟩
  · by_cases e : x = p
    · exact ⟨m, by omega, by omega, by rw [em, e]⟩
    · rw [(hs x x0).2 e] at hx
      obtain ⟨k, k0, k1, k2⟩ := h6 x x0 x1 hx
      exact ⟨k, k0, by omega, by rw [eq k k0 k1]; exact k2⟩
theorem auw_start {q cb : Int → Int} {n s m x g : Int} (h : AU1 q cb n s m) (x0 : 0 ≤ x) (x1 : x < n) (hx : 0 ≤ cb x) (hg : 80 ≤ g) : AUW q cb n s m x g := by
  obtain ⟨k, k0, k1, k2⟩ := h.2.2.2.2.2 x x0 x1 hx
  exact ⟨h, k, k0, by have := au1_len h; omega, k1, k2⟩
theorem auw_step {q cb : Int → Int} {n s m x y g g_zq : Int} (h : AUW q cb n s m x g) (hx : x ≠ s) (hy : y = cb x) (hg : g ≤ g_zq + 1) : AUW q cb n s m y g_zq ∧ 0 ≤ y ∧ y ≤ 77 ∧ 1 ≤ g := by
  obtain ⟨h0, k, k0, kg, k1, k2⟩ := h
  have hk : k ≠ 0 := fun e => hx (by rw [← k2, e]; exact h0.2.1.1)
  obtain ⟨j, j0, j1, j2⟩ := h0.2.2.2.2.1 k (by omega) k1
  rw [k2] at j2
  have := h0.2.2.1 j j0 (by omega)
  have := h0.1
  rw [hy, j2]
  exact ⟨⟨h0, j, j0, by omega, by omega, rfl⟩, by omega, by omega, by omega⟩
theorem au_idx {a b c p i : Int} (hi : i = p + c) (hp : p = a * b) (a0 : 0 ≤ a) (a1 : a ≤ 78) (b0 : 0 ≤ b) (b1 : b ≤ 77) (c0 : 0 ≤ c) (c1 : c ≤ 77) : 0 ≤ i ∧ i ≤ 6083 := by
  have h1 := Int.mul_nonneg a0 b0
  have h2 : a * b ≤ 78 * 77 := Int.mul_le_mul a1 b1 b0 (by omega)
  omega
theorem auw_bd {q cb : Int → Int} {n s m x g : Int} (h : AUW q cb n s m x g) : 0 ≤ x ∧ x ≤ 77 := by
  obtain ⟨h0, k, k0, kg, k1, k2⟩ := h
  have := h0.2.2.1 k k0 k1
  have := h0.1
  omega
theorem auw_of {q cb : Int → Int} {n s m x g : Int} (h : AU2 q cb n s m x) (hg : 80 ≤ g) : AUW q cb n s m x g := by
  obtain ⟨h0, k, k0, k1, k2⟩ := h
  exact ⟨h0, k, k0, by have := au1_len h0; omega, k1, k2⟩
theorem au2_of {q cb : Int → Int} {n s m x : Int} (h : AU1 q cb n s m) (x0 : 0 ≤ x) (x1 : x < n) (hx : 0 ≤ cb x) : AU2 q cb n s m x := by
  obtain ⟨k, k0, k1, k2⟩ := h.2.2.2.2.2 x x0 x1 hx
  exact ⟨h, k, k0, k1, k2⟩
def AUX (q cb : Int → Int) (n s m x g : Int) : Prop := AUW q cb n s m x (g - 1)
end
section
/-! tables of orders -/
def PTB (pb pm pp : Int → Int) : Prop := ∀ s, 0 ≤ s → s ≤ 6 → (0 ≤ pb s ∧ 1 ≤ pm s ∧ pm s ≤ 720 ∧ pb s + s * pm s ≤ 6000 ∧ ∀ i, 0 ≤ i → i < s * pm s → (0 ≤ pp (pb s + i) ∧ pp (pb s + i) < s)) ∧ ∀ k i j, 0 ≤ k → k < pm s → 0 ≤ i → i < j → j < s → pp (pb s + s * k + i) ≠ pp (pb s + s * k + j)
def PWX (pp : Int → Int) (s b : Int) : Prop := ∀ j, 0 ≤ j → j < s → (0 ≤ b + j ∧ b + j ≤ 5999) ∧ 0 ≤ pp (b + j) ∧ pp (b + j) < s
theorem pwx_start {pb pm pp : Int → Int} {s k b a p : Int} (h : PTB pb pm pp) (s0 : 0 ≤ s) (s6 : s ≤ 6) (k0 : 0 ≤ k) (k1 : k < pm s) (ha : a = pb s) (hp : p = s * k) (hb : b = a + p) : PWX pp s b := by
  intro j j0 j1
  obtain ⟨⟨h1, h2, _, h3, h4⟩, _⟩ := h s s0 s6
  have e1 : s * (k + 1) ≤ s * pm s := Int.mul_le_mul_of_nonneg_left (by omega) s0
  rw [Int.mul_add, Int.mul_one] at e1
  have e2 := Int.mul_nonneg s0 k0
  have := h4 (s * k + j) (by omega) (by omega)
  rw [show b + j = pb s + (s * k + j) by omega]
  exact ⟨by omega, this⟩
def LSL (m : Int) (ls a b : Int → Int) : Prop := ∀ i, 0 ≤ i → i < m → (0 ≤ ls (a i) ∧ ls (a i) ≤ 5) ∧ 0 ≤ ls (b i) ∧ ls (b i) ≤ 5
end
section
/-! flows: sums, a cut's weight, a push along a way -/
theorem sm_zero {f : Int → Int} {n : Int} (h : n ≤ 0) : sm f n = 0 := by
  rw [sm_is, show n.toNat = 0 by omega]; rfl
theorem sm_succ {f : Int → Int} {n m : Int} (h : 0 ≤ n) (hm : m = n + 1) : sm f m = sm f n + f n := by
  rw [sm_is, sm_is, hm, show (n + 1).toNat = n.toNat + 1 by omega]
  show smN f n.toNat + f ((n.toNat : Nat) : Int) = _
  rw [show ((n.toNat : Nat) : Int) = n by omega]
theorem sm_ind {P : Int → Prop} (h0 : P 0) (hs : ∀ n, 0 ≤ n → P n → P (n + 1)) : ∀ n, 0 ≤ n → P n := by
  intro n hn
  have : ∀ k : Nat, P (k : Int) := fun k => by
    induction k with
    | zero => exact h0
    | succ k ih => rw [show ((k + 1 : Nat) : Int) = (k : Int) + 1 by omega]; exact hs k (by omega) ih
  have := this n.toNat
  rwa [show ((n.toNat : Nat) : Int) = n by omega] at this
theorem sm_congr {f g : Int → Int} {n : Int} (h : ∀ j, 0 ≤ j → j < n → f j = g j) : sm f n = sm g n := by
  by_cases hn : n ≤ 0
  · rw [sm_zero hn, sm_zero hn]
  · have := sm_ind (P := fun k => k ≤ n → sm f k = sm g k) (fun _ => by rw [sm_zero (by omega), sm_zero (by omega)]) (fun k k0 ih hk => by
      rw [sm_succ k0 rfl, sm_succ k0 rfl, ih (by omega), h k k0 (by omega)]) n (by omega)
    exact this (by omega)
theorem sm_add2 {f g k : Int → Int} {n : Int} (h : ∀ j, 0 ≤ j → j < n → k j = f j + g j) : sm k n = sm f n + sm g n := by
  by_cases hn : n ≤ 0
  · rw [sm_zero hn, sm_zero hn, sm_zero hn]; rfl
  · have := sm_ind (P := fun q => q ≤ n → sm k q = sm f q + sm g q) (fun _ => by rw [sm_zero (by omega), sm_zero (by omega), sm_zero (by omega)]; rfl) (fun q q0 ih hq => by
      have := h q q0 (by omega)
      have := ih (by omega)
      rw [sm_succ q0 rfl, sm_succ q0 rfl, sm_succ q0 rfl]; omega) n (by omega)
    exact this (by omega)
theorem sm_mul {f k : Int → Int} {n c : Int} (h : ∀ j, 0 ≤ j → j < n → k j = c * f j) : sm k n = c * sm f n := by
  by_cases hn : n ≤ 0
  · rw [sm_zero hn, sm_zero hn]; simp
  · have := sm_ind (P := fun q => q ≤ n → sm k q = c * sm f q) (fun _ => by rw [sm_zero (by omega), sm_zero (by omega)]; simp) (fun q q0 ih hq => by
      rw [sm_succ q0 rfl, sm_succ q0 rfl, ih (by omega), h q q0 (by omega), Int.mul_add]) n (by omega)
    exact this (by omega)
theorem sm_mono {f g : Int → Int} {n : Int} (h : ∀ j, 0 ≤ j → j < n → f j ≤ g j) : sm f n ≤ sm g n := by
  rw [sm_is, sm_is]; exact sm_le n.toNat (fun j a b => h j a (by omega))
theorem sm_nil {f : Int → Int} {n : Int} (h : ∀ j, 0 ≤ j → j < n → f j = 0) : sm f n = 0 := by
  have := sm_mul (f := f) (k := f) (n := n) (c := 0) (fun j a b => by rw [h j a b]; simp)
  omega
theorem sm_nn {f : Int → Int} {n : Int} (h : ∀ j, 0 ≤ j → j < n → 0 ≤ f j) : 0 ≤ sm f n := by
  have := sm_mono (f := fun _ => 0) (g := f) (n := n) h
  rw [sm_nil (f := fun _ => 0) (fun _ _ _ => rfl)] at this; exact this
theorem sm_pt {f g : Int → Int} {n p : Int} (p0 : 0 ≤ p) (p1 : p < n) (h : ∀ j, 0 ≤ j → j < n → j ≠ p → g j = f j) : sm g n = sm f n + (g p - f p) := by
  have := sm_ind (P := fun q => q ≤ n → sm g q = sm f q + (if p < q then g p - f p else 0)) (fun _ => by rw [sm_zero (by omega), sm_zero (by omega), if_neg (by omega)]; rfl) (fun q q0 ih hq => by
      have i1 := ih (by omega)
      rw [sm_succ q0 rfl, sm_succ q0 rfl]
      by_cases e : q = p
      · subst e; rw [if_neg (by omega)] at i1; rw [if_pos (by omega)]; omega
      · have := h q q0 (by omega) e
        by_cases l : p < q
        · rw [if_pos l] at i1; rw [if_pos (by omega)]; omega
        · rw [if_neg l] at i1; rw [if_neg (by omega)]; omega) n (by omega) (by omega)
  rw [if_pos p1] at this; exact this
theorem sm_one {f : Int → Int} {n p : Int} (p0 : 0 ≤ p) (p1 : p < n) (h : ∀ j, 0 ≤ j → j < n → 0 ≤ f j) : f p ≤ sm f n := by
  have h1 := sm_pt (f := fun j => if j = p then 0 else f j) (g := f) p0 p1 (fun j _ _ e => by rw [if_neg e])
  have h2 := sm_nn (f := fun j => if j = p then 0 else f j) (n := n) (fun j a b => by
    show 0 ≤ if j = p then 0 else f j
    split
    · omega
    · exact h j a b)
  simp only [if_pos] at h1
  omega
/-- the cells of a table of n rows -/
theorem tb_ix {n i j q : Int} (hq : q = n * i + j) (i0 : 0 ≤ i) (i1 : i < n) (j0 : 0 ≤ j) (j1 : j < n) : q / n = i ∧ q % n = j ∧ 0 ≤ q ∧ q < n * n := by
  have h1 : q / n = i := by rw [hq, Int.mul_comm, Int.add_comm, Int.add_mul_ediv_right _ _ (by omega), Int.ediv_eq_zero_of_lt j0 j1]; omega
  have h2 : q % n = j := by rw [hq, Int.add_comm, Int.add_mul_emod_self_left, Int.emod_eq_of_lt j0 j1]
  have h3 : 0 ≤ n * i := Int.mul_nonneg (by omega) i0
  have h4 : n * (i + 1) ≤ n * n := Int.mul_le_mul_of_nonneg_left (by omega) (by omega)
  rw [Int.mul_add, Int.mul_one] at h4
  exact ⟨h1, h2, by omega, by omega⟩
theorem tb_ne {n i j i_zq j_zq : Int} (i0 : 0 ≤ i) (i1 : i < n) (j0 : 0 ≤ j) (j1 : j < n) (i0_zq : 0 ≤ i_zq) (i1_zq : i_zq < n) (j0_zq : 0 ≤ j_zq) (j1_zq : j_zq < n) (h : n * i + j = n * i_zq + j_zq) : i = i_zq ∧ j = j_zq := by
  have h1 := tb_ix (q := n * i + j) rfl i0 i1 j0 j1
  have h2 := tb_ix (q := n * i + j) h i0_zq i1_zq j0_zq j1_zq
  omega
theorem tb_of {n q : Int} (q0 : 0 ≤ q) (q1 : q < n * n) (n0 : 0 ≤ n) : 0 ≤ q / n ∧ q / n < n ∧ 0 ≤ q % n ∧ q % n < n ∧ q = n * (q / n) + q % n := by
  have hn : 0 < n := by
    by_cases z : n = 0
    · subst z; omega
    · omega
  refine ⟨Int.ediv_nonneg q0 n0, Int.ediv_lt_of_lt_mul hn q1, Int.emod_nonneg q (by omega), Int.emod_lt_of_pos q hn, ?_⟩
  have := Int.mul_ediv_add_emod q n
  omega
def cfc (n : Int) (u : Int → Int) (q : Int) : Int := u (q / n) * (1 - u (q % n))
noncomputable def XF (F : Int → Int) (n : Int) (u : Int → Int) : Int := sm (fun q => F q * cfc n u q) (n * n)
def uS (s : Int) (i : Int) : Int := if i = s then 1 else 0
def ind (u : Int → Int) (n s t : Int) : Prop := (∀ i, 0 ≤ i → i < n → u i = 0 ∨ u i = 1) ∧ u s = 1 ∧ u t = 0
theorem ind_uS {n s t : Int} (h : s ≠ t) : ind (uS s) n s t := by
  refine ⟨fun i _ _ => ?_, by simp [uS], by simp [uS]; omega⟩
  unfold uS; split <;> simp
theorem xf_st {F F_zq : Int → Int} {n q v i j : Int} (u : Int → Int) (hs : st1 F F_zq q v) (hq : q = n * i + j) (i0 : 0 ≤ i) (i1 : i < n) (j0 : 0 ≤ j) (j1 : j < n) : XF F_zq n u = XF F n u + (v - F q) * (u i * (1 - u j)) := by
  obtain ⟨h1, h2, h3, h4⟩ := tb_ix hq i0 i1 j0 j1
  unfold XF
  rw [sm_pt (f := fun q => F q * cfc n u q) h3 h4 (fun x x0 _ e => by (try simp only []); rw [(hs x x0).2 e])]
  (try simp only [])
  rw [(hs q h3).1 rfl, show cfc n u q = u i * (1 - u j) by unfold cfc; rw [h1, h2], Int.sub_mul]
theorem cfc_01 {n q : Int} {u : Int → Int} {s t : Int} (hu : ind u n s t) (q0 : 0 ≤ q) (q1 : q < n * n) (n0 : 0 ≤ n) : cfc n u q = 0 ∨ cfc n u q = 1 := by
  obtain ⟨a, b, c, d, e⟩ := tb_of q0 q1 n0
  unfold cfc
  rcases hu.1 _ a b with x | x <;> rcases hu.1 _ c d with y | y <;> rw [x, y] <;> simp
theorem xf_nn {F : Int → Int} {n s t : Int} {u : Int → Int} (hu : ind u n s t) (n0 : 0 ≤ n) (h : ∀ q, 0 ≤ q → q < n * n → 0 ≤ F q) : 0 ≤ XF F n u :=
  sm_nn (fun q a b => by
    rcases cfc_01 hu a b n0 with x | x <;> (try simp only []) <;> rw [x]
    · simp
    · have := h q a b; omega)
theorem xf_ge {F : Int → Int} {n s t i j : Int} {u : Int → Int} (hu : ind u n s t) (h : ∀ q, 0 ≤ q → q < n * n → 0 ≤ F q) (i0 : 0 ≤ i) (i1 : i < n) (j0 : 0 ≤ j) (j1 : j < n) (ui : u i = 1) (uj : u j = 0) : F (n * i + j) ≤ XF F n u := by
  obtain ⟨h1, h2, h3, h4⟩ := tb_ix (q := n * i + j) rfl i0 i1 j0 j1
  have := sm_one (f := fun q => F q * cfc n u q) h3 h4 (fun q a b => by
    rcases cfc_01 hu a b (by omega) with x | x <;> (try simp only []) <;> rw [x]
    · simp
    · have := h q a b; omega)
  (try simp only [] at this)
  rw [show cfc n u (n * i + j) = 1 by unfold cfc; rw [h1, h2, ui, uj]; rfl] at this
  unfold XF; omega
theorem xf_z {F : Int → Int} {n s t : Int} {u : Int → Int} (hu : ind u n s t) (n0 : 0 ≤ n) (h : ∀ i j, 0 ≤ i → i < n → 0 ≤ j → j < n → u i = 1 → u j = 0 → F (n * i + j) = 0) : XF F n u = 0 :=
  sm_nil (fun q a b => by
    obtain ⟨c1, c2, c3, c4, c5⟩ := tb_of a b n0
    (try simp only [])
    rcases hu.1 _ c1 c2 with x | x
    · unfold cfc; rw [x]; simp
    · rcases hu.1 _ c3 c4 with y | y
      · have := h _ _ c1 c2 c3 c4 x y; rw [← c5] at this; rw [this]; simp
      · unfold cfc; rw [y]; simp)
/-- how a cost rises where u rises -/
def edg (y : Int → Int) (pl a b : Int) (u : Int → Int) : Int := if pl ≠ 0 ∨ y a < y b then u b - u a else if y b < y a then u a - u b else if u a = u b then 0 else 1
noncomputable def slp (m : Int) (A B W PL y u : Int → Int) : Int := sm (fun k => W k * edg y (PL k) (A k) (B k) u) m
noncomputable def vio (m : Int) (A B D y u : Int → Int) : Int := sm (fun k => if y (B k) - y (A k) = D k then u (A k) * (1 - u (B k)) else 0) m
noncomputable def KK (cm am : Int) (y cA cB cW PL aA aB aD u : Int → Int) : Int := slp cm cA cB cW PL y u + 1000000 * vio am aA aB aD y u
/-- costs and distances are between points -/
def PBK (p cm am : Int) (cA cB cW PL aA aB aD : Int → Int) : Prop := (0 ≤ p ∧ p ≤ 76 ∧ 0 ≤ cm ∧ cm ≤ 200 ∧ 0 ≤ am ∧ am ≤ 200) ∧ (∀ k, 0 ≤ k → k < cm → (0 ≤ cA k ∧ cA k < p) ∧ (0 ≤ cB k ∧ cB k < p) ∧ 0 ≤ cW k ∧ cW k ≤ 72) ∧ ∀ k, 0 ≤ k → k < am → (0 ≤ aA k ∧ aA k < p) ∧ (0 ≤ aB k ∧ aB k < p) ∧ 1 ≤ aD k ∧ aD k ≤ 202
def FLO (p cm am : Int) (F y cA cB cW PL aA aB aD : Int → Int) : Prop := PBK p cm am cA cB cW PL aA aB aD ∧ (∀ i j, 0 ≤ i → i < p + 2 → 0 ≤ j → j < p + 2 → 0 ≤ F ((p + 2) * i + j) ∧ F ((p + 2) * i + j) + F ((p + 2) * j + i) ≤ 410000000) ∧ ∀ u, ind u (p + 2) p (p + 1) → XF F (p + 2) u - XF F (p + 2) (uS p) = KK cm am y cA cB cW PL aA aB aD u
def XLE (p : Int) (F : Int → Int) (g : Int) : Prop := XF F (p + 2) (uS p) ≤ g
def XLA (p : Int) (F : Int → Int) (a g : Int) : Prop := a ≠ 0 → XF F (p + 2) (uS p) ≤ g - 1
theorem flo_q {p cm am : Int} {F y cA cB cW PL aA aB aD : Int → Int} (h : FLO p cm am F y cA cB cW PL aA aB aD) : ∀ q, 0 ≤ q → q < (p + 2) * (p + 2) → 0 ≤ F q := fun q a b => by
  obtain ⟨c1, c2, c3, c4, c5⟩ := tb_of a b (by have := h.1.1; omega)
  have := (h.2.1 _ _ c1 c2 c3 c4).1
  rwa [← c5] at this
end
section
/-! augment: what the flood and the push keep -/
def stq (cb : Int → Int) (s a b : Int) : Prop := a ≠ s ∧ b = cb a
/-- who is reached came by an edge with room -/
def FPT (F cb : Int → Int) (n s : Int) : Prop := ∀ v, 0 ≤ v → v < n → 0 ≤ cb v → v ≠ s → F (n * cb v + v) ≠ 0
/-- nobody who has left the queue has room towards one that is not reached -/
def BF1 (F q cb : Int → Int) (n f : Int) : Prop := ∀ k, 0 ≤ k → k < f → ∀ j, 0 ≤ j → j < n → cb j < 0 → F (n * q k + j) = 0
def BF2 (F cb : Int → Int) (n i j : Int) : Prop := ∀ x, 0 ≤ x → x < j → cb x < 0 → F (n * i + x) = 0
theorem fpt_start {F cb cb_zq : Int → Int} {n s k p v : Int} (h : AU0 cb k) (hk : n ≤ k) (hs : st1 cb cb_zq p v) (hp : p = s) : FPT F cb_zq n s := by
  intro x a b c d
  rw [(hs x a).2 (by omega)] at c
  have := h x a (by omega); omega
theorem fpt_step {F cb cb_zq : Int → Int} {n s i p v q : Int} (h : FPT F cb n s) (hs : st1 cb cb_zq p v) (hv : v = i) (hq : q = n * i + p) (hF : F q ≠ 0) (p0 : 0 ≤ p) : FPT F cb_zq n s := by
  intro x a b c d
  by_cases e : x = p
  · rw [(hs x a).1 e, hv, e, ← hq]; exact hF
  · rw [(hs x a).2 e] at c ⊢; exact h x a b c d
theorem bf1_step {F q cb cb_zq q_zq : Int → Int} {n f p v i w : Int} (h : BF1 F q cb n f) (hs : st1 cb cb_zq p v) (v0 : 0 ≤ v) (ht : st1 q q_zq i w) (hi : f ≤ i) : BF1 F q_zq cb_zq n f := by
  intro k a b j c d e
  rw [(ht k a).2 (by omega)]
  by_cases z : j = p
  · rw [(hs j c).1 z] at e; omega
  · rw [(hs j c).2 z] at e; exact h k a b j c d e
theorem bf1_zero {F q cb : Int → Int} {n f : Int} (h : f ≤ 0) : BF1 F q cb n f := fun k a b => by omega
theorem bf1_next {F q cb : Int → Int} {n f f_zq i j : Int} (h : BF1 F q cb n f) (h2 : BF2 F cb n i j) (hj : n ≤ j) (hi : i = q f) (hf : f_zq = f + 1) : BF1 F q cb n f_zq := by
  intro k a b x c d e
  by_cases z : k = f
  · rw [z, ← hi]; exact h2 x c (by omega) e
  · exact h k a (by omega) x c d e
theorem bf2_zero {F cb : Int → Int} {n i j : Int} (h : j ≤ 0) : BF2 F cb n i j := fun k a b => by omega
theorem bf2_step {F cb cb_zq : Int → Int} {n i j j_zq p v : Int} (h : BF2 F cb n i j) (hj : j_zq = j + 1) (hs : st1 cb cb_zq p v) (hp : p = j) (v0 : 0 ≤ v) : BF2 F cb_zq n i j_zq := by
  intro x a b c
  by_cases e : x = p
  · rw [(hs x a).1 e] at c; omega
  · rw [(hs x a).2 e] at c; exact h x a (by omega) c
theorem bf2_skip {F cb : Int → Int} {n i j j_zq : Int} (h : BF2 F cb n i j) (hj : j_zq = j + 1) (hc : 0 ≤ cb j ∨ F (n * i + j) = 0) : BF2 F cb n i j_zq := by
  intro x a b c
  by_cases e : x = j
  · subst e; rcases hc with z | z
    · omega
    · exact z
  · exact h x a (by omega) c
/-- no way on: a cut -/
def CUT (F cb : Int → Int) (n s t : Int) : Prop := (0 ≤ cb s ∧ cb t < 0) ∧ (∀ i j, 0 ≤ i → i < n → 0 ≤ j → j < n → 0 ≤ cb i → cb j < 0 → F (n * i + j) = 0) ∧ FPT F cb n s ∧ ∃ q m, AU1 q cb n s m
def CTA (F cb : Int → Int) (n s t a : Int) : Prop := a = 0 → CUT F cb n s t
theorem cut_of {F q cb : Int → Int} {n s t m f : Int} (h : AU1 q cb n s m) (h2 : FPT F cb n s) (h3 : BF1 F q cb n f) (hf : m ≤ f) (ht : cb t < 0) : CUT F cb n s t := by
  refine ⟨⟨by rw [h.2.1.2]; exact h.1.2.1, ht⟩, fun i j a b c d e g => ?_, h2, q, m, h⟩
  obtain ⟨k, k0, k1, k2⟩ := h.2.2.2.2.2 i a b e
  have := h3 k k0 (by omega) j c d g
  rwa [k2] at this
theorem stp_split {cb : Int → Int} {s x y : Int} (h : rc (stq cb s) x y) : y = x ∨ (x ≠ s ∧ rc (stq cb s) (cb x) y) := by
  refine h (fun z => z = x ∨ (x ≠ s ∧ rc (stq cb s) (cb x) z)) (fun a b r g => ?_) (Or.inl rfl)
  rcases g with g | ⟨g1, g2⟩
  · subst g; exact Or.inr ⟨r.1, by rw [r.2]; exact fun L _ z => z⟩
  · exact Or.inr ⟨g1, fun L hL z => hL a b r (g2 L hL z)⟩
theorem stp_one {cb : Int → Int} {s x y : Int} (hx : x ≠ s) (h : rc (stq cb s) (cb x) y) : rc (stq cb s) x y := fun L hL z => h L hL (hL x (cb x) ⟨hx, rfl⟩ z)
theorem stp_idx {q cb : Int → Int} {n s m x y k : Int} (h : AU1 q cb n s m) (hr : rc (stq cb s) x y) (k0 : 0 ≤ k) (k1 : k < m) (hx : q k = x) : ∃ j, 0 ≤ j ∧ j ≤ k ∧ q j = y := by
  refine hr (fun z => ∃ j, 0 ≤ j ∧ j ≤ k ∧ q j = z) (fun a b r g => ?_) ⟨k, k0, by omega, hx⟩
  obtain ⟨j, j0, j1, j2⟩ := g
  have hj : j ≠ 0 := fun e => r.1 (by rw [← j2, e]; exact h.2.1.1)
  obtain ⟨i, i0, i1, i2⟩ := h.2.2.2.2.1 j (by omega) (by omega)
  exact ⟨i, i0, by omega, by rw [r.2, ← j2, i2]⟩
/-- the least room of the way gone over -/
def MN1 (F cb : Int → Int) (n s t x m : Int) : Prop := (1 ≤ m ∧ m ≤ 1000000) ∧ ∀ y, rc (stq cb s) t y → y ≠ s → rc (stq cb s) x y ∨ m ≤ F (n * cb y + y)
theorem mn1_start {F cb : Int → Int} {n s t x m : Int} (hx : x = t) (hm : m = 1000000) : MN1 F cb n s t x m := ⟨by omega, fun y a _ => Or.inl (by rw [hx]; exact a)⟩
theorem mn1_step {F cb : Int → Int} {n s t x z m m_zq f q : Int} (h : MN1 F cb n s t x m) (hx : x ≠ s) (hz : z = cb x) (hq : q = n * z + x) (hf : f = F q) (f1 : 1 ≤ f) (hm : m_zq ≤ m) (hm2 : m_zq ≤ f) (hm3 : 1 ≤ m_zq) : MN1 F cb n s t z m_zq := by
  refine ⟨by have := h.1; omega, fun y a b => ?_⟩
  rcases h.2 y a b with g | g
  · rcases stp_split g with e | e
    · right; rw [e, ← hz, ← hq, ← hf]; exact hm2
    · left; rw [hz]; exact e.2
  · right; omega
def PSH (p cm am : Int) (F cb y cA cB cW PL aA aB aD : Int → Int) (m x g : Int) : Prop := PBK p cm am cA cB cW PL aA aB aD ∧ (1 ≤ m ∧ m ≤ 1000000) ∧ (∀ v, rc (stq cb p) x v → v ≠ p → m ≤ F ((p + 2) * cb v + v)) ∧ (∀ i j, 0 ≤ i → i < p + 2 → 0 ≤ j → j < p + 2 → 0 ≤ F ((p + 2) * i + j) ∧ F ((p + 2) * i + j) + F ((p + 2) * j + i) ≤ 410000000) ∧ (∀ u, ind u (p + 2) p (p + 1) → XF F (p + 2) u - XF F (p + 2) (uS p) = KK cm am y cA cB cW PL aA aB aD u - m * (u x - uS p x)) ∧ XF F (p + 2) (uS p) + m * uS p x ≤ g
theorem psh_start {p cm am : Int} {F cb y cA cB cW PL aA aB aD : Int → Int} {m x g n s t x_zq : Int} (h : FLO p cm am F y cA cB cW PL aA aB aD) (h2 : MN1 F cb n s t x_zq m) (hx_zq : x_zq = s) (hg : XLE p F g) (hn : n = p + 2) (hs : s = p) (ht : t = p + 1) (hx : x = t) : PSH p cm am F cb y cA cB cW PL aA aB aD m x g := by
  subst hn hs ht hx
  refine ⟨h.1, h2.1, fun v a b => ?_, h.2.1, fun u hu => ?_, ?_⟩
  · rcases h2.2 v a b with g | g
    · rw [hx_zq] at g
      rcases stp_split g with e | e
      · exact absurd e b
      · exact absurd rfl e.1
    · exact g
  · rw [h.2.2 u hu, hu.2.2, show uS s (s + 1) = 0 by unfold uS; rw [if_neg (by omega)]]; simp
  · rw [show uS s (s + 1) = 0 by unfold uS; rw [if_neg (by omega)]]; unfold XLE at hg; omega
theorem psh_bd {p cm am : Int} {F F1 cb y cA cB cW PL aA aB aD : Int → Int} {m x g z v1 q1 n o : Int} (h : PSH p cm am F cb y cA cB cW PL aA aB aD m x g) (hx : x ≠ p) (x0 : 0 ≤ x) (x1 : x < n) (z0 : 0 ≤ z) (z1 : z < n) (hz : z = cb x) (hn : n = p + 2) (hq1 : q1 = n * z + x) (ho : o = F q1) (hv : v1 = o - m) : 0 ≤ v1 ∧ v1 ≤ 410000000 := by
  subst hn
  have h3 := h.2.2.1 x (fun L _ z => z) hx
  have h4 := h.2.2.2.1 z x z0 z1 x0 x1
  have h5 := h.2.2.2.1 x z x0 x1 z0 z1
  rw [← hz, ← hq1, ← ho] at h3
  rw [← hq1, ← ho] at h4
  have := h.2.1
  omega
theorem psh_bd2 {p cm am : Int} {F F1 cb y cA cB cW PL aA aB aD : Int → Int} {m x g z v1 q1 n o v2 q2 o2 : Int} (h : PSH p cm am F cb y cA cB cW PL aA aB aD m x g) (hx : x ≠ p) (x0 : 0 ≤ x) (x1 : x < n) (z0 : 0 ≤ z) (z1 : z < n) (hzx : z ≠ x) (hz : z = cb x) (hn : n = p + 2) (hq1 : q1 = n * z + x) (ho : o = F q1) (hv : v1 = o - m) (hs : st1 F F1 q1 v1) (hq2 : q2 = n * x + z) (ho2 : o2 = F1 q2) (hv2 : v2 = o2 + m) : 0 ≤ v2 ∧ v2 ≤ 410000000 := by
  subst hn
  have h3 := h.2.2.1 x (fun L _ z => z) hx
  have h4 := h.2.2.2.1 z x z0 z1 x0 x1
  have h5 := h.2.2.2.1 x z x0 x1 z0 z1
  have hne : q2 ≠ q1 := fun e => by
    have := tb_ne x0 x1 z0 z1 z0 z1 x0 x1 (by rw [← hq1, ← hq2]; exact e); omega
  have hq0 := (tb_ix hq2 x0 x1 z0 z1).2.2.1
  have e2 : F1 q2 = F q2 := (hs q2 hq0).2 hne
  rw [← hz, ← hq1, ← ho] at h3
  rw [← hq1, ← hq2, ← ho] at h4
  rw [← hq1, ← hq2, ← ho] at h5
  have := h.2.1
  omega
theorem psh_step {p cm am : Int} {F F1 F2 q cb y cA cB cW PL aA aB aD : Int → Int} {m x g z v1 q1 n o v2 q2 o2 K L : Int} (h : PSH p cm am F cb y cA cB cW PL aA aB aD m x g) (hA : AUW q cb n p L x K) (hx : x ≠ p) (hz : z = cb x) (hn : n = p + 2) (hq1 : q1 = n * z + x) (ho : o = F q1) (hv : v1 = o - m) (hs : st1 F F1 q1 v1) (hq2 : q2 = n * x + z) (ho2 : o2 = F1 q2) (hv2 : v2 = o2 + m) (hs2 : st1 F1 F2 q2 v2) : PSH p cm am F2 cb y cA cB cW PL aA aB aD m z g := by
  subst hn
  obtain ⟨h0, k, k0, kK, k1, k2⟩ := hA
  have hk : k ≠ 0 := fun e => hx (by rw [← k2, e]; exact h0.2.1.1)
  obtain ⟨j, j0, j1, j2⟩ := h0.2.2.2.2.1 k (by omega) k1
  rw [k2, ← hz] at j2
  obtain ⟨x0, x1⟩ := h0.2.2.1 k k0 k1
  rw [k2] at x0 x1
  obtain ⟨z0, z1⟩ := h0.2.2.1 j j0 (by omega)
  rw [← j2] at z0 z1
  have hzx : z ≠ x := fun e => h0.2.2.2.1 j k j0 j1 k1 (by rw [← j2, k2]; exact e)
  obtain ⟨hP, hm, hw, hr, hu, hg⟩ := h
  have h3 := hw x (fun L _ z => z) hx
  have hne : q2 ≠ q1 := fun e => by
    have := tb_ne x0 x1 z0 z1 z0 z1 x0 x1 (by rw [← hq1, ← hq2]; exact e); omega
  have t1 := tb_ix hq1 z0 z1 x0 x1
  have t2 := tb_ix hq2 x0 x1 z0 z1
  have e2 : F1 q2 = F q2 := (hs q2 t2.2.2.1).2 hne
  have val : ∀ i, 0 ≤ i → F2 i = if i = q1 then F q1 - m else if i = q2 then F q2 + m else F i := fun i i0 => by
    by_cases a : i = q2
    · rw [(hs2 i i0).1 a, if_neg (by omega), if_pos a, hv2, ho2, e2]
    · rw [(hs2 i i0).2 a]
      by_cases b : i = q1
      · rw [(hs i i0).1 b, if_pos b, hv, ho]
      · rw [(hs i i0).2 b, if_neg b, if_neg a]
  have XX : ∀ u, XF F2 (p + 2) u = XF F (p + 2) u - m * (u z - u x) := fun u => by
    rw [xf_st u hs2 hq2 x0 x1 z0 z1, xf_st u hs hq1 z0 z1 x0 x1, hv2, hv, ho2, ho]
    have a1 : F1 q2 + m - F1 q2 = m := by omega
    have a2 : F q1 - m - F q1 = -m := by omega
    rw [a1, a2]
    have : u z * (1 - u x) = u z - u z * u x := by rw [Int.mul_sub, Int.mul_one]
    have t : u x * (1 - u z) = u x - u z * u x := by rw [Int.mul_sub, Int.mul_one, Int.mul_comm (u x) (u z)]
    rw [this, t, Int.neg_mul, Int.mul_sub, Int.mul_sub, Int.mul_sub]; omega
  refine ⟨hP, hm, fun v a b => ?_, fun i i_zq a b c d => ?_, fun u hi => ?_, ?_⟩
  · obtain ⟨l, l0, l1, l2⟩ := stp_idx h0 (k := j) a j0 (by omega) j2.symm
    have hl : l ≠ 0 := fun e => b (by rw [← l2, e]; exact h0.2.1.1)
    obtain ⟨o_zq, o0, o1, o2_zq⟩ := h0.2.2.2.2.1 l (by omega) (by omega)
    have hv0 := h0.2.2.1 l l0 (by omega)
    have hc0 := h0.2.2.1 o_zq o0 (by omega)
    rw [l2] at hv0 o2_zq
    have hvx : v ≠ x := fun e => h0.2.2.2.1 l k l0 (by omega) k1 (by rw [l2, k2]; exact e)
    have hcx : cb v ≠ x := fun e => h0.2.2.2.1 o_zq k o0 (by omega) k1 (by rw [k2, ← o2_zq]; exact e)
    have old := hw v (stp_one hx (by rw [← hz]; exact a)) b
    have i0 := (tb_ix (q := (p + 2) * cb v + v) rfl (by rw [o2_zq]; exact hc0.1) (by rw [o2_zq]; exact hc0.2) hv0.1 hv0.2).2.2.1
    rw [val _ i0, if_neg, if_neg]
    · exact old
    · intro e
      have := tb_ne (i := cb v) (j := v) (by rw [o2_zq]; exact hc0.1) (by rw [o2_zq]; exact hc0.2) hv0.1 hv0.2 x0 x1 z0 z1 (by rw [e, hq2])
      exact hcx this.1
    · intro e
      have := tb_ne (i := cb v) (j := v) (by rw [o2_zq]; exact hc0.1) (by rw [o2_zq]; exact hc0.2) hv0.1 hv0.2 z0 z1 x0 x1 (by rw [e, hq1])
      exact hvx this.2
  · have r1 := hr i i_zq a b c d
    have r2 := hr i_zq i c d a b
    have i0 := (tb_ix (q := (p + 2) * i + i_zq) rfl a b c d).2.2.1
    have i1 := (tb_ix (q := (p + 2) * i_zq + i) rfl c d a b).2.2.1
    rw [val _ i0, val _ i1]
    rw [← hz, ← hq1] at h3
    have r3 := hr z x z0 z1 x0 x1
    have r4 := hr x z x0 x1 z0 z1
    rw [← hq1, ← hq2] at r3 r4
    by_cases c1 : (p + 2) * i + i_zq = q1
    · have c2 := tb_ne a b c d z0 z1 x0 x1 (by rw [c1, hq1])
      have c3 : (p + 2) * i_zq + i = q2 := by rw [hq2, c2.1, c2.2]
      rw [if_pos c1, c3, if_neg hne, if_pos rfl]; omega
    · by_cases c2 : (p + 2) * i + i_zq = q2
      · have c4 := tb_ne a b c d x0 x1 z0 z1 (by rw [c2, hq2])
        have c3 : (p + 2) * i_zq + i = q1 := by rw [hq1, c4.1, c4.2]
        rw [if_neg c1, if_pos c2, if_pos c3]; omega
      · rw [if_neg c1, if_neg c2, if_neg, if_neg]
        · omega
        · intro e; have c4 := tb_ne c d a b x0 x1 z0 z1 (by rw [e, hq2]); exact c1 (by rw [hq1, c4.1, c4.2])
        · intro e; have c4 := tb_ne c d a b z0 z1 x0 x1 (by rw [e, hq1]); exact c2 (by rw [hq2, c4.1, c4.2])
  · rw [XX u, XX (uS p)]
    have := hu u hi
    have e1 : m * (u z - u x) = m * u z - m * u x := by rw [Int.mul_sub]
    have e2 : m * (uS p z - uS p x) = m * uS p z - m * uS p x := by rw [Int.mul_sub]
    have e3 : m * (u x - uS p x) = m * u x - m * uS p x := by rw [Int.mul_sub]
    have e4 : m * (u z - uS p z) = m * u z - m * uS p z := by rw [Int.mul_sub]
    omega
  · rw [XX (uS p)]
    have e2 : m * (uS p z - uS p x) = m * uS p z - m * uS p x := by rw [Int.mul_sub]
    omega
theorem psh_end {p cm am : Int} {F cb y cA cB cW PL aA aB aD : Int → Int} {m x g : Int} (h : PSH p cm am F cb y cA cB cW PL aA aB aD m x g) (hx : x = p) : FLO p cm am F y cA cB cW PL aA aB aD ∧ XF F (p + 2) (uS p) ≤ g - 1 := by
  subst hx
  obtain ⟨hP, hm, hw, hr, hu, hg⟩ := h
  have e : uS x x = 1 := by simp [uS]
  rw [e] at hg
  refine ⟨⟨hP, hr, fun u hi => ?_⟩, by omega⟩
  rw [hu u hi, hi.2.1, e]; simp
end
section
/-! up: the table of a cut, the least set that gains -/
def UZ0 (F : Int → Int) (i : Int) : Prop := ∀ q, 0 ≤ q → q < i → F q = 0
theorem uz0_step {F F_zq : Int → Int} {i i_zq p v : Int} (h : UZ0 F i) (hi : i_zq = i + 1) (hs : st1 F F_zq p v) (hp : p = i) (hv : v = 0) : UZ0 F_zq i_zq := by
  intro x a b
  by_cases e : x = p
  · rw [(hs x a).1 e, hv]
  · rw [(hs x a).2 e]; exact h x a (by omega)
def UPC (p cm am : Int) (F g y cA cB cW PL aA aB aD : Int → Int) (k : Int) : Prop := PBK p cm am cA cB cW PL aA aB aD ∧ (∀ q, 0 ≤ q → q < (p + 2) * (p + 2) → 0 ≤ F q ∧ F q ≤ 144 * k) ∧ (∀ j, 0 ≤ j → j < p + 2 → F ((p + 2) * p + j) = 0 ∧ F ((p + 2) * j + (p + 1)) = 0) ∧ (∀ i, 0 ≤ i → i < p → -72 * k ≤ g i ∧ g i ≤ 72 * k) ∧ ∀ u, ind u (p + 2) p (p + 1) → XF F (p + 2) u + sm (fun i => g i * u i) p = slp k cA cB cW PL y u
theorem sq_mono {p q : Int} (p0 : 0 ≤ p) (hq : q < (p + 2) * (p + 2)) (p1 : p ≤ 76) : q < 6084 := by
  have : (p + 2) * (p + 2) ≤ 78 * 78 := Int.mul_le_mul (by omega) (by omega) (by omega) (by omega)
  omega
theorem upc_start {p cm am k : Int} {F g y cA cB cW PL aA aB aD : Int → Int} {i j : Int} (hP : PBK p cm am cA cB cW PL aA aB aD) (hF : UZ0 F i) (hn : (p + 2) * (p + 2) ≤ i) (hg : UZ0 g j) (hj : p ≤ j) (hk : k = 0) : UPC p cm am F g y cA cB cW PL aA aB aD k := by
  subst hk
  have p0 := hP.1
  refine ⟨hP, fun q a b => by rw [hF q a (by omega)]; omega, fun j a b => ?_, fun i a b => by rw [hg i a (by omega)]; omega, fun u hu => ?_⟩
  · have t1 := tb_ix (n := p + 2) (q := (p + 2) * p + j) rfl (by omega) (by omega) a b
    have t2 := tb_ix (n := p + 2) (q := (p + 2) * j + (p + 1)) rfl a b (by omega) (by omega)
    exact ⟨hF _ t1.2.2.1 (by omega), hF _ t2.2.2.1 (by omega)⟩
  · rw [show slp 0 cA cB cW PL y u = 0 from sm_zero (by omega), sm_nil (fun i a b => by (try simp only []); rw [hg i a (by omega)]; simp)]
    rw [xf_z hu (by omega) (fun i j a b c d _ _ => by
      have t1 := tb_ix (n := p + 2) (q := (p + 2) * i + j) rfl a b c d
      exact hF _ t1.2.2.1 (by omega))]; rfl
theorem gu_st {g g_zq u : Int → Int} {p i v : Int} (hs : st1 g g_zq i v) (i0 : 0 ≤ i) (i1 : i < p) : sm (fun j => g_zq j * u j) p = sm (fun j => g j * u j) p + (v - g i) * u i := by
  rw [sm_pt (f := fun j => g j * u j) i0 i1 (fun x x0 _ e => by (try simp only []); rw [(hs x x0).2 e])]
  (try simp only [])
  rw [(hs i i0).1 rfl, Int.sub_mul]
theorem slp_succ {k k_zq : Int} {cA cB cW PL y u : Int → Int} (h : 0 ≤ k) (hk : k_zq = k + 1) : slp k_zq cA cB cW PL y u = slp k cA cB cW PL y u + cW k * edg y (PL k) (cA k) (cB k) u := sm_succ h hk
theorem upc_go {p cm am k k_zq : Int} {F g g1 g2 y cA cB cW PL aA aB aD : Int → Int} {a b w o1 v1 o2 v2 : Int} (σ : Int) (h : UPC p cm am F g y cA cB cW PL aA aB aD k) (k0 : 0 ≤ k) (k1 : k < cm) (hk : k_zq = k + 1) (ha : a = cA k) (hb : b = cB k) (hw : w = cW k) (hσ : (σ = 1 ∧ (PL k ≠ 0 ∨ y a < y b)) ∨ (σ = -1 ∧ PL k = 0 ∧ y b < y a)) (ho1 : o1 = g a) (hv1 : v1 = o1 - σ * w) (hs1 : st1 g g1 a v1) (ho2 : o2 = g1 b) (hv2 : v2 = o2 + σ * w) (hs2 : st1 g1 g2 b v2) : UPC p cm am F g2 y cA cB cW PL aA aB aD k_zq := by
  obtain ⟨hP, hF, hz, hg, hu⟩ := h
  have c := hP.2.1 k k0 k1
  rw [← ha, ← hb, ← hw] at c
  subst hk
  have hw_zq : -72 ≤ σ * w ∧ σ * w ≤ 72 := by rcases hσ with e | e <;> rw [e.1] <;> omega
  refine ⟨hP, fun q x y => ⟨(hF q x y).1, by have := (hF q x y).2; omega⟩, hz, fun i i0 i1 => ?_, fun u hi => ?_⟩
  · have q := hg i i0 i1
    by_cases eb : i = b
    · rw [(hs2 i i0).1 eb, hv2, ho2]
      by_cases ea : b = a
      · rw [(hs1 b c.2.1.1).1 ea, hv1, ho1]; rw [eb, ea] at q; omega
      · rw [(hs1 b c.2.1.1).2 ea]; rw [eb] at q; omega
    · rw [(hs2 i i0).2 eb]
      by_cases ea : i = a
      · rw [(hs1 i i0).1 ea, hv1, ho1]; rw [ea] at q; omega
      · rw [(hs1 i i0).2 ea]; omega
  · rw [gu_st hs2 c.2.1.1 c.2.1.2, gu_st hs1 c.1.1 c.1.2, slp_succ k0 rfl, ← hu u hi, ← ha, ← hb, ← hw, hv2, hv1, ho2, ho1]
    have e : w * edg y (PL k) a b u = σ * w * u b - σ * w * u a := by
      unfold edg
      rcases hσ with z | z
      · rw [if_pos z.2, z.1, Int.mul_sub, Int.one_mul]
      · rw [if_neg (by have := z.2; omega), if_pos z.2.2, z.1, Int.mul_sub, Int.neg_mul, Int.one_mul, Int.neg_mul, Int.neg_mul]; omega
    rw [e, show g1 b + σ * w - g1 b = σ * w by omega, show g a - σ * w - g a = -(σ * w) by omega, Int.neg_mul]; omega
theorem upc_tie {p cm am k k_zq : Int} {F F1 F2 g y cA cB cW PL aA aB aD : Int → Int} {n a b w o1 v1 o2 v2 q1 q2 : Int} (h : UPC p cm am F g y cA cB cW PL aA aB aD k) (k0 : 0 ≤ k) (k1 : k < cm) (hk : k_zq = k + 1) (hn : n = p + 2) (ha : a = cA k) (hb : b = cB k) (hw : w = cW k) (h0 : PL k = 0) (h1 : ¬ y a < y b) (h2 : ¬ y b < y a) (hq1 : q1 = n * a + b) (ho1 : o1 = F q1) (hv1 : v1 = o1 + w) (hs1 : st1 F F1 q1 v1) (hq2 : q2 = n * b + a) (ho2 : o2 = F1 q2) (hv2 : v2 = o2 + w) (hs2 : st1 F1 F2 q2 v2) : UPC p cm am F2 g y cA cB cW PL aA aB aD k_zq := by
  obtain ⟨hP, hF, hz, hg, hu⟩ := h
  have c := hP.2.1 k k0 k1
  have p0 := hP.1
  rw [← ha, ← hb, ← hw] at c
  subst hk hn
  have t1 := tb_ix (n := p + 2) hq1 c.1.1 (by omega) c.2.1.1 (by omega)
  have t2 := tb_ix (n := p + 2) hq2 c.2.1.1 (by omega) c.1.1 (by omega)
  refine ⟨hP, fun q x y => ?_, fun j j0 j1 => ?_, fun i x y => by have := hg i x y; omega, fun u hi => ?_⟩
  · have f := hF q x y
    have f1 := hF q1 t1.2.2.1 t1.2.2.2
    have f2 := hF q2 t2.2.2.1 t2.2.2.2
    by_cases e2 : q = q2
    · rw [(hs2 q x).1 e2, hv2, ho2]
      by_cases e1 : q2 = q1
      · rw [(hs1 q2 t2.2.2.1).1 e1, hv1, ho1]; omega
      · rw [(hs1 q2 t2.2.2.1).2 e1]; omega
    · rw [(hs2 q x).2 e2]
      by_cases e1 : q = q1
      · rw [(hs1 q x).1 e1, hv1, ho1]; omega
      · rw [(hs1 q x).2 e1]; omega
  · have s1 := tb_ix (n := p + 2) (q := (p + 2) * p + j) rfl (by omega) (by omega) j0 j1
    have s2 := tb_ix (n := p + 2) (q := (p + 2) * j + (p + 1)) rfl j0 j1 (by omega) (by omega)
    have n1 : ∀ i x, 0 ≤ i → i < p → 0 ≤ x → x < p → (p + 2) * p + j ≠ (p + 2) * i + x := fun i x i0 i1 x0 x1 e => by
      have := tb_ne (by omega) (by omega) j0 j1 i0 (by omega) x0 (by omega) e; omega
    have n2 : ∀ i x, 0 ≤ i → i < p → 0 ≤ x → x < p → (p + 2) * j + (p + 1) ≠ (p + 2) * i + x := fun i x i0 i1 x0 x1 e => by
      have := tb_ne j0 j1 (by omega) (by omega) i0 (by omega) x0 (by omega) e; omega
    rw [(hs2 _ s1.2.2.1).2 (by rw [hq2]; exact n1 b a c.2.1.1 c.2.1.2 c.1.1 c.1.2), (hs1 _ s1.2.2.1).2 (by rw [hq1]; exact n1 a b c.1.1 c.1.2 c.2.1.1 c.2.1.2), (hs2 _ s2.2.2.1).2 (by rw [hq2]; exact n2 b a c.2.1.1 c.2.1.2 c.1.1 c.1.2), (hs1 _ s2.2.2.1).2 (by rw [hq1]; exact n2 a b c.1.1 c.1.2 c.2.1.1 c.2.1.2)]
    exact hz j j0 j1
  · rw [xf_st u hs2 hq2 c.2.1.1 (by omega) c.1.1 (by omega), xf_st u hs1 hq1 c.1.1 (by omega) c.2.1.1 (by omega), slp_succ k0 rfl, ← hu u hi, ← ha, ← hb, ← hw, hv2, hv1, ho2, ho1]
    have e : edg y (PL k) a b u = u a * (1 - u b) + u b * (1 - u a) := by
      unfold edg
      rw [if_neg (by omega), if_neg h2]
      rcases hi.1 a c.1.1 (by omega) with x | x <;> rcases hi.1 b c.2.1.1 (by omega) with y | y <;> rw [x, y] <;> simp
    rw [e, show F1 q2 + w - F1 q2 = w by omega, show F q1 + w - F q1 = w by omega, Int.mul_add]; omega
theorem upc_bd {p cm am k : Int} {F g y cA cB cW PL aA aB aD : Int → Int} (h : UPC p cm am F g y cA cB cW PL aA aB aD k) (k0 : 0 ≤ k) (k1 : k < cm) : (0 ≤ cA k ∧ cA k < p) ∧ (0 ≤ cB k ∧ cB k < p) ∧ (0 ≤ cW k ∧ cW k ≤ 72) ∧ (0 ≤ p ∧ p ≤ 76 ∧ cm ≤ 200) ∧ (∀ i, 0 ≤ i → i < p → -14328 ≤ g i ∧ g i ≤ 14328) ∧ ∀ i j, 0 ≤ i → i < p + 2 → 0 ≤ j → j < p + 2 → 0 ≤ F ((p + 2) * i + j) ∧ F ((p + 2) * i + j) ≤ 28800 := by
  obtain ⟨hP, hF, hz, hg, hu⟩ := h
  have c := hP.2.1 k k0 k1
  have p0 := hP.1
  refine ⟨c.1, c.2.1, c.2.2, by omega, fun i a b => by have := hg i a b; omega, fun i j a b c d => ?_⟩
  have t := tb_ix (n := p + 2) (q := (p + 2) * i + j) rfl a b c d
  have := hF _ t.2.2.1 t.2.2.2; omega
def UPI (p cm am : Int) (F g y cA cB cW PL aA aB aD : Int → Int) (i : Int) : Prop := PBK p cm am cA cB cW PL aA aB aD ∧ (∀ q, 0 ≤ q → q < (p + 2) * (p + 2) → 0 ≤ F q ∧ F q ≤ 28800) ∧ (∀ j, i ≤ j → j < p → F ((p + 2) * p + j) = 0 ∧ F ((p + 2) * j + (p + 1)) = 0) ∧ (∀ i, 0 ≤ i → i < p → -14400 ≤ g i ∧ g i ≤ 14400) ∧ ∀ u, ind u (p + 2) p (p + 1) → XF F (p + 2) u - XF F (p + 2) (uS p) + sm (fun x => if x < i then 0 else g x * u x) p = slp cm cA cB cW PL y u
theorem upi_start {p cm am k i : Int} {F g y cA cB cW PL aA aB aD : Int → Int} (h : UPC p cm am F g y cA cB cW PL aA aB aD k) (hk : cm ≤ k) (hk2 : k ≤ cm) (hi : i = 0) : UPI p cm am F g y cA cB cW PL aA aB aD i := by
  obtain ⟨hP, hF, hz, hg, hu⟩ := h
  have p0 := hP.1
  have e : k = cm := by omega
  subst hi e
  refine ⟨hP, fun q a b => by have := hF q a b; omega, fun j a b => hz j a (by omega), fun i a b => by have := hg i a b; omega, fun u hi => ?_⟩
  have h1 := hu u hi
  have h2 := hu (uS p) (ind_uS (by omega))
  rw [sm_nil (f := fun i => g i * uS p i) (fun i a b => by (try simp only []); rw [show uS p i = 0 by unfold uS; rw [if_neg (by omega)]]; simp)] at h2
  rw [show slp k cA cB cW PL y (uS p) = 0 from sm_nil (fun j a b => by
    have c := hP.2.1 j a b
    have z1 : uS p (cA j) = 0 := by unfold uS; rw [if_neg (by omega)]
    have z2 : uS p (cB j) = 0 := by unfold uS; rw [if_neg (by omega)]
    (try simp only [])
    rw [show edg y (PL j) (cA j) (cB j) (uS p) = 0 by unfold edg; rw [z1, z2]; simp]; simp)] at h2
  rw [sm_congr (f := fun x => if x < 0 then 0 else g x * u x) (g := fun x => g x * u x) (fun j a b => by (try simp only []); rw [if_neg (by omega)])]
  omega
theorem upi_step {p cm am i i_zq : Int} {F F1 g y cA cB cW PL aA aB aD : Int → Int} {n q v gi : Int} (h : UPI p cm am F g y cA cB cW PL aA aB aD i) (i0 : 0 ≤ i) (i1 : i < p) (hi : i_zq = i + 1) (hn : n = p + 2) (hg_zq : gi = g i) (hc : (gi < 0 ∧ q = n * p + i ∧ v = -gi) ∨ (0 ≤ gi ∧ q = n * i + (p + 1) ∧ v = gi)) (hs : st1 F F1 q v) : UPI p cm am F1 g y cA cB cW PL aA aB aD i_zq := by
  obtain ⟨hP, hF, hz, hg, hu⟩ := h
  have p0 := hP.1
  have gb := hg i i0 i1
  subst hi hn
  have z0 := hz i (by omega) i1
  have ex : ∃ a b, 0 ≤ a ∧ a < p + 2 ∧ 0 ≤ b ∧ b < p + 2 ∧ q = (p + 2) * a + b ∧ F q = 0 ∧ 0 ≤ v ∧ v ≤ 14400 ∧ ((gi < 0 ∧ a = p ∧ b = i) ∨ (0 ≤ gi ∧ a = i ∧ b = p + 1)) := by
    rcases hc with ⟨a, b, c⟩ | ⟨a, b, c⟩
    · exact ⟨p, i, by omega, by omega, by omega, by omega, b, by rw [b]; exact z0.1, by omega, by omega, Or.inl ⟨a, rfl, rfl⟩⟩
    · exact ⟨i, p + 1, by omega, by omega, by omega, by omega, b, by rw [b]; exact z0.2, by omega, by omega, Or.inr ⟨a, rfl, rfl⟩⟩
  obtain ⟨a, b, a0, a1, b0, b1, hq, Fq, v0, v1, hab⟩ := ex
  have t := tb_ix hq a0 a1 b0 b1
  refine ⟨hP, fun x x0 x1 => ?_, fun j j0 j1 => ?_, hg, fun u hi => ?_⟩
  · by_cases e : x = q
    · rw [(hs x x0).1 e]; omega
    · rw [(hs x x0).2 e]; exact hF x x0 x1
  · have s1 := tb_ix (n := p + 2) (q := (p + 2) * p + j) rfl (by omega) (by omega) (by omega) (by omega)
    have s2 := tb_ix (n := p + 2) (q := (p + 2) * j + (p + 1)) rfl (by omega) (by omega) (by omega) (by omega)
    rw [(hs _ s1.2.2.1).2 (fun e => by have := tb_ne (by omega) (by omega) (by omega) (by omega) a0 a1 b0 b1 (e.trans hq); omega), (hs _ s2.2.2.1).2 (fun e => by have := tb_ne (by omega) (by omega) (by omega) (by omega) a0 a1 b0 b1 (e.trans hq); omega)]
    exact hz j (by omega) j1
  · rw [xf_st u hs hq a0 a1 b0 b1, xf_st (uS p) hs hq a0 a1 b0 b1, Fq]
    have h1 := hu u hi
    have h2 := sm_pt (f := fun x => if x < i + 1 then 0 else g x * u x) (g := fun x => if x < i then 0 else g x * u x) i0 i1 (fun x _ _ e => by
      (try simp only [])
      by_cases l : x < i
      · rw [if_pos l, if_pos (by omega)]
      · rw [if_neg l, if_neg (by omega)])
    (try simp only [] at h2)
    rw [if_neg (show ¬ i < i by omega), if_pos (show i < i + 1 by omega)] at h2
    have e : (v - 0) * (u a * (1 - u b)) - (v - 0) * (uS p a * (1 - uS p b)) = g i * u i := by
      rcases hab with ⟨c1, c2, c3⟩ | ⟨c1, c2, c3⟩
      · have vv : v = -gi := by rcases hc with z | z <;> omega
        rw [c2, c3, hi.2.1, show uS p p = 1 by simp [uS], show uS p i = 0 by unfold uS; rw [if_neg (by omega)], vv, hg_zq]
        rw [Int.one_mul, Int.one_mul, Int.sub_zero, Int.mul_sub, Int.mul_one, Int.neg_mul]; omega
      · have vv : v = gi := by rcases hc with z | z <;> omega
        rw [c2, c3, hi.2.2, show uS p i = 0 by unfold uS; rw [if_neg (by omega)], vv, hg_zq]
        simp
    omega
theorem upi_bd {p cm am i : Int} {F g y cA cB cW PL aA aB aD : Int → Int} (h : UPI p cm am F g y cA cB cW PL aA aB aD i) (i0 : 0 ≤ i) (i1 : i < p) : (0 ≤ p ∧ p ≤ 76) ∧ -14400 ≤ g i ∧ g i ≤ 14400 := by
  have := h.1.1
  exact ⟨by omega, h.2.2.2.1 i i0 i1⟩
def UPA (p cm am : Int) (F y cA cB cW PL aA aB aD : Int → Int) (k : Int) : Prop := PBK p cm am cA cB cW PL aA aB aD ∧ (∀ q, 0 ≤ q → q < (p + 2) * (p + 2) → 0 ≤ F q ∧ F q ≤ 28800 + 1000000 * k) ∧ (∀ j, 0 ≤ j → j < p + 2 → F ((p + 2) * p + j) ≤ 28800) ∧ ∀ u, ind u (p + 2) p (p + 1) → XF F (p + 2) u - XF F (p + 2) (uS p) = slp cm cA cB cW PL y u + 1000000 * vio k aA aB aD y u
theorem upa_start {p cm am i k : Int} {F g y cA cB cW PL aA aB aD : Int → Int} (h : UPI p cm am F g y cA cB cW PL aA aB aD i) (hi : p ≤ i) (hk : k = 0) : UPA p cm am F y cA cB cW PL aA aB aD k := by
  obtain ⟨hP, hF, hz, hg, hu⟩ := h
  have p0 := hP.1
  subst hk
  refine ⟨hP, fun q a b => by have := hF q a b; omega, fun j a b => ?_, fun u hi_zq => ?_⟩
  · have s1 := tb_ix (n := p + 2) (q := (p + 2) * p + j) rfl (by omega) (by omega) a b
    exact (hF _ s1.2.2.1 s1.2.2.2).2
  · have := hu u hi_zq
    rw [sm_nil (f := fun x => if x < i then 0 else g x * u x) (fun j a b => by (try simp only []); rw [if_pos (by omega)])] at this
    rw [show vio 0 aA aB aD y u = 0 from sm_zero (by omega)]; omega
theorem vio_succ {k k_zq : Int} {aA aB aD y u : Int → Int} (h : 0 ≤ k) (hk : k_zq = k + 1) : vio k_zq aA aB aD y u = vio k aA aB aD y u + (if y (aB k) - y (aA k) = aD k then u (aA k) * (1 - u (aB k)) else 0) := sm_succ h hk
theorem upa_skip {p cm am k k_zq : Int} {F y cA cB cW PL aA aB aD : Int → Int} (h : UPA p cm am F y cA cB cW PL aA aB aD k) (k0 : 0 ≤ k) (hk : k_zq = k + 1) (hd : y (aB k) - y (aA k) ≠ aD k) : UPA p cm am F y cA cB cW PL aA aB aD k_zq := by
  subst hk
  refine ⟨h.1, fun q a b => by have := h.2.1 q a b; omega, h.2.2.1, fun u hi => ?_⟩
  rw [h.2.2.2 u hi, vio_succ k0 rfl, if_neg hd]; omega
theorem upa_step {p cm am k k_zq : Int} {F F1 y cA cB cW PL aA aB aD : Int → Int} {n a b q o v : Int} (h : UPA p cm am F y cA cB cW PL aA aB aD k) (k0 : 0 ≤ k) (k1 : k < am) (hk : k_zq = k + 1) (hn : n = p + 2) (hd : y (aB k) - y (aA k) = aD k) (ha : a = aA k) (hb : b = aB k) (hq : q = n * a + b) (ho : o = F q) (hv : v = o + 1000000) (hs : st1 F F1 q v) : UPA p cm am F1 y cA cB cW PL aA aB aD k_zq := by
  obtain ⟨hP, hF, hz, hu⟩ := h
  have p0 := hP.1
  have c := hP.2.2 k k0 k1
  rw [← ha, ← hb] at c
  subst hk hn
  have t := tb_ix hq c.1.1 (by omega) c.2.1.1 (by omega)
  refine ⟨hP, fun x x0 x1 => ?_, fun j j0 j1 => ?_, fun u hi => ?_⟩
  · have := hF x x0 x1
    by_cases e : x = q
    · rw [(hs x x0).1 e]; rw [e] at this; omega
    · rw [(hs x x0).2 e]; omega
  · have s1 := tb_ix (n := p + 2) (q := (p + 2) * p + j) rfl (by omega) (by omega) j0 j1
    rw [(hs _ s1.2.2.1).2 (fun e => by have := tb_ne (by omega) (by omega) j0 j1 c.1.1 (by omega) c.2.1.1 (by omega) (e.trans hq); omega)]
    exact hz j j0 j1
  · rw [xf_st u hs hq c.1.1 (by omega) c.2.1.1 (by omega), xf_st (uS p) hs hq c.1.1 (by omega) c.2.1.1 (by omega), vio_succ k0 rfl, if_pos hd, ← ha, ← hb, hv, ho]
    have := hu u hi
    rw [show uS p a = 0 by unfold uS; rw [if_neg (by omega)], show F q + 1000000 - F q = 1000000 by omega]
    omega
theorem upa_bd {p cm am k : Int} {F y cA cB cW PL aA aB aD : Int → Int} (h : UPA p cm am F y cA cB cW PL aA aB aD k) (k0 : 0 ≤ k) (k1 : k < am) : (0 ≤ p ∧ p ≤ 76 ∧ am ≤ 200) ∧ (0 ≤ aA k ∧ aA k < p) ∧ (0 ≤ aB k ∧ aB k < p) ∧ ∀ i j, 0 ≤ i → i < p + 2 → 0 ≤ j → j < p + 2 → 0 ≤ F ((p + 2) * i + j) ∧ F ((p + 2) * i + j) ≤ 199028800 := by
  have p0 := h.1.1
  have c := h.1.2.2 k k0 k1
  refine ⟨by omega, c.1, c.2.1, fun i j a b c d => ?_⟩
  have t := tb_ix (n := p + 2) (q := (p + 2) * i + j) rfl a b c d
  have := h.2.1 _ t.2.2.1 t.2.2.2; omega
theorem flo_of {p cm am k : Int} {F y cA cB cW PL aA aB aD : Int → Int} (h : UPA p cm am F y cA cB cW PL aA aB aD k) (hk : am ≤ k) (hk2 : k ≤ am) : FLO p cm am F y cA cB cW PL aA aB aD ∧ XF F (p + 2) (uS p) ≤ 180000000 := by
  obtain ⟨hP, hF, hz, hu⟩ := h
  have p0 := hP.1
  have e : k = am := by omega
  subst e
  refine ⟨⟨hP, fun i j a b c d => ?_, hu⟩, ?_⟩
  · have t := tb_ix (n := p + 2) (q := (p + 2) * i + j) rfl a b c d
    have t2 := tb_ix (n := p + 2) (q := (p + 2) * j + i) rfl c d a b
    have := hF _ t.2.2.1 t.2.2.2
    have := hF _ t2.2.2.1 t2.2.2.2
    omega
  · have nn : 0 ≤ (p + 2) * (p + 2) := Int.mul_nonneg (by omega) (by omega)
    have := (smrg (f := fun q => F q * cfc (p + 2) (uS p) q) (lo := 0) (hi := 28800) nn (fun q a b => by
      (try simp only [])
      have f := hF q a b
      obtain ⟨c1, c2, c3, c4, c5⟩ := tb_of a b (by omega)
      by_cases z : q / (p + 2) = p
      · have g := hz _ c3 c4
        rw [z] at c5
        rw [← c5] at g
        rcases cfc_01 (ind_uS (s := p) (t := p + 1) (n := p + 2) (by omega)) a b (by omega) with x | x <;> rw [x] <;> omega
      · have : cfc (p + 2) (uS p) q = 0 := by unfold cfc uS; rw [if_neg z]; simp
        rw [this]; omega)).2
    have sq : (p + 2) * (p + 2) ≤ 78 * 78 := Int.mul_le_mul (by omega) (by omega) (by omega) (by omega)
    unfold XF; omega
def clo (am : Int) (aA aB aD y u : Int → Int) : Prop := ∀ k, 0 ≤ k → k < am → y (aB k) - y (aA k) = aD k → u (aA k) = 1 → u (aB k) = 1
def UPP (p cm am : Int) (u y cA cB cW PL aA aB aD : Int → Int) (a : Int) : Prop := PBK p cm am cA cB cW PL aA aB aD ∧ (∀ i, 0 ≤ i → i < p → u i = 0 ∨ u i = 1) ∧ (0 < a → slp cm cA cB cW PL y u ≤ -1 ∧ clo am aA aB aD y u ∧ ∀ w, (∀ i, 0 ≤ i → i < p → w i = 0 ∨ w i = 1) → clo am aA aB aD y w → slp cm cA cB cW PL y u ≤ slp cm cA cB cW PL y w ∧ (slp cm cA cB cW PL y w ≤ slp cm cA cB cW PL y u → ∀ i, 0 ≤ i → i < p → u i = 1 → w i = 1))
theorem slp_congr {m p : Int} {A B W PL y u v : Int → Int} (hA : ∀ k, 0 ≤ k → k < m → (0 ≤ A k ∧ A k < p) ∧ 0 ≤ B k ∧ B k < p) (h : ∀ i, 0 ≤ i → i < p → u i = v i) : slp m A B W PL y u = slp m A B W PL y v :=
  sm_congr (fun k a b => by
    have c := hA k a b
    (try simp only [])
    unfold edg
    rw [h _ c.1.1 c.1.2, h _ c.2.1 c.2.2])
theorem edg_01 {y u : Int → Int} {pl a b : Int} (ha : u a = 0 ∨ u a = 1) (hb : u b = 0 ∨ u b = 1) : -1 ≤ edg y pl a b u ∧ edg y pl a b u ≤ 1 := by
  unfold edg
  split
  · omega
  · split
    · omega
    · split <;> omega
def UPE (g cb : Int → Int) (i many : Int) : Prop := (∀ j, 0 ≤ j → j < i → g j = if 0 ≤ cb j then 1 else 0) ∧ (0 ≤ many ∧ many ≤ i) ∧ (0 < many → ∃ j, 0 ≤ j ∧ j < i ∧ 0 ≤ cb j)
theorem upe_zero {g cb : Int → Int} {i m : Int} (hi : i = 0) (hm : m = 0) : UPE g cb i m := ⟨fun j a b => by omega, by omega, fun h => by omega⟩
theorem upe_step {g g_zq cb : Int → Int} {i i_zq m m_zq p v o : Int} (h : UPE g cb i m) (i0 : 0 ≤ i) (hi : i_zq = i + 1) (hs : st1 g g_zq p v) (hp : p = i) (hv : (0 ≤ cb i ∧ v = 1) ∨ (cb i < 0 ∧ v = 0)) (ho : o = g_zq i) (hm : m_zq = m + o) : UPE g_zq cb i_zq m_zq := by
  obtain ⟨h1, h2, h3⟩ := h
  have e : g_zq i = v := (hs i i0).1 hp.symm
  refine ⟨fun j a b => ?_, by rcases hv with z | z <;> omega, fun q => ?_⟩
  · by_cases z : j = i
    · subst z; rw [e]; rcases hv with z | z
      · rw [if_pos z.1, z.2]
      · rw [if_neg (by omega), z.2]
    · rw [(hs j a).2 (by omega)]; exact h1 j a (by omega)
  · rcases hv with z | z
    · exact ⟨i, i0, by omega, z.1⟩
    · obtain ⟨j, a, b, c⟩ := h3 (by omega)
      exact ⟨j, a, by omega, c⟩
theorem upp_of {p cm am : Int} {F g cb y cA cB cW PL aA aB aD : Int → Int} {n s t i many : Int} (h : FLO p cm am F y cA cB cW PL aA aB aD) (hc : CUT F cb n s t) (hn : n = p + 2) (hs : s = p) (ht : t = p + 1) (he : UPE g cb i many) (hi : p ≤ i) (hi2 : i ≤ p) : UPP p cm am g y cA cB cW PL aA aB aD many := by
  subst hn hs ht
  have p0 := h.1.1
  have hg : ∀ j, 0 ≤ j → j < s → g j = if 0 ≤ cb j then 1 else 0 := fun j a b => he.1 j a (by omega)
  refine ⟨h.1, fun j a b => by rw [hg j a b]; split <;> simp, fun many0 => ?_⟩
  obtain ⟨⟨c1, c2⟩, c3, c4, q, m, hA⟩ := hc
  obtain ⟨x, x0, x1, x2⟩ := he.2.2 many0
  have hq := flo_q h
  -- the reached set
  have hS : ind (fun j => if 0 ≤ cb j then 1 else 0) (s + 2) s (s + 1) := ⟨fun j _ _ => by (try simp only []); split <;> simp, by (try simp only []); rw [if_pos c1], by (try simp only []); rw [if_neg (by omega)]⟩
  have XS := xf_z (F := F) hS (by omega) (fun i j a b c d e f => c3 i j a b c d (by (try simp only [] at e); by_cases z : 0 ≤ cb i; exact z; rw [if_neg z] at e; omega) (by (try simp only [] at f); by_cases z : 0 ≤ cb j; rw [if_pos z] at f; omega; omega))
  have KS := h.2.2 _ hS
  rw [XS] at KS
  have hpt : ∀ k, 0 ≤ k → k < cm → (0 ≤ cA k ∧ cA k < s) ∧ 0 ≤ cB k ∧ cB k < s := fun k a b => ⟨(h.1.2.1 k a b).1, (h.1.2.1 k a b).2.1⟩
  have sl : slp cm cA cB cW PL y g = slp cm cA cB cW PL y (fun j => if 0 ≤ cb j then 1 else 0) := slp_congr hpt hg
  have k1 : 1 ≤ XF F (s + 2) (uS s) := by
    obtain ⟨k, k0, k1, k2⟩ := hA.2.2.2.2.2 x x0 (by omega) x2
    by_cases xs : x < s
    · have hk : k ≠ 0 := fun e => by rw [e, hA.2.1.1] at k2; omega
      obtain ⟨j, j0, j1, j2⟩ := hA.2.2.2.2.1 1 (by omega) (by omega)
      rw [show j = 0 by omega, hA.2.1.1] at j2
      have b1 := hA.2.2.1 1 (by omega) (by omega)
      have n1 : q 1 ≠ s := fun e => hA.2.2.2.1 0 1 (by omega) (by omega) (by omega) (by rw [hA.2.1.1, e])
      have f1 := c4 (q 1) b1.1 b1.2 (by rw [j2]; omega) n1
      rw [j2] at f1
      have f2 := (h.2.1 s (q 1) (by omega) (by omega) b1.1 b1.2).1
      have := xf_ge (i := s) (j := q 1) (ind_uS (s := s) (t := s + 1) (n := s + 2) (by omega)) hq (by omega) (by omega) b1.1 b1.2 (by simp [uS]) (by unfold uS; rw [if_neg n1])
      omega
    · exfalso; omega
  have lo : -14400 ≤ slp cm cA cB cW PL y (fun j => if 0 ≤ cb j then 1 else 0) := by
    have := (smrg (f := fun k => cW k * edg y (PL k) (cA k) (cB k) (fun j => if 0 ≤ cb j then 1 else 0)) (lo := -72) (hi := 72) (n := cm) (by omega) (fun k a b => by
      have c := h.1.2.1 k a b
      have e := edg_01 (u := fun j => if 0 ≤ cb j then 1 else 0) (y := y) (pl := PL k) (hS.1 (cA k) c.1.1 (by omega)) (hS.1 (cB k) c.2.1.1 (by omega))
      (try simp only [])
      constructor
      · have := Int.mul_le_mul_of_nonneg_left e.1 c.2.2.1; omega
      · have := Int.mul_le_mul_of_nonneg_left e.2 c.2.2.1; omega)).1
    unfold slp; omega
  have v0 : ∀ w, ind w (s + 2) s (s + 1) → ∀ k, 0 ≤ k → k < am → 0 ≤ (if y (aB k) - y (aA k) = aD k then w (aA k) * (1 - w (aB k)) else 0) := fun w hw k a b => by
    have c := h.1.2.2 k a b
    split
    · rcases hw.1 (aA k) c.1.1 (by omega) with z | z <;> rcases hw.1 (aB k) c.2.1.1 (by omega) with z_zq | z_zq <;> rw [z, z_zq] <;> omega
    · omega
  have vn : 0 ≤ vio am aA aB aD y (fun j => if 0 ≤ cb j then 1 else 0) := sm_nn (v0 _ hS)
  have vz : vio am aA aB aD y (fun j => if 0 ≤ cb j then 1 else 0) = 0 := by unfold KK at KS; omega
  have sS : slp cm cA cB cW PL y (fun j => if 0 ≤ cb j then 1 else 0) = - XF F (s + 2) (uS s) := by unfold KK at KS; omega
  refine ⟨by omega, fun k a b d e => ?_, fun w hw cw => ?_⟩
  · have c := h.1.2.2 k a b
    have := sm_one (p := k) (f := fun k => if y (aB k) - y (aA k) = aD k then (fun j => if 0 ≤ cb j then (1 : Int) else 0) (aA k) * (1 - (fun j => if 0 ≤ cb j then (1 : Int) else 0) (aB k)) else 0) a b (v0 _ hS)
    unfold vio at vz
    rw [vz] at this
    (try simp only [] at this)
    rw [if_pos d] at this
    rw [hg _ c.1.1 c.1.2] at e
    rw [hg _ c.2.1.1 c.2.1.2]
    rw [e] at this
    by_cases z : 0 ≤ cb (aB k)
    · rw [if_pos z]
    · rw [if_neg z] at this; omega
  · -- any closed set
    have hW : ind (fun j => if j = s then 1 else if j = s + 1 then 0 else w j) (s + 2) s (s + 1) := ⟨fun j a b => by
      (try simp only [])
      by_cases z : j = s
      · rw [if_pos z]; simp
      · rw [if_neg z]; by_cases z_zq : j = s + 1
        · rw [if_pos z_zq]; simp
        · rw [if_neg z_zq]; exact hw j a (by omega), by simp, by show (if s + 1 = s then (1 : Int) else if s + 1 = s + 1 then 0 else w (s + 1)) = 0; rw [if_neg (by omega), if_pos rfl]⟩
    have ew : ∀ j, 0 ≤ j → j < s → w j = (fun j => if j = s then 1 else if j = s + 1 then 0 else w j) j := fun j a b => by (try simp only []); rw [if_neg (by omega), if_neg (by omega)]
    have KW := h.2.2 _ hW
    have vw : vio am aA aB aD y (fun j => if j = s then 1 else if j = s + 1 then 0 else w j) = 0 := sm_nil (fun k a b => by
      have c := h.1.2.2 k a b
      (try simp only [])
      rw [if_neg (show ¬ aA k = s by omega), if_neg (show ¬ aA k = s + 1 by omega), if_neg (show ¬ aB k = s by omega), if_neg (show ¬ aB k = s + 1 by omega)]
      split
      · rename_i d
        rcases hw (aA k) c.1.1 c.1.2 with z | z
        · rw [z]; simp
        · rw [cw k a b d z]; simp
      · rfl)
    have X0 := xf_nn hW (by omega) hq
    have sw := slp_congr (W := cW) (PL := PL) (y := y) hpt ew
    unfold KK at KW
    rw [vw] at KW
    refine ⟨by omega, fun le j j0 j1 hj => ?_⟩
    have Xz : XF F (s + 2) (fun j => if j = s then 1 else if j = s + 1 then 0 else w j) = 0 := by omega
    have all : ∀ k : Nat, ∀ l : Nat, l ≤ k → (l : Int) < m → (fun j => if j = s then (1 : Int) else if j = s + 1 then 0 else w j) (q l) = 1 := fun k => by
      induction k with
      | zero => intro l hl _; rw [show ((l : Nat) : Int) = 0 by omega, hA.2.1.1]; simp
      | succ k ih =>
        intro l hl hm
        by_cases l0 : l = 0
        · subst l0; rw [show (((0 : Nat)) : Int) = 0 by omega, hA.2.1.1]; simp
        · obtain ⟨j_zq, a, b, c⟩ := hA.2.2.2.2.1 l (by omega) hm
          have b1 := hA.2.2.1 l (by omega) hm
          have b2 := hA.2.2.1 j_zq a (by omega)
          have i1 := ih j_zq.toNat (by omega) (by omega)
          rw [show ((j_zq.toNat : Nat) : Int) = j_zq by omega] at i1
          have n1 : q l ≠ s := fun e => hA.2.2.2.1 0 l (by omega) (by omega) hm (by rw [hA.2.1.1, e])
          have f1 := c4 (q l) b1.1 b1.2 (by rw [c]; exact b2.1) n1
          rw [c] at f1
          have f2 := (h.2.1 (q j_zq) (q l) b2.1 b2.2 b1.1 b1.2).1
          rcases hW.1 (q l) b1.1 b1.2 with z | z
          · have := xf_ge hW hq b2.1 b2.2 b1.1 b1.2 i1 z
            omega
          · exact z
    rw [hg j j0 j1] at hj
    have cj : 0 ≤ cb j := by
      by_cases z : 0 ≤ cb j
      · exact z
      · rw [if_neg z] at hj; omega
    obtain ⟨k, a, b, c⟩ := hA.2.2.2.2.2 j j0 (by omega) cj
    have := all k.toNat k.toNat (by omega) (by omega)
    rw [show ((k.toNat : Nat) : Int) = k by omega, c] at this
    rw [ew j j0 j1]; exact this
end
