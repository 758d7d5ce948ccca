section
/-! exactOrders: the sums that are left -/
noncomputable def WW (li : Int) (ls pb pp il la lb ld : Int → Int) (l p q : Int) : Int := wdt pb pp (fun x => wf li pp il la lb ld l (pb (ls l) + ls l * p) (ls l) x) (ls (l + 1)) q
def ent (lm li : Int) (ls pb pm pp il la lb ld re : Int → Int) (l p : Int) : Prop := (0 ≤ re (720 * l + p) ∧ re (720 * l + p) ≤ 14400 * (lm - 1 - l)) ∧ (l + 1 < lm → ∃ q, 0 ≤ q ∧ q < pm (ls (l + 1)) ∧ re (720 * l + p) = re (720 * (l + 1) + q) + WW li ls pb pp il la lb ld l p q)
def RSV (lm li : Int) (ls pb pm pp il la lb ld re : Int → Int) (l0 : Int) : Prop := ∀ l, l0 ≤ l → 0 ≤ l → l < lm → ∀ p, 0 ≤ p → p < pm (ls l) → ent lm li ls pb pm pp il la lb ld re l p
/-- orders from a layer on are summed up, and in the layer before it those below p -/
def RSL (lm li : Int) (ls pb pm pp il la lb ld re : Int → Int) (l : Int) : Prop := RSV lm li ls pb pm pp il la lb ld re (l + 1)
def RSP (lm li : Int) (ls pb pm pp il la lb ld re : Int → Int) (l p : Int) : Prop := RSV lm li ls pb pm pp il la lb ld re (l + 1) ∧ ∀ k, 0 ≤ k → k < p → ent lm li ls pb pm pp il la lb ld re l k
def RZ0 (re : Int → Int) (t p : Int) : Prop := ∀ k, 0 ≤ k → k < p → re (720 * t + k) = 0
theorem rz0_step {re re_zq : Int → Int} {t p p_zq q v a : Int} (h : RZ0 re t p) (t0 : 0 ≤ t) (p0 : 0 ≤ p) (hp : p_zq = p + 1) (hs : st1 re re_zq q v) (ha : a = 720 * t) (hq : q = a + p) (hv : v = 0) : RZ0 re_zq t p_zq := by
  intro k x y
  by_cases e : k = p
  · rw [(hs _ (by omega)).1 (by omega)]; exact hv
  · rw [(hs _ (by omega)).2 (by omega)]; exact h k x (by omega)
/-- every size has at most 720 orders -/
def SZ6 (lm : Int) (ls pb pm pp : Int → Int) : Prop := PTB pb pm pp ∧ ∀ l, 0 ≤ l → l < lm → 0 ≤ ls l ∧ ls l ≤ 6
theorem sz_pm {lm l : Int} {ls pb pm pp : Int → Int} (h : SZ6 lm ls pb pm pp) (l0 : 0 ≤ l) (l1 : l < lm) : (0 ≤ ls l ∧ ls l ≤ 6) ∧ 1 ≤ pm (ls l) ∧ pm (ls l) ≤ 720 := by
  have s := h.2 l l0 l1
  have := h.1 _ s.1 s.2
  exact ⟨s, this.1.2.1, this.1.2.2.1⟩
theorem rsl_start {lm li : Int} {ls pb pm pp il la lb ld re : Int → Int} {l t p : Int} (hz : SZ6 lm ls pb pm pp) (h : RZ0 re t p) (hp : 720 ≤ p) (ht : t = lm - 1) (hl : l = t - 1) : RSL lm li ls pb pm pp il la lb ld re l := by
  intro m a m0 b k k0 k1
  have e : m = t := by omega
  have s := sz_pm hz m0 b
  rw [e] at k1 s ⊢
  rw [e] at m0
  refine ⟨?_, fun z => by omega⟩
  rw [h k k0 (by omega)]; omega
theorem rsp_start {lm li : Int} {ls pb pm pp il la lb ld re : Int → Int} {l p : Int} (h : RSL lm li ls pb pm pp il la lb ld re l) (hp : p = 0) : RSP lm li ls pb pm pp il la lb ld re l p := ⟨h, fun k a b => by omega⟩
theorem rsp_end {lm li : Int} {ls pb pm pp il la lb ld re : Int → Int} {l l_zq p : Int} (h : RSP lm li ls pb pm pp il la lb ld re l p) (hp : pm (ls l) ≤ p) (hl : l_zq = l - 1) : RSL lm li ls pb pm pp il la lb ld re l_zq := by
  intro m a m0 b k k0 k1
  by_cases e : m = l
  · subst e; exact h.2 k k0 (by omega)
  · exact h.1 m (by omega) m0 b k k0 k1
/-- the least so far -/
def LQS (li : Int) (ls pb pp il la lb ld re : Int → Int) (l p q s : Int) : Prop := (q = 0 ∧ s = 1000000) ∨ ∃ k, 0 ≤ k ∧ k < q ∧ s = re (720 * (l + 1) + k) + WW li ls pb pp il la lb ld l p k
theorem ww_bd {lm li l p q : Int} {ls pb pm pp il la lb ld : Int → Int} (hz : SZ6 lm ls pb pm pp) (hl : 0 ≤ li ∧ li ≤ 120) (l0 : 0 ≤ l) (l1 : l + 1 < lm) (q0 : 0 ≤ q) (q1 : q < pm (ls (l + 1))) : 0 ≤ WW li ls pb pp il la lb ld l p q ∧ WW li ls pb pp il la lb ld l p q ≤ 14400 := by
  have s := sz_pm hz (l := l + 1) (by omega) l1
  exact wdt_bd hz.1 hl.1 hl.2 s.1.1 s.1.2 q0 q1
theorem ww_is {lm li l p q m s : Int} {ls pb pm pp il la lb ld wo : Int → Int} (hz : SZ6 lm ls pb pm pp) (hW : WGH li ls pb pp il la lb ld wo l p) (hd : WDT pb pp wo m q s) (hm : m = ls (l + 1)) (l0 : 0 ≤ l) (l1 : l + 1 < lm) (q0 : 0 ≤ q) (q1 : q < pm m) : s = WW li ls pb pp il la lb ld l p q := by
  have z := sz_pm hz (l := l + 1) (by omega) l1
  rw [hm] at q1 hd
  unfold WDT at hd
  rw [hd]
  exact wdt_congr hz.1 z.1.1 z.1.2 q0 q1 hW
theorem lqs_bd {lm li l p q s : Int} {ls pb pm pp il la lb ld re : Int → Int} (hz : SZ6 lm ls pb pm pp) (hl : 0 ≤ li ∧ li ≤ 120) (hR : RSL lm li ls pb pm pp il la lb ld re l) (h : LQS li ls pb pp il la lb ld re l p q s) (l0 : 0 ≤ l) (l1 : l + 1 < lm) (hq : q ≤ pm (ls (l + 1))) : (q = 0 → s = 1000000) ∧ (0 < q → 0 ≤ s ∧ s ≤ 14400 * (lm - 1 - l)) := by
  rcases h with ⟨h1, h2⟩ | ⟨k, k0, k1, k2⟩
  · exact ⟨fun _ => h2, fun z => by omega⟩
  · refine ⟨fun z => by omega, fun _ => ?_⟩
    have e := (hR (l + 1) (by omega) (by omega) l1 k k0 (by omega)).1
    have w := ww_bd (p := p) (il := il) (la := la) (lb := lb) (ld := ld) hz hl l0 l1 k0 (show k < pm (ls (l + 1)) by omega)
    omega
theorem lqs_keep {li l p q q_zq s : Int} {ls pb pp il la lb ld re : Int → Int} (h : LQS li ls pb pp il la lb ld re l p q s) (hq : q_zq = q + 1) (q1 : q ≠ 0) : LQS li ls pb pp il la lb ld re l p q_zq s := by
  rcases h with ⟨h1, h2⟩ | ⟨k, k0, k1, k2⟩
  · omega
  · exact Or.inr ⟨k, k0, by omega, k2⟩
theorem lqs_take {li l p q q_zq s v w : Int} {ls pb pp il la lb ld re : Int → Int} (q0 : 0 ≤ q) (hq : q_zq = q + 1) (hv : v = re (720 * (l + 1) + q)) (hw : w = WW li ls pb pp il la lb ld l p q) (hs : s = v + w) : LQS li ls pb pp il la lb ld re l p q_zq s := Or.inr ⟨q, q0, by omega, by rw [hs, hv, hw]⟩
theorem ent_keep {lm li l p : Int} {ls pb pm pp il la lb ld re re_zq : Int → Int} (h : ent lm li ls pb pm pp il la lb ld re l p) (e1 : re_zq (720 * l + p) = re (720 * l + p)) (e2 : ∀ q, 0 ≤ q → q < pm (ls (l + 1)) → re_zq (720 * (l + 1) + q) = re (720 * (l + 1) + q)) : ent lm li ls pb pm pp il la lb ld re_zq l p := by
  refine ⟨by rw [e1]; exact h.1, fun z => ?_⟩
  obtain ⟨q, q0, q1, q2⟩ := h.2 z
  exact ⟨q, q0, q1, by rw [e1, e2 q q0 q1]; exact q2⟩
theorem rsp_step {lm li l p p_zq q s a x v : Int} {ls pb pm pp il la lb ld re re_zq : Int → Int} (hz : SZ6 lm ls pb pm pp) (hl : 0 ≤ li ∧ li ≤ 120) (h : RSP lm li ls pb pm pp il la lb ld re l p) (hL : LQS li ls pb pp il la lb ld re l p q s) (l0 : 0 ≤ l) (l1 : l + 1 < lm) (p0 : 0 ≤ p) (p1 : p < pm (ls l)) (hq : q = pm (ls (l + 1))) (hp : p_zq = p + 1) (ha : a = 720 * l) (hx : x = a + p) (hv : v = s) (hs : st1 re re_zq x v) : RSP lm li ls pb pm pp il la lb ld re_zq l p_zq := by
  have z1 := sz_pm hz l0 (by omega)
  have z2 := sz_pm hz (l := l + 1) (by omega) l1
  have b := (lqs_bd hz hl h.1 hL l0 l1 (by omega)).2 (by omega)
  have up : ∀ m q, l + 1 ≤ m → 0 ≤ q → re_zq (720 * m + q) = re (720 * m + q) := fun m q c d => (hs _ (by omega)).2 (by omega)
  refine ⟨fun m c m0 m1 k k0 k1 => ?_, fun k k0 k1 => ?_⟩
  · exact ent_keep (h.1 m c m0 m1 k k0 k1) (up m k (by omega) k0) (fun q d _ => up (m + 1) q (by omega) d)
  · by_cases e : k = p
    · subst e
      have ev : re_zq (720 * l + k) = s := by rw [(hs _ (by omega)).1 (by omega), hv]
      refine ⟨by rw [ev]; exact b, fun _ => ?_⟩
      rcases hL with ⟨h1, h2⟩ | ⟨j, j0, j1, j2⟩
      · omega
      · exact ⟨j, j0, by omega, by rw [ev, up (l + 1) j (by omega) j0]; exact j2⟩
    · exact ent_keep (h.2 k k0 (by omega)) ((hs _ (by omega)).2 (by omega)) (fun q d _ => up (l + 1) q (by omega) d)
/-- the way back -/
def SRC (lm li : Int) (ls pb pm pp il la lb ld re : Int → Int) (l p q : Int) : Prop := ∃ k, q ≤ k ∧ k < pm (ls (l + 1)) ∧ re (720 * l + p) = re (720 * (l + 1) + k) + WW li ls pb pp il la lb ld l p k
theorem src_start {lm li l p q : Int} {ls pb pm pp il la lb ld re : Int → Int} (h : RSV lm li ls pb pm pp il la lb ld re 0) (l0 : 0 ≤ l) (l1 : l + 1 < lm) (p0 : 0 ≤ p) (p1 : p < pm (ls l)) (hq : q = 0) : SRC lm li ls pb pm pp il la lb ld re l p q := by
  obtain ⟨k, k0, k1, k2⟩ := (h l l0 l0 (by omega) p p0 p1).2 l1
  exact ⟨k, by omega, k1, k2⟩
theorem src_next {lm li l p q q_zq v w t u m x y : Int} {ls pb pm pp il la lb ld re wo : Int → Int} (hz : SZ6 lm ls pb pm pp) (hW : WGH li ls pb pp il la lb ld wo l p) (h : SRC lm li ls pb pm pp il la lb ld re l p q) (l0 : 0 ≤ l) (l1 : l + 1 < lm) (q0 : 0 ≤ q) (hm : m = ls (l + 1)) (hd : WDT pb pp wo m q w) (hx : x = 720 * (l + 1) + q) (hv : v = re x) (ht : t = v + w) (hy : y = 720 * l + p) (hu : u = re y) (ne : t ≠ u) (hq : q_zq = q + 1) : SRC lm li ls pb pm pp il la lb ld re l p q_zq := by
  obtain ⟨k, k0, k1, k2⟩ := h
  by_cases e : k = q
  · exfalso
    subst e
    have := ww_is hz hW hd hm l0 l1 q0 (by rw [hm]; exact k1)
    exact ne (by rw [ht, hv, hu, hx, hy, this, k2])
  · exact ⟨k, by omega, k1, k2⟩
def LDP (il ls ld : Int → Int) (i : Int) : Prop := ∀ j, 0 ≤ j → j < i → 0 ≤ ld j ∧ ld j < ls (il j)
theorem ldp_step {il ls lt ld ld_zq : Int → Int} {i i_zq q v : Int} (h : LDP il ls ld i) (hi : i_zq = i + 1) (hs : st1 ld ld_zq q v) (hq : q = i) (hp : PLF il ls lt i v) : LDP il ls ld_zq i_zq := by
  intro j a b
  by_cases e : j = i
  · rw [(hs j a).1 (by omega), e]; exact hp.1
  · rw [(hs j a).2 (by omega)]; exact h j a (by omega)
theorem lsg_of {r it lm li i : Int} {A tu il fj la lb ls lt ld : Int → Int} (hA : LSA r it lm li A tu il fj la lb) (hB : LSB it lm il ls lt) (h6 : ISY lm ls) (h : LDP il ls ld i) (hi : it ≤ i) : LSG it lm li il ls la lb ld := by
  refine ⟨fun l a b => ⟨(hB.2 l a b).1.1, h6 l a b⟩, by have := hA.2.1; omega, fun p a b => ?_⟩
  have w := lsa_ln hA a b
  have d1 := h (la p) w.1.1 (by omega)
  have d2 := h (lb p) w.2.1.1 (by omega)
  have i1 := hA.2.2.1 (la p) w.1.1 w.1.2
  have i2 := hA.2.2.1 (lb p) w.2.1.1 w.2.1.2
  have := h6 _ i2.1 i2.2
  exact ⟨i1, d1, by omega, by omega⟩
theorem sz6_of {it lm li : Int} {il ls la lb ld pb pm pp : Int → Int} (h : LSG it lm li il ls la lb ld) (hT : PTB pb pm pp) : SZ6 lm ls pb pm pp := ⟨hT, h.1⟩
def RS0 (lm li : Int) (ls pb pm pp il la lb ld re : Int → Int) : Prop := RSV lm li ls pb pm pp il la lb ld re 0
def WZF (wo : Int → Int) : Prop := WZ0 wo 36
def WBG (pb : Int → Int) (m q b : Int) : Prop := b = pb m + m * q
def FNP (lm : Int) (ls pm : Int → Int) (l p : Int) : Prop := (0 ≤ l ∧ l ≤ lm ∧ 0 ≤ p ∧ p ≤ 719) ∧ (l < lm → p < pm (ls l))
def P00 (ls pm : Int → Int) (p : Int) : Prop := 0 ≤ p ∧ p < pm (ls 0)
theorem wcd_no1 {pp il la lb ld : Int → Int} {l b n a c u v : Int} (hu : u = la c) (hv : v = il u) (ne : v ≠ l) (x : Int) : ¬ wcd pp il la lb ld l b n a c x := fun w => ne (by rw [hv, hu]; exact w.2.1)
theorem lsg_v {it lm li l p u v : Int} {il ls la lb ld : Int → Int} (h : LSG it lm li il ls la lb ld) (p0 : 0 ≤ p) (p1 : p < li) (hl : il (la p) = l) (hu : u = la p) (hv : v = ld u) : 0 ≤ v ∧ v < ls l := by
  have w := (h.2.2 p p0 p1).2.1
  rw [hl] at w
  rw [hv, hu]; exact w
theorem lsg_w {it lm li p u v : Int} {il ls la lb ld : Int → Int} (h : LSG it lm li il ls la lb ld) (p0 : 0 ≤ p) (p1 : p < li) (hu : u = lb p) (hv : v = ld u) : 0 ≤ v ∧ v ≤ 5 := by
  have w := (h.2.2 p p0 p1).2.2
  rw [hv, hu]; exact w
/-- the branch that weigh takes -/
theorem wgt_iff {it lm li l p n a c u v x w y z : Int} {il ls la lb ld pb pm pp io : Int → Int} (hG : LSG it lm li il ls la lb ld) (hT : PTB pb pm pp) (hI : IOF pb pp io ls l p) (hn : n = ls l) (n0 : 0 ≤ n) (n6 : n ≤ 6) (p0 : 0 ≤ p) (p1 : p < pm n) (a0 : 0 ≤ a) (a1 : a < li) (c0 : 0 ≤ c) (c1 : c < li) (ha : il (la a) = l) (hc : il (la c) = l) (hu : u = la a) (hv : v = ld u) (hx : x = io v) (hw : w = la c) (hy : y = ld w) (hz : z = io y) : z < x ↔ gtb pp (pb (ls l) + ls l * p) (ls l) (ld (la a)) (ld (la c)) := by
  have e1 := lsg_v hG a0 a1 ha hu hv
  have e2 := lsg_v hG c0 c1 hc hw hy
  have := iof_gt (v := v) (w := y) hT (show IOK pb pp io (ls l) p (ls l) from hI) (by omega) (by omega) p0 (by rw [← hn]; exact p1) e1.1 e1.2 e2.1 e2.2
  rw [hx, hz]
  rw [hv, hu, hy, hw] at this
  rw [hv, hu, hy, hw]
  exact this
theorem rest_bd {lm li l q : Int} {ls pb pm pp il la lb ld re : Int → Int} (h : RSL lm li ls pb pm pp il la lb ld re l) (l0 : 0 ≤ l) (l1 : l + 1 < lm) (l24 : lm ≤ 24) (q0 : 0 ≤ q) (q1 : q < pm (ls (l + 1))) : 0 ≤ re (720 * (l + 1) + q) ∧ re (720 * (l + 1) + q) ≤ 331200 := by
  have := (h (l + 1) (by omega) (by omega) l1 q q0 q1).1
  omega
theorem lqs_skip {lm li l p q q_zq s v x m : Int} {ls pb pm pp il la lb ld re : Int → Int} (hR : RSL lm li ls pb pm pp il la lb ld re l) (h : LQS li ls pb pp il la lb ld re l p q s) (l0 : 0 ≤ l) (l1 : l + 1 < lm) (l24 : lm ≤ 24) (hm : m = ls (l + 1)) (q0 : 0 ≤ q) (q1 : q < pm m) (hx : x = 720 * (l + 1) + q) (hv : v = re x) (le : s ≤ v) (hq : q_zq = q + 1) : LQS li ls pb pp il la lb ld re l p q_zq s := by
  rw [hm] at q1
  have b := rest_bd hR l0 l1 l24 q0 q1
  rw [← hx, ← hv] at b
  refine lqs_keep h hq (fun z => ?_)
  rcases h with ⟨h1, h2⟩ | ⟨k, k0, k1, k2⟩
  · omega
  · omega
theorem lqs_min {lm li l p q q_zq s s_zq v x m w t : Int} {ls pb pm pp il la lb ld re wo : Int → Int} (hz : SZ6 lm ls pb pm pp) (hl : 0 ≤ li ∧ li ≤ 120) (hR : RSL lm li ls pb pm pp il la lb ld re l) (h : LQS li ls pb pp il la lb ld re l p q s) (hW : WGH li ls pb pp il la lb ld wo l p) (hd : WDT pb pp wo m q w) (l0 : 0 ≤ l) (l1 : l + 1 < lm) (l24 : lm ≤ 24) (hm : m = ls (l + 1)) (q0 : 0 ≤ q) (q1 : q < pm m) (hx : x = 720 * (l + 1) + q) (hv : v = re x) (ht : t = v + w) (hs : (s_zq = s ∧ s ≤ t) ∨ (s_zq = t ∧ t ≤ s)) (hq : q_zq = q + 1) : LQS li ls pb pp il la lb ld re l p q_zq s_zq := by
  have ew := ww_is hz hW hd hm l0 l1 q0 q1
  rw [hm] at q1
  have b := rest_bd hR l0 l1 l24 q0 q1
  have bw := ww_bd (p := p) (il := il) (la := la) (lb := lb) (ld := ld) hz hl l0 l1 q0 q1
  rcases hs with ⟨e, le⟩ | ⟨e, le⟩
  · rw [e]
    refine lqs_keep h hq (fun z => ?_)
    rw [← hx, ← hv] at b
    rcases h with ⟨h1, h2⟩ | ⟨k, k0, k1, k2⟩ <;> omega
  · exact lqs_take (v := v) q0 hq (by rw [hv, hx]) ew (by rw [e, ht])
end
section
/-! the route: costs spread from the goal -/
def dxf (d : Int) : Int := if d = 0 then 1 else if d = 2 then -1 else 0
def dyf (d : Int) : Int := if d = 1 then 1 else if d = 3 then -1 else 0
/-- from p in direction d one comes to q -/
def nb (W T p d q : Int) : Prop := (0 ≤ p % W + dxf d ∧ p % W + dxf d < W) ∧ (0 ≤ p / W + dyf d ∧ p / W + dyf d < T) ∧ q = (p / W + dyf d) * W + (p % W + dxf d)
def gok (W T : Int) : Prop := 1 ≤ W ∧ 1 ≤ T ∧ W * T ≤ 6000
theorem cell_ix {W T x y p : Int} (w : 1 ≤ W) (x0 : 0 ≤ x) (x1 : x < W) (y0 : 0 ≤ y) (y1 : y < T) (hp : p = y * W + x) : p % W = x ∧ p / W = y ∧ 0 ≤ p ∧ p < W * T := by
  have h1 : p / W = y := by rw [hp, Int.add_comm, Int.add_mul_ediv_right _ _ (by omega), Int.ediv_eq_zero_of_lt x0 x1]; omega
  have h2 : p % W = x := by rw [hp, Int.add_comm, Int.add_mul_emod_self_right, Int.emod_eq_of_lt x0 x1]
  have h3 : 0 ≤ y * W := Int.mul_nonneg y0 (by omega)
  have h4 : W * (y + 1) ≤ W * T := Int.mul_le_mul_of_nonneg_left (by omega) (by omega)
  rw [Int.mul_add, Int.mul_one, Int.mul_comm W y] at h4
  exact ⟨h2, h1, by omega, by omega⟩
theorem cell_of {W T p : Int} (w : 1 ≤ W) (p0 : 0 ≤ p) (p1 : p < W * T) : (0 ≤ p % W ∧ p % W < W) ∧ (0 ≤ p / W ∧ p / W < T) ∧ p = (p / W) * W + p % W := by
  refine ⟨⟨Int.emod_nonneg _ (by omega), Int.emod_lt_of_pos _ (by omega)⟩, ⟨Int.ediv_nonneg p0 (by omega), Int.ediv_lt_of_lt_mul (by omega) (by rw [Int.mul_comm]; exact p1)⟩, ?_⟩
  have := Int.mul_ediv_add_emod p W
  rw [Int.mul_comm] at this; omega
theorem nb_in {W T p d q : Int} (h : nb W T p d q) (w : 1 ≤ W) : 0 ≤ q ∧ q < W * T := by
  have := cell_ix w h.1.1 h.1.2 h.2.1.1 h.2.1.2 h.2.2
  exact this.2.2
theorem nb_un {W T p d q q_zq : Int} (h : nb W T p d q) (h_zq : nb W T p d q_zq) : q = q_zq := by rw [h.2.2, h_zq.2.2]
/-- going back -/
theorem nb_back {W T q d x y p : Int} (w : 1 ≤ W) (q0 : 0 ≤ q) (q1 : q < W * T) (hx : x = q % W - dxf d) (hy : y = q / W - dyf d) (x0 : 0 ≤ x) (x1 : x < W) (y0 : 0 ≤ y) (y1 : y < T) (hp : p = y * W + x) : nb W T p d q ∧ 0 ≤ p ∧ p < W * T := by
  have c := cell_ix w x0 x1 y0 y1 hp
  have e := cell_of w q0 q1
  refine ⟨⟨by omega, by omega, ?_⟩, c.2.2⟩
  rw [c.1, c.2.1, show y + dyf d = q / W by omega, show x + dxf d = q % W by omega]
  exact e.2.2
def cw (a d : Int) : Int := if a = d then 1 else 3
theorem cw_bd (a d : Int) : 1 ≤ cw a d ∧ cw a d ≤ 3 := by unfold cw; split <;> omega
/-- why a state has its cost -/
def wit (W T : Int) (ba co : Int → Int) (to c s v : Int) : Prop := (v = 0 ∧ s / 4 = to) ∨ ∃ d q, (0 ≤ d ∧ d < 4) ∧ nb W T (s / 4) d q ∧ ba q = 0 ∧ co (4 * q + d) = v - cw (s % 4) d ∧ 0 ≤ co (4 * q + d) ∧ co (4 * q + d) ≤ c
def vv (c b : Int) : Int := c + (b - c) % 4
def bkt (N : Int) (co bk bm : Int → Int) (c b : Int) : Prop := 0 ≤ bm b ∧ (∀ k, 0 ≤ k → k < bm b → (0 ≤ bk (24010 * b + k) ∧ bk (24010 * b + k) < N) ∧ co (bk (24010 * b + k)) ≤ vv c b) ∧ (∀ j k, 0 ≤ j → j < k → k < bm b → bk (24010 * b + j) ≠ bk (24010 * b + k)) ∧ (0 < bm b → vv c b ≤ 999999)
def cok (W T : Int) (ba co : Int → Int) (to c : Int) : Prop := ∀ s, 0 ≤ s → s < 4 * (W * T) → (0 ≤ co s ∧ co s ≤ 1000000) ∧ (co s < 1000000 → ba (s / 4) = 0 ∧ wit W T ba co to c s (co s))
def RTQ (W T : Int) (ba co bk bm : Int → Int) (to c : Int) : Prop := gok W T ∧ 0 ≤ c ∧ cok W T ba co to c ∧ ∀ b, 0 ≤ b → b < 4 → bkt (4 * (W * T)) co bk bm c b
theorem bkt_len {N c b : Int} {co bk bm : Int → Int} (h : bkt N co bk bm c b) (n0 : 0 ≤ N) : bm b ≤ N := pigeon (q := fun k => bk (24010 * b + k)) n0 (fun k a d => (h.2.1 k a d).1) (fun j k a d e => h.2.2.1 j k a d e)
theorem vv_at {c v b : Int} (h1 : c ≤ v) (h2 : v ≤ c + 3) (hb : b = v % 4) : vv c b = v := by unfold vv; omega
theorem spr_room {W T c to v s : Int} {ba co bk bm : Int → Int} (h : RTQ W T ba co bk bm to c) (h1 : c ≤ v) (h2 : v ≤ c + 3) (s0 : 0 ≤ s) (s1 : s < 4 * (W * T)) (gt : v < co s) : bm (v % 4) + 1 ≤ 24000 := by
  have b := h.2.2.2 (v % 4) (by omega) (by omega)
  have hv := vv_at h1 h2 rfl
  have no : ∀ k, 0 ≤ k → k < bm (v % 4) → bk (24010 * (v % 4) + k) ≠ s := fun k a d e => by
    have := (b.2.1 k a d).2
    rw [e, hv] at this; omega
  have n := h.1
  have := pigeon (q := fun k => if k = bm (v % 4) then s else bk (24010 * (v % 4) + k)) (n := 4 * (W * T)) (m := bm (v % 4) + 1) (by omega) (fun k a d => by
    (try simp only [])
    split
    · omega
    · exact (b.2.1 k a (by omega)).1) (fun j k a d e => by
    (try simp only [])
    rw [if_neg (show ¬ j = bm (v % 4) by omega)]
    by_cases z : k = bm (v % 4)
    · rw [if_pos z]; exact no j a (by omega)
    · rw [if_neg z]; exact b.2.2.1 j k a d (by omega))
  unfold gok at n; omega
/-- a state gets a smaller cost -/
theorem spr_reach {W T c to s v b o p : Int} {ba co co_zq bk bk_zq bm bm_zq : Int → Int} (h : RTQ W T ba co bk bm to c) (h1 : c ≤ v) (h2 : v ≤ c + 3) (s0 : 0 ≤ s) (s1 : s < 4 * (W * T)) (gt : v < co s) (hbar : ba (s / 4) = 0) (hw : wit W T ba co to c s v) (hs : st1 co co_zq s v) (hb : b = v % 4) (hp : p = 24010 * b + bm b) (ht : st1 bk bk_zq p s) (ho : o = bm b + 1) (hu : st1 bm bm_zq b o) : RTQ W T ba co_zq bk_zq bm_zq to c := by
  have room := spr_room h h1 h2 s0 s1 gt
  rw [← hb] at room
  obtain ⟨g, c0, hc, hk⟩ := h
  have es : co_zq s = v := (hs s s0).1 rfl
  have ne : ∀ t, 0 ≤ t → t ≠ s → co_zq t = co t := fun t a e => (hs t a).2 e
  have low : ∀ t, 0 ≤ t → co t ≤ c → co_zq t = co t := fun t a e => ne t a (fun z => by rw [z] at e; omega)
  have wk : ∀ t x, wit W T ba co to c t x → wit W T ba co_zq to c t x := fun t x w => by
    rcases w with w | ⟨d, q, w1, w2, w3, w4, w5, w6⟩
    · exact Or.inl w
    · have qn := nb_in w2 g.1
      have e := low (4 * q + d) (by omega) w6
      exact Or.inr ⟨d, q, w1, w2, w3, by rw [e]; exact w4, by rw [e]; exact w5, by rw [e]; exact w6⟩
  have cs := (hc s s0 s1).1
  refine ⟨g, c0, fun t a d => ?_, fun e a d => ?_⟩
  · by_cases z : t = s
    · subst z
      rw [es]
      exact ⟨by omega, fun _ => ⟨hbar, wk t v hw⟩⟩
    · rw [ne t a z]
      exact ⟨(hc t a d).1, fun lt => ⟨((hc t a d).2 lt).1, wk t _ ((hc t a d).2 lt).2⟩⟩
  · have old := hk e a d
    have len := bkt_len old (by have := g.2; omega)
    have g6 := g.2.2
    have vb := vv_at h1 h2 hb
    have b0 : 0 ≤ b ∧ b < 4 := by omega
    have lenb := bkt_len (hk b b0.1 b0.2) (by have := g.2; omega)
    by_cases z : e = b
    · subst z
      have em : bm_zq e = bm e + 1 := by rw [(hu e a).1 rfl, ho]
      have ek : ∀ k, 0 ≤ k → k < bm e → bk_zq (24010 * e + k) = bk (24010 * e + k) := fun k x y => (ht _ (by omega)).2 (by omega)
      have el : bk_zq (24010 * e + bm e) = s := by rw [(ht _ (by have := old.1; omega)).1 hp.symm]
      have no : ∀ k, 0 ≤ k → k < bm e → bk (24010 * e + k) ≠ s := fun k x y w => by
        have := (old.2.1 k x y).2
        rw [w, vb] at this; omega
      refine ⟨by have := old.1; omega, fun k x y => ?_, fun j k x y w => ?_, fun _ => by rw [vb]; omega⟩
      · by_cases q : k = bm e
        · rw [q, el, es, vb]; omega
        · rw [ek k x (by omega), ne _ (old.2.1 k x (by omega)).1.1 (no k x (by omega))]
          exact old.2.1 k x (by omega)
      · rw [ek j x (by omega)]
        by_cases q : k = bm e
        · rw [q, el]; exact no j x (by omega)
        · rw [ek k (by omega) (by omega)]; exact old.2.2.1 j k x y (by omega)
    · have em : bm_zq e = bm e := (hu e a).2 z
      have ek : ∀ k, 0 ≤ k → k < bm e → bk_zq (24010 * e + k) = bk (24010 * e + k) := fun k x y => (ht _ (by omega)).2 (by have := (hk b b0.1 b0.2).1; omega)
      refine ⟨by rw [em]; exact old.1, fun k x y => ?_, fun j k x y w => ?_, fun w => old.2.2.2 (by omega)⟩
      · rw [em] at y
        have q := old.2.1 k x y
        rw [ek k x y]
        refine ⟨q.1, ?_⟩
        by_cases zz : bk (24010 * e + k) = s
        · rw [zz, es]; rw [zz] at q; omega
        · rw [ne _ q.1.1 zz]; exact q.2
      · rw [em] at w
        rw [ek j x (by omega), ek k (by omega) w]; exact old.2.2.1 j k x y w
/-- one level further, its bucket emptied -/
theorem spr_next {W T c c_zq to b v : Int} {ba co bk bm bm_zq : Int → Int} (h : RTQ W T ba co bk bm to c) (hb : b = c % 4) (hs : st1 bm bm_zq b v) (hv : v = 0) (hc : c_zq = c + 1) : RTQ W T ba co bk bm_zq to c_zq := by
  obtain ⟨g, c0, hk, hB⟩ := h
  refine ⟨g, by omega, fun s a d => ⟨(hk s a d).1, fun lt => ⟨((hk s a d).2 lt).1, ?_⟩⟩, fun e a d => ?_⟩
  · rcases ((hk s a d).2 lt).2 with w | ⟨d_zq, q, w1, w2, w3, w4, w5, w6⟩
    · exact Or.inl w
    · exact Or.inr ⟨d_zq, q, w1, w2, w3, w4, w5, by omega⟩
  · by_cases z : e = b
    · have em : bm_zq e = 0 := by rw [(hs e a).1 z, hv]
      exact ⟨by omega, fun k x y => by omega, fun j k x y w => by omega, fun w => by omega⟩
    · have em : bm_zq e = bm e := (hs e a).2 z
      have ev : vv c_zq e = vv c e := by unfold vv; omega
      have old := hB e a d
      refine ⟨by rw [em]; exact old.1, fun k x y => ?_, fun j k x y w => ?_, fun w => ?_⟩
      · rw [em] at y; rw [ev]; exact old.2.1 k x y
      · rw [em] at w; exact old.2.2.1 j k x y w
      · rw [ev]; exact old.2.2.2 (by omega)
/-- what is left of it for those that walk -/
def RTV (W T : Int) (ba co : Int → Int) (to : Int) : Prop := gok W T ∧ ∃ c, cok W T ba co to c
theorem spd_of {W T c to : Int} {ba co bk bm : Int → Int} (h : RTQ W T ba co bk bm to c) : RTV W T ba co to := ⟨h.1, c, h.2.2.1⟩
end
section
/-! the route: what the methods want and give -/
def GRX (W T : Int) : Prop := gok W T
def RT0 (W T : Int) (ba co bk bm : Int → Int) (to : Int) : Prop := RTQ W T ba co bk bm to 0
def PIV (co : Int → Int) (t c : Int) : Prop := 0 ≤ t ∧ co t = c
def RJB (W T : Int) (ba co : Int → Int) (to c s v : Int) : Prop := (0 ≤ s ∧ s < 4 * (W * T)) ∧ ba (s / 4) = 0 ∧ wit W T ba co to c s v ∧ c ≤ v ∧ v ≤ c + 3
def BFP (W T : Int) (ba : Int → Int) (s p : Int) : Prop := (0 ≤ s ∧ s < 4 * (W * T)) ∧ nb W T p (s % 4) (s / 4) ∧ (0 ≤ p ∧ p < W * T) ∧ ba p = 0 ∧ ba (s / 4) = 0
theorem reach_b {W T c to s v b q o p m : Int} {ba co co_zq bk bk_zq bm bm_zq : Int → Int} (h : RTQ W T ba co bk bm to c) (hj : RJB W T ba co to c s v) (gt : v < co s) (hs : st1 co co_zq s v) (hb : b = v % 4) (hm : m = bm b) (hp : p = 24010 * b + m) (ht : st1 bk bk_zq p s) (hq : q = bm b) (ho : o = q + 1) (hu : st1 bm bm_zq b o) : RTQ W T ba co_zq bk_zq bm_zq to c := spr_reach h hj.2.2.2.1 hj.2.2.2.2 hj.1.1 hj.1.2 gt hj.2.1 hj.2.2.1 hs hb (by rw [hp, hm]) ht (by rw [ho, hq]) hu
theorem piv_keep {co co_zq : Int → Int} {t c s v : Int} (h : PIV co t c) (cv : c ≤ v) (gt : v < co s) (hs : st1 co co_zq s v) : PIV co_zq t c := ⟨h.1, by rw [(hs t h.1).2 (fun e => by rw [← e] at gt; have := h.2; omega)]; exact h.2⟩
theorem reach_room {W T c to s v b m : Int} {ba co bk bm : Int → Int} (h : RTQ W T ba co bk bm to c) (hj : RJB W T ba co to c s v) (gt : v < co s) (hb : b = v % 4) (hm : m = bm b) : 0 ≤ m ∧ m + 1 ≤ 24000 := by
  have := spr_room h hj.2.2.2.1 hj.2.2.2.2 hj.1.1 hj.1.2 gt
  rw [← hb, ← hm] at this
  have k := (h.2.2.2 b (by omega) (by omega)).1
  omega
theorem rjb_i {W T to s v : Int} {ba co : Int → Int} (s0 : 0 ≤ s) (s1 : s < 4 * (W * T)) (hs : s / 4 = to) (hb : ba to = 0) (hv : v = 0) : RJB W T ba co to 0 s v := ⟨⟨s0, s1⟩, by rw [hs]; exact hb, Or.inl ⟨hv, hs⟩, by omega, by omega⟩
theorem rjb_b {W T to c s p f s_zq v d : Int} {ba co : Int → Int} (h : BFP W T ba s p) (hp : PIV co s c) (c0 : 0 ≤ c) (f0 : 0 ≤ f) (f3 : f ≤ 3) (hd : d = s % 4) (hs : s_zq = 4 * p + f) (hv : (f = d ∧ v = c + 1) ∨ (f ≠ d ∧ v = c + 3)) : RJB W T ba co to c s_zq v := by
  obtain ⟨h1, h2, h3, h4, h5⟩ := h
  have e : s_zq / 4 = p := by omega
  have e2 : s_zq % 4 = f := by omega
  have e3 : 4 * (s / 4) + s % 4 = s := by omega
  refine ⟨by omega, by rw [e]; exact h4, Or.inr ⟨s % 4, s / 4, by omega, by rw [e]; exact h2, h5, ?_, ?_, ?_⟩, by omega, by omega⟩
  · rw [e3, hp.2, e2]; unfold cw; rw [← hd]
    rcases hv with ⟨a, b⟩ | ⟨a, b⟩
    · rw [if_pos a]; omega
    · rw [if_neg a]; omega
  · rw [e3, hp.2]; exact c0
  · rw [e3, hp.2]; omega
/-! spread -/
def CF1 (co : Int → Int) (i : Int) : Prop := ∀ s, 0 ≤ s → s < i → co s = 1000000
def CFF (W T : Int) (co : Int → Int) : Prop := CF1 co (4 * (W * T))
def BZ1 (bm : Int → Int) (i : Int) : Prop := ∀ b, 0 ≤ b → b < i → bm b = 0
theorem cf1_step {F F_zq : Int → Int} {i i_zq p v : Int} (h : CF1 F i) (hi : i_zq = i + 1) (hs : st1 F F_zq p v) (hp : p = i) (hv : v = 1000000) : CF1 F_zq i_zq := by
  intro x a b
  by_cases e : x = p
  · rw [(hs x a).1 e, hv]
  · rw [(hs x a).2 e]; exact h x a (by omega)
theorem bz1_step {F F_zq : Int → Int} {i i_zq p v : Int} (h : BZ1 F i) (hi : i_zq = i + 1) (hs : st1 F F_zq p v) (hp : p = i) (hv : v = 0) : BZ1 F_zq i_zq := by
  intro x a b
  by_cases e : x = p
  · rw [(hs x a).1 e, hv]
  · rw [(hs x a).2 e]; exact h x a (by omega)
theorem cff_cok {W T to c : Int} {ba co : Int → Int} (h : CFF W T co) : cok W T ba co to c := fun s a b => by
  rw [h s a b]; exact ⟨by omega, fun z => by omega⟩
theorem rt0_start {W T to i : Int} {ba co bk bm : Int → Int} (g : GRX W T) (h : CFF W T co) (hb : BZ1 bm i) (hi : 4 ≤ i) : RT0 W T ba co bk bm to := by
  refine ⟨g, by omega, cff_cok h, fun b a d => ?_⟩
  have e := hb b a (by omega)
  exact ⟨by omega, fun k x y => by omega, fun j k x y z => by omega, fun z => by omega⟩
theorem rtv_far {W T to : Int} {ba co : Int → Int} (g : GRX W T) (h : CFF W T co) : RTV W T ba co to := ⟨g, 0, cff_cok h⟩
theorem bk_at {W T c to b k s q : Int} {ba co bk bm : Int → Int} (h : RTQ W T ba co bk bm to c) (hb : b = c % 4) (k0 : 0 ≤ k) (k1 : k < bm b) (hq : q = 24010 * b + k) (hs : s = bk q) : (0 ≤ s ∧ s < 4 * (W * T)) ∧ c ≤ 999999 ∧ bm b ≤ 24000 := by
  have x := h.2.2.2 b (by omega) (by omega)
  have g := h.1
  have v := vv_at (c := c) (v := c) (by omega) (by omega) hb
  have wt : 0 ≤ W * T := Int.mul_nonneg (by have := g.1; omega) (by have := g.2.1; omega)
  have l := bkt_len x (by omega)
  have y := (x.2.1 k k0 k1).1
  have z := x.2.2.2 (by omega)
  rw [v] at z
  rw [← hq, ← hs] at y
  exact ⟨y, z, by have := g.2; omega⟩
theorem bm_pos {W T c to b m : Int} {ba co bk bm : Int → Int} (h : RTQ W T ba co bk bm to c) (hb : b = c % 4) (hm : m = bm b) : (0 ≤ m ∧ m ≤ 24000) ∧ (m ≠ 0 → c ≤ 999999) := by
  have x := h.2.2.2 b (by omega) (by omega)
  have g := h.1
  have v := vv_at (c := c) (v := c) (by omega) (by omega) hb
  have wt : 0 ≤ W * T := Int.mul_nonneg (by have := g.1; omega) (by have := g.2.1; omega)
  have l := bkt_len x (by omega)
  have z := x.2.2.2
  rw [v] at z
  have n := x.1
  have := g.2
  exact ⟨by omega, fun w => z (by omega)⟩
/-! walking -/
def STQ (W T : Int) (ba : Int → Int) (p d z : Int) : Prop := -1 ≤ z ∧ (0 ≤ z → nb W T p d z ∧ ba z = 0) ∧ ∀ q, nb W T p d q → ba q = 0 → z = q
def BB1 (W T : Int) (ba co : Int → Int) (p d b f : Int) : Prop := (d = -1 ∧ b = 1000000) ∨ ((0 ≤ d ∧ d < 4) ∧ b < 1000000 ∧ ∃ q, nb W T p d q ∧ ba q = 0 ∧ co (4 * q + d) + 1 = b)
def BB2 (W T : Int) (ba co : Int → Int) (p d t : Int) : Prop := (0 ≤ p ∧ p < W * T) ∧ (0 ≤ d ∧ d < 4) ∧ ba p = 0 ∧ co (4 * p + d) = t ∧ 0 ≤ t ∧ t < 1000000
def mat (W T : Int) (ba co : Int → Int) (p d t f u : Int) : Prop := (0 ≤ f ∧ f < 4) ∧ ∃ q, nb W T p f q ∧ ba q = 0 ∧ co (4 * q + f) = u ∧ u = t - cw d f
def BB3 (W T : Int) (ba co : Int → Int) (p d t n u f : Int) : Prop := (n = -1 ∧ ∀ g, f < g → g < 4 → ¬ ∃ u, mat W T ba co p d t g u) ∨ mat W T ba co p d t n u
theorem bb1_take {W T p d b f f_zq q v x : Int} {ba co : Int → Int} (hs : STQ W T ba p f q) (q0 : 0 ≤ q) (f0 : 0 ≤ f) (f3 : f < 4) (hx : x = 4 * q + f) (hv : v = co x) (lt : v + 1 < 1000000) : BB1 W T ba co p f (v + 1) f_zq := Or.inr ⟨⟨f0, f3⟩, lt, q, (hs.2.1 q0).1, (hs.2.1 q0).2, by rw [← hx, ← hv]⟩
theorem bb2_start {W T to p d b f z t : Int} {ba co : Int → Int} (hV : RTV W T ba co to) (h : BB1 W T ba co p d b f) (d0 : 0 ≤ d) (hs : STQ W T ba p d z) (ht : t = b - 1) : BB2 W T ba co z d t := by
  rcases h with h | ⟨h1, h2, q, h3, h4, h5⟩
  · omega
  · have e := hs.2.2 q h3 h4
    subst e
    have n := nb_in h3 hV.1.1
    obtain ⟨g, c, hc⟩ := hV
    have := (hc (4 * z + d) (by omega) (by omega)).1
    exact ⟨n, h1, h4, by omega, by omega, by omega⟩
theorem bb3_start {W T p d t n u f : Int} {ba co : Int → Int} (hn : n = -1) (hf : f = 3) : BB3 W T ba co p d t n u f := Or.inl ⟨hn, fun g a b => by omega⟩
theorem bb3_take {W T p d t n u f f_zq q v x w : Int} {ba co : Int → Int} (hs : STQ W T ba p f q) (q0 : 0 ≤ q) (f0 : 0 ≤ f) (f3 : f < 4) (hx : x = 4 * q + f) (hv : v = co x) (hw : (f = d ∧ w = 1) ∨ (f ≠ d ∧ w = 3)) (he : v = t - w) (hn : n = f) (hu : u = t - w) : BB3 W T ba co p d t n u f_zq := by
  right
  rw [hn]
  refine ⟨⟨f0, f3⟩, q, (hs.2.1 q0).1, (hs.2.1 q0).2, by rw [← hx, ← hv]; omega, ?_⟩
  unfold cw
  rcases hw with ⟨a, b⟩ | ⟨a, b⟩
  · rw [if_pos (by omega)]; omega
  · rw [if_neg (by omega)]; omega
theorem bb3_skip {W T p d t n u f f_zq q v x w : Int} {ba co : Int → Int} (h : BB3 W T ba co p d t n u f) (hf : f_zq = f - 1) (hs : STQ W T ba p f q) (hw : (f = d ∧ w = 1) ∨ (f ≠ d ∧ w = 3)) (hc : q < 0 ∨ (x = 4 * q + f ∧ v = co x ∧ v ≠ t - w)) : BB3 W T ba co p d t n u f_zq := by
  rcases h with ⟨h1, h2⟩ | h
  · refine Or.inl ⟨h1, fun g a b => ?_⟩
    by_cases e : g = f
    · subst e
      rintro ⟨u_zq, hm, q_zq, n1, n2, n3, n4⟩
      have eq := hs.2.2 q_zq n1 n2
      have ec : cw d g = w := by
        unfold cw
        rcases hw with ⟨y, z⟩ | ⟨y, z⟩
        · rw [if_pos (by omega)]; omega
        · rw [if_neg (by omega)]; omega
      rcases hc with z | ⟨z1, z2, z3⟩
      · have : 0 ≤ q_zq := by
          have c1 := n1.2.2
          have h3 : 0 ≤ (p / W + dyf g) * W := Int.mul_nonneg n1.2.1.1 (by have := n1.1; omega)
          have := n1.1
          omega
        omega
      · subst eq
        rw [z1, n3] at z2
        omega
    · exact h2 g (by omega) b
  · exact Or.inr h
/-- there is a next step -/
theorem bb_next {W T to p d t n u f : Int} {ba co : Int → Int} (hV : RTV W T ba co to) (h2 : BB2 W T ba co p d t) (h3 : BB3 W T ba co p d t n u f) (hf : f < 0) (ne : p ≠ to) : mat W T ba co p d t n u ∧ 0 ≤ u ∧ u + 1 ≤ t := by
  obtain ⟨g, c, hc⟩ := hV
  obtain ⟨p0, d0, b0, e, t0, t1⟩ := h2
  have w := ((hc (4 * p + d) (by omega) (by omega)).2 (by omega)).2
  have ep : (4 * p + d) / 4 = p := by omega
  have ed : (4 * p + d) % 4 = d := by omega
  rw [e] at w
  have m : mat W T ba co p d t n u := by
    rcases h3 with ⟨h1, h2⟩ | h
    · exfalso
      rcases w with w | ⟨d_zq, q, w1, w2, w3, w4, w5, w6⟩
      · rw [ep] at w; exact ne w.2
      · rw [ep] at w2
        rw [ed] at w4
        exact h2 d_zq (by omega) w1.2 ⟨t - cw d d_zq, w1, q, w2, w3, w4, rfl⟩
    · exact h
  obtain ⟨mf, q, n1, n2, n3, n4⟩ := m
  have qn := nb_in n1 g.1
  have := (hc (4 * q + n) (by omega) (by omega)).1
  have := cw_bd d n
  exact ⟨⟨mf, q, n1, n2, n3, n4⟩, by omega, by omega⟩
theorem bb2_next {W T to p d t n u f z : Int} {ba co : Int → Int} (hV : RTV W T ba co to) (h2 : BB2 W T ba co p d t) (h3 : BB3 W T ba co p d t n u f) (hf : f < 0) (ne : p ≠ to) (hs : STQ W T ba p n z) : BB2 W T ba co z n u := by
  obtain ⟨⟨mf, q, n1, n2, n3, n4⟩, u0, u1⟩ := bb_next hV h2 h3 hf ne
  have e := hs.2.2 q n1 n2
  subst e
  have qn := nb_in n1 hV.1.1
  have := h2.2.2.2.2
  exact ⟨qn, mf, n2, n3, by omega, by omega⟩
def RJ0 (W T : Int) (ba co : Int → Int) (to s v : Int) : Prop := RJB W T ba co to 0 s v
theorem gok_bd {W T : Int} (h : GRX W T) : (1 ≤ W ∧ W ≤ 6000) ∧ 1 ≤ T ∧ T ≤ 6000 := by
  obtain ⟨a, b, c⟩ := h
  have h1 : W * 1 ≤ W * T := Int.mul_le_mul_of_nonneg_left b (by omega)
  have h2 : 1 * T ≤ W * T := Int.mul_le_mul_of_nonneg_right a (by omega)
  omega
theorem stq_none {W T p d x y z : Int} {ba : Int → Int} (hx : x = p % W + dxf d) (hy : y = p / W + dyf d) (ho : ¬ ((0 ≤ x ∧ x < W) ∧ 0 ≤ y ∧ y < T)) (hz : z = -1) : STQ W T ba p d z := ⟨by omega, fun w => by omega, fun q h _ => by
  exfalso; apply ho; rw [hx, hy]; exact ⟨h.1, h.2.1⟩⟩
theorem stq_cell {W T p d x y q r : Int} (hx : x = p % W + dxf d) (hy : y = p / W + dyf d) (hi : (0 ≤ x ∧ x < W) ∧ 0 ≤ y ∧ y < T) (hr : r = y * W) (hq : q = r + x) : nb W T p d q := ⟨by rw [← hx]; exact hi.1, by rw [← hy]; exact hi.2, by rw [hq, hr, hx, hy]⟩
theorem stq_ok {W T p d q v z : Int} {ba : Int → Int} (h : nb W T p d q) (w : 1 ≤ W) (hv : v = ba q) (v0 : v = 0) (hz : z = q) : STQ W T ba p d z := by
  have := nb_in h w
  exact ⟨by omega, fun _ => by rw [hz]; exact ⟨h, by rw [← hv]; exact v0⟩, fun q_zq h_zq _ => by rw [hz]; exact nb_un h h_zq⟩
theorem stq_bar {W T p d q v z : Int} {ba : Int → Int} (h : nb W T p d q) (hv : v = ba q) (v0 : v ≠ 0) (hz : z = -1) : STQ W T ba p d z := ⟨by omega, fun w => by omega, fun q_zq h_zq b => by
  have := nb_un h h_zq
  exfalso; rw [← this, ← hv] at b; exact v0 b⟩
theorem rtq_bar {W T to c s : Int} {ba co bk bm : Int → Int} (h : RTQ W T ba co bk bm to c) (hp : PIV co s c) (s1 : s < 4 * (W * T)) (c9 : c ≤ 999999) : ba (s / 4) = 0 := ((h.2.2.1 s hp.1 s1).2 (by rw [hp.2]; omega)).1
theorem cff_of {W T i n m w t : Int} {co : Int → Int} (h : CF1 co i) (hw : w = W) (ht : t = T) (hm : m = 4 * w) (hn : n = m * t) (hi : n ≤ i) : CFF W T co := fun s a b => h s a (by
  have : n = 4 * (W * T) := by rw [hn, hm, hw, ht, Int.mul_assoc]
  omega)
theorem four_n {W T n m w t : Int} (hw : w = W) (ht : t = T) (hm : m = 4 * w) (hn : n = m * t) : n = 4 * (W * T) := by rw [hn, hm, hw, ht, Int.mul_assoc]
end
section
/-! areas: items and their sizes; what lies within a group -/
def itm (io is : Int → Int) (j : Int) : Prop := ((0 ≤ io j ∧ io j < 24) ∨ (100 ≤ io j ∧ io j < 108)) ∧ 1 ≤ is j ∧ is j ≤ 2400
def ITM (k : Int) (io is : Int → Int) : Prop := ∀ j, 0 ≤ j → j < k → itm io is j
def IT1 (k : Int) (io is : Int → Int) (h : Int) : Prop := ∀ j, 0 ≤ j → j ≤ k → j ≠ h → itm io is j
theorem it1_start {k x : Int} {io is : Int → Int} (h : ITM k io is) (e : x = k) : IT1 k io is x := fun j a b c => h j a (by omega)
theorem it1_step {k x y v w : Int} {io is io_zq is_zq : Int → Int} (h : IT1 k io is x) (x0 : 0 < x) (xk : x ≤ k) (e : y = x - 1) (h1 : st1 io io_zq x v) (h2 : st1 is is_zq x w) (hv : v = io y) (hw : w = is y) : IT1 k io_zq is_zq y := by
  intro j a b c
  by_cases z : j = x
  · have q := h y (by omega) (by omega) (by omega)
    unfold itm at *
    rw [(h1 j a).1 z, (h2 j a).1 z, hv, hw]; exact q
  · have q := h j a b z
    unfold itm at *
    rw [(h1 j a).2 z, (h2 j a).2 z]; exact q
theorem it1_fin {k k_zq x v w : Int} {io is io_zq is_zq : Int → Int} (h : IT1 k io is x) (e : k_zq = k + 1) (h1 : st1 io io_zq x v) (h2 : st1 is is_zq x w) (hv : (0 ≤ v ∧ v < 24) ∨ (100 ≤ v ∧ v < 108)) (w1 : 1 ≤ w) (w2 : w ≤ 2400) : ITM k_zq io_zq is_zq := by
  intro j a b
  by_cases z : j = x
  · unfold itm; rw [(h1 j a).1 z, (h2 j a).1 z]; exact ⟨hv, w1, w2⟩
  · have q := h j a (by omega) z
    unfold itm at *
    rw [(h1 j a).2 z, (h2 j a).2 z]; exact q
theorem itm_none {k : Int} {io is : Int → Int} (e : k = 0) : ITM k io is := fun j a b => by omega
def sxN (f : Int → Int) : Nat → Int
  | 0 => 0
  | n + 1 => sxN f n + f ((n : Nat) : Int)
def pxs (f : Int → Int) (x : Int) : Int := sxN f x.toNat
theorem pxs_succ {f : Int → Int} {x y : Int} (x0 : 0 ≤ x) (e : y = x + 1) : pxs f y = pxs f x + f x := by
  subst e
  unfold pxs
  rw [show (x + 1).toNat = x.toNat + 1 by omega]
  show sxN f x.toNat + f ((x.toNat : Nat) : Int) = _
  rw [show ((x.toNat : Nat) : Int) = x by omega]
theorem pxs_grow {k : Int} {io is : Int → Int} (h : ITM k io is) (n : Nat) : ∀ a b : Int, 0 ≤ a → b = a + (n : Int) → b ≤ k → b - a ≤ pxs is b - pxs is a ∧ pxs is b - pxs is a ≤ 2400 * (b - a) := by
  induction n with
  | zero => intro a b a0 e bk; have : b = a := by omega
            subst this; omega
  | succ n ih =>
    intro a b a0 e bk
    have i := ih a (b - 1) a0 (by omega) (by omega)
    have s := pxs_succ (f := is) (x := b - 1) (y := b) (by omega) (by omega)
    have q := (h (b - 1) (by omega) (by omega)).2
    omega
def SQ1 (k : Int) (io is : Int → Int) (t x : Int) : Prop := ITM k io is ∧ 0 ≤ x ∧ x ≤ k ∧ t = pxs is x
def SQ2 (k : Int) (io is : Int → Int) (t x : Int) : Prop := ITM k io is ∧ 0 ≤ x ∧ x ≤ k ∧ t = pxs is k - pxs is x
def SQ3 (k : Int) (io is : Int → Int) (t x y u : Int) : Prop := SQ2 k io is t x ∧ x < y ∧ y ≤ k ∧ u = pxs is y - pxs is x
theorem sq1_start {k t x : Int} {io is : Int → Int} (h : ITM k io is) (k0 : 0 ≤ k) (ht : t = 0) (hx : x = 0) : SQ1 k io is t x := ⟨h, by omega, by omega, by rw [ht, hx]; rfl⟩
theorem sq1_step {k t x t_zq x_zq v : Int} {io is : Int → Int} (h : SQ1 k io is t x) (xk : x < k) (hv : v = is x) (ht : t_zq = t + v) (hx : x_zq = x + 1) : SQ1 k io is t_zq x_zq := ⟨h.1, by have := h.2.1; omega, by omega, by rw [pxs_succ h.2.1 hx, ← h.2.2.2, ← hv, ht]⟩
theorem sq1_bd {k t x : Int} {io is : Int → Int} (h : SQ1 k io is t x) (k4 : k ≤ 40) : 0 ≤ t ∧ t ≤ 96000 := by
  have q := pxs_grow h.1 x.toNat 0 x (by omega) (by have := h.2.1; omega) h.2.2.1
  have z : pxs is 0 = 0 := rfl
  have := h.2
  omega
theorem sq2_start {k t x y : Int} {io is : Int → Int} (h : SQ1 k io is t x) (xk : k ≤ x) (hy : y = 0) : SQ2 k io is t y := by
  have e : x = k := by have := h.2.2.1; omega
  refine ⟨h.1, by omega, by have := h.2; omega, ?_⟩
  have z : pxs is 0 = 0 := rfl
  rw [hy, z, ← e, ← h.2.2.2]; omega
theorem sq3_start {k t x y u : Int} {io is : Int → Int} (h : SQ2 k io is t x) (xk : x < k) (hy : y = x + 1) (hu : u = is x) : SQ3 k io is t x y u := ⟨h, by omega, by omega, by rw [pxs_succ h.2.1 hy, hu]; omega⟩
theorem sq3_step {k t x y u y_zq u_zq v : Int} {io is : Int → Int} (h : SQ3 k io is t x y u) (yk : y < k) (hv : v = is y) (hy : y_zq = y + 1) (hu : u_zq = u + v) : SQ3 k io is t x y_zq u_zq := by
  have a := h.1.2.1
  have b := h.2
  refine ⟨h.1, by omega, by omega, ?_⟩
  rw [pxs_succ (by omega) hy]; omega
theorem sq3_bd {k t x y u : Int} {io is : Int → Int} (h : SQ3 k io is t x y u) (k4 : k ≤ 40) : 1 ≤ u ∧ u ≤ t ∧ t ≤ 96000 := by
  have a := h.1.2
  have b := h.2
  have q := pxs_grow h.1.1 (y - x).toNat x y a.1 (by omega) b.2.1
  have p := pxs_grow h.1.1 (k - y).toNat y k (by omega) (by omega) (by omega)
  have s := pxs_grow h.1.1 (k - x).toNat x k (by omega) (by omega) (by omega)
  omega
theorem sq3_next {k t x y u t_zq x_zq : Int} {io is : Int → Int} (h : SQ3 k io is t x y u) (ht : t_zq = t - u) (hx : x_zq = y) : SQ2 k io is t_zq x_zq := by
  have a := h.1.2
  have b := h.2
  exact ⟨h.1.1, by omega, by omega, by rw [hx]; omega⟩
def wiF (A : Int → Int) (r b : Int) : Nat → Int → Int → Prop
  | 0, x, v => (x ≤ 0 ∨ x = b) ∧ v = if x = b then 1 else 0
  | n + 1, x, v => (0 < x ∧ x ≠ b) ∧ wiF A r b n (A (r + 531 + x)) v
def Wi (A : Int → Int) (r b x v : Int) : Prop := ∃ n, wiF A r b n x v
theorem wi_stop {A : Int → Int} {r b x v : Int} (h : x ≤ 0 ∨ x = b) (hv : v = if x = b then 1 else 0) : Wi A r b x v := ⟨0, h, hv⟩
theorem wi_step {A : Int → Int} {r b x v : Int} (x0 : 0 < x) (xb : x ≠ b) (h : Wi A r b (A (r + 531 + x)) v) : Wi A r b x v := by
  obtain ⟨n, h⟩ := h
  exact ⟨n + 1, ⟨x0, xb⟩, h⟩
theorem wi_det1 {A : Int → Int} {r b : Int} (n : Nat) : ∀ m x v w, wiF A r b n x v → wiF A r b m x w → v = w := by
  induction n with
  | zero =>
    intro m x v w h1 h2
    cases m with
    | zero => rw [h1.2, h2.2]
    | succ m => have a := h1.1; have c := h2.1; omega
  | succ n ih =>
    intro m x v w h1 h2
    cases m with
    | zero => have a := h1.1; have c := h2.1; omega
    | succ m => exact ih m _ v w h1.2 h2.2
theorem wi_det {A : Int → Int} {r b x v : Int} (h1 : Wi A r b x v) : ∀ w, Wi A r b x w → v = w := by
  intro w h2
  obtain ⟨n, h1⟩ := h1
  obtain ⟨m, h2⟩ := h2
  exact wi_det1 n m x v w h1 h2
def WI1 (r : Int) (A : Int → Int) (a b x : Int) : Prop := ∀ v, Wi A r b x v → Wi A r b a v
def WIN (r : Int) (A : Int → Int) (a b v : Int) : Prop := Wi A r b a v
theorem wi1_start {r a b x : Int} {A : Int → Int} (e : x = a) : WI1 r A a b x := fun v h => by rw [← e]; exact h
theorem wi1_step {r a b x y p : Int} {A : Int → Int} (h : WI1 r A a b x) (x0 : 0 < x) (xb : x ≠ b) (hp : p = r + 531 + x) (hy : y = A p) : WI1 r A a b y := fun v q => h v (wi_step x0 xb (by rw [← hp, ← hy]; exact q))
theorem win_end {r a b x v : Int} {A : Int → Int} (h : WI1 r A a b x) (hx : x ≤ 0 ∨ x = b) (hv : (x = b ∧ v = 1) ∨ (x ≠ b ∧ v = 0)) : WIN r A a b v := h v (wi_stop hx (by rcases hv with ⟨p, q⟩ | ⟨p, q⟩; rw [if_pos p, q]; rw [if_neg p, q]))
def Sgs (A : Int → Int) (r g : Int) : Nat → Int → Prop
  | 0, s => s = 0
  | n + 1, s => ∃ s0 w t, Sgs A r g n s0 ∧ Wi A r g (A (r + 243 + (n : Int))) w ∧ (t = if w = 0 then 0 else A (r + 219 + (n : Int))) ∧ s = s0 + t
theorem sgs_det {A : Int → Int} {r g : Int} (n : Nat) : ∀ s t, Sgs A r g n s → Sgs A r g n t → s = t := by
  induction n with
  | zero => intro s t h1 h2; rw [show s = 0 from h1, show t = 0 from h2]
  | succ n ih =>
    intro s t h1 h2
    obtain ⟨s0, w, u, a1, a2, a3, a4⟩ := h1
    obtain ⟨s0_zq, w_zq, u_zq, b1, b2, b3, b4⟩ := h2
    rw [a4, b4, ih _ _ a1 b1, a3, b3, wi_det a2 _ b2]
def SO1 (r : Int) (A : Int → Int) (g n s : Int) : Prop := 0 ≤ n ∧ Sgs A r g n.toNat s
def SOG (r : Int) (A : Int → Int) (g s : Int) : Prop := Sgs A r g (A r).toNat s
theorem so1_start {r g n s : Int} {A : Int → Int} (hn : n = 0) (hs : s = 0) : SO1 r A g n s := ⟨by omega, by rw [hn, hs]; rfl⟩
theorem so1_step {r g n s n_zq s_zq a w t : Int} {A : Int → Int} (h : SO1 r A g n s) (hn : n_zq = n + 1) (ha : a = A (r + 243 + n)) (hw : WIN r A a g w) (ht : (w = 0 ∧ t = 0) ∨ (w ≠ 0 ∧ t = A (r + 219 + n))) (hs : s_zq = s + t) : SO1 r A g n_zq s_zq := by
  refine ⟨by have := h.1; omega, ?_⟩
  have e : ((n.toNat : Nat) : Int) = n := by have := h.1; omega
  rw [hn, hs, show (n + 1).toNat = n.toNat + 1 by have := h.1; omega]
  refine ⟨s, w, t, h.2, by rw [e, ← ha]; exact hw, ?_, rfl⟩
  rw [e]
  rcases ht with ⟨p, q⟩ | ⟨p, q⟩
  · rw [if_pos p, q]
  · rw [if_neg p, q]
theorem so1_end {r g n s : Int} {A : Int → Int} (h : SO1 r A g n s) (h1 : n = A r) : SOG r A g s := by
  unfold SOG; rw [← h1]; exact h.2
theorem sog_det {r g s t : Int} {A : Int → Int} (h1 : SOG r A g s) (h2 : SOG r A g t) : s = t := sgs_det _ _ _ h1 h2
end
section
/-! forces: the places stay near, so squares of distances do not wrap and are not 0 -/
def FXK (fx fy : Int → Int) (k a b : Int) : Prop := ∀ i, a ≤ i → i < b → (-(4096 + 256 * k) ≤ fx i ∧ fx i ≤ 4096 + 256 * k) ∧ (-(4096 + 256 * k) ≤ fy i ∧ fy i ≤ 4096 + 256 * k)
def FX0 (fx fy : Int → Int) (j : Int) : Prop := FXK fx fy 0 0 j
def FXB (fx fy : Int → Int) (n k : Int) : Prop := FXK fx fy k 0 n
def FXM (fx fy : Int → Int) (n k j : Int) : Prop := FXK fx fy (k + 1) 0 j ∧ FXK fx fy k j n
theorem fx0_start {fx fy : Int → Int} {j : Int} (h : j = 0) : FX0 fx fy j := fun i a b => by omega
theorem fx0_step {fx fy fx_zq fy_zq : Int → Int} {j j_zq v w p q : Int} (h : FX0 fx fy j) (j0 : 0 ≤ j) (hj : j_zq = j + 1) (h1 : st1 fx fx_zq p v) (hp : p = j) (h2 : st1 fy fy_zq q w) (hq : q = j) (v0 : 0 ≤ v) (v1 : v ≤ 4096) (w0 : 0 ≤ w) (w1 : w ≤ 4096) : FX0 fx_zq fy_zq j_zq := by
  intro i a b
  by_cases e : i = j
  · rw [(h1 i a).1 (by omega), (h2 i a).1 (by omega)]; omega
  · rw [(h1 i a).2 (by omega), (h2 i a).2 (by omega)]; exact h i a (by omega)
theorem fxb_start {fx fy : Int → Int} {j n k : Int} (h : FX0 fx fy j) (hn : n ≤ j) (hk : k = 0) : FXB fx fy n k := fun i a b => by
  have := h i a (by omega)
  omega
theorem fxm_start {fx fy : Int → Int} {n k j : Int} (h : FXB fx fy n k) (hj : j = 0) : FXM fx fy n k j := ⟨fun i a b => by omega, fun i a b => h i (by omega) b⟩
theorem fxm_step {fx fy fx_zq fy_zq : Int → Int} {n k j j_zq v w p q d f x y : Int} (h : FXM fx fy n k j) (j0 : 0 ≤ j) (jn : j < n) (hj : j_zq = j + 1) (h1 : st1 fx fx_zq p v) (hp : p = j) (h2 : st1 fy fy_zq q w) (hq : q = j) (hx : x = fx j) (hy : y = fy j) (hv : v = x + d) (hw : w = y + f) (d0 : -256 ≤ d) (d1 : d ≤ 256) (f0 : -256 ≤ f) (f1 : f ≤ 256) : FXM fx_zq fy_zq n k j_zq := by
  refine ⟨fun i a b => ?_, fun i a b => ?_⟩
  · by_cases e : i = j
    · rw [(h1 i a).1 (by omega), (h2 i a).1 (by omega)]
      have q := h.2 j (by omega) jn
      omega
    · rw [(h1 i a).2 (by omega), (h2 i a).2 (by omega)]; exact h.1 i a (by omega)
  · rw [(h1 i (by omega)).2 (by omega), (h2 i (by omega)).2 (by omega)]; exact h.2 i (by omega) b
theorem fxb_next {fx fy : Int → Int} {n k j k_zq : Int} (h : FXM fx fy n k j) (hj : n ≤ j) (hk : k_zq = k + 1) : FXB fx fy n k_zq := fun i a b => by
  have := h.1 i a (by omega)
  omega
def FXD (fx fy : Int → Int) (n : Int) : Prop := ∀ i, 0 ≤ i → i < n → (-60000 ≤ fx i ∧ fx i ≤ 60000) ∧ (-60000 ≤ fy i ∧ fy i ≤ 60000)
theorem fxd_of {fx fy : Int → Int} {n k : Int} (h : FXB fx fy n k) (k1 : k ≤ 200) : FXD fx fy n := fun i a b => by
  have := h i a b
  omega
theorem sq_pos2 {x y a b s : Int} (ha : a = x * x) (hb : b = y * y) (hs : s = a + b) (h : x ≠ 0 ∨ y ≠ 0) (a1 : a ≤ 14400000000) (b1 : b ≤ 14400000000) : 1 ≤ s ∧ s ≤ 28800000000 := by
  have p : ∀ z : Int, 0 ≤ z * z := fun z => by
    rcases Int.le_total 0 z with q | q
    · exact Int.mul_nonneg q q
    · exact Int.mul_nonneg_of_nonpos_of_nonpos q q
  have p_zq : ∀ z : Int, z ≠ 0 → z * z ≠ 0 := fun z hz e => by
    rcases Int.mul_eq_zero.mp e with q | q <;> exact hz q
  have px := p x
  have py := p y
  rcases h with h | h
  · have := p_zq x h; omega
  · have := p_zq y h; omega
end
section
/-! the class's Stretch: ways back, rings -/
def srp (fr by_zq : Int → Int) (v : Int) : Nat → Int
  | 0 => v
  | i + 1 => fr (by_zq (srp fr by_zq v i))
def srg (fr gn by_zq : Int → Int) (v : Int) : Nat → Int
  | 0 => 0
  | i + 1 => srg fr gn by_zq v i + gn (by_zq (srp fr by_zq v i))
theorem srp_add (fr by_zq : Int → Int) (v : Int) (i : Nat) : ∀ j : Nat, srp fr by_zq (srp fr by_zq v i) j = srp fr by_zq v (i + j)
  | 0 => rfl
  | j + 1 => by
    show fr (by_zq (srp fr by_zq (srp fr by_zq v i) j)) = fr (by_zq (srp fr by_zq v (i + j)))
    rw [srp_add fr by_zq v i j]
def RNG (fr by_zq : Int → Int) (v : Int) : Prop := ∃ L : Nat, 0 < L ∧ srp fr by_zq v L = v ∧ (∀ j, j < L → 0 ≤ by_zq (srp fr by_zq v j)) ∧ ∀ j, 0 < j → j < L → srp fr by_zq v j ≠ v
def ENDS (fr by_zq : Int → Int) (v : Int) : Prop := ∃ i : Nat, by_zq (srp fr by_zq v i) = -1
theorem ring_all {fr by_zq : Int → Int} {v : Int} {L : Nat} (hL : 0 < L) (e : srp fr by_zq v L = v) (h : ∀ j, j < L → 0 ≤ by_zq (srp fr by_zq v j)) : ∀ i, 0 ≤ by_zq (srp fr by_zq v i) := by
  intro i
  induction i using Nat.strongRecOn with
  | _ i ih =>
    by_cases hi : i < L
    · exact h i hi
    · have := ih (i - L) (by omega)
      have h2 := srp_add fr by_zq v L (i - L)
      rw [e, show L + (i - L) = i from by omega] at h2
      rw [← h2]; exact this
theorem rng_all {fr by_zq : Int → Int} {v : Int} (h : RNG fr by_zq v) : ∀ i, 0 ≤ by_zq (srp fr by_zq v i) := by
  obtain ⟨L, hL, e, h2, _⟩ := h
  exact ring_all hL e h2
/-! ringInBy -/
def HFR (n : Int) (fr by_zq : Int → Int) : Prop := ∀ w, 0 ≤ w → w < n → 0 ≤ by_zq w → 0 ≤ fr (by_zq w) ∧ fr (by_zq w) < n
def SNO (n : Int) (fr by_zq mk : Int → Int) (st : Int) : Prop := (∀ w, 0 ≤ w → w < 72 → mk w < st) ∧ (HFR n fr by_zq → ∀ w, 0 ≤ w → w < n → (mk w ≠ -1 → ENDS fr by_zq w) ∧ (w < st → mk w ≠ -1))
def SNI (n : Int) (fr by_zq mk : Int → Int) (st v k : Int) : Prop := 0 ≤ k ∧
  (∀ j : Nat, j < k.toNat → 0 ≤ srp fr by_zq st j ∧ srp fr by_zq st j < 72 ∧ mk (srp fr by_zq st j) = st) ∧
  (∀ j : Nat, j + 1 < k.toNat → 0 ≤ by_zq (srp fr by_zq st j)) ∧
  (∀ i j : Nat, i < j → j < k.toNat → srp fr by_zq st i ≠ srp fr by_zq st j) ∧
  ((k = 0 ∧ v = st) ∨ (0 < k ∧ by_zq (srp fr by_zq st (k.toNat - 1)) = -1 ∧ v = -1) ∨ (0 < k ∧ 0 ≤ by_zq (srp fr by_zq st (k.toNat - 1)) ∧ v = srp fr by_zq st k.toNat)) ∧
  (∀ w, 0 ≤ w → w < 72 → mk w = st → ∃ j : Nat, j < k.toNat ∧ srp fr by_zq st j = w) ∧
  (∀ w, 0 ≤ w → w < 72 → mk w ≤ st) ∧ (HFR n fr by_zq → ∀ w, 0 ≤ w → w < n → (mk w ≠ -1 → mk w ≠ st → ENDS fr by_zq w) ∧ (w < st → mk w ≠ -1))
def SNB (n : Int) (fr by_zq : Int → Int) (an : Int) : Prop := (an ≠ -1 → RNG fr by_zq an) ∧ (an = -1 → HFR n fr by_zq → ∀ v, 0 ≤ v → v < n → ENDS fr by_zq v) ∧ (an ≠ -1 → 0 ≤ an ∧ (HFR n fr by_zq → an < n))
theorem sno_start {n : Int} {fr by_zq mk : Int → Int} {st : Int} (h : ∀ w, 0 ≤ w → w < 72 → mk w = -1) (hn : n ≤ 72) (hs : st = 0) : SNO n fr by_zq mk st :=
  ⟨fun w a b => by rw [h w a b]; omega, fun _ w a b => ⟨fun e => absurd (h w a (by omega)) e, fun e => by omega⟩⟩
theorem sni_start {n : Int} {fr by_zq mk : Int → Int} {st v k : Int} (h : SNO n fr by_zq mk st) (hv : v = st) (hk : k = 0) : SNI n fr by_zq mk st v k := by
  subst hk
  refine ⟨by omega, fun j hj => by omega, fun j hj => by omega, fun i j _ hj => by omega, Or.inl ⟨rfl, hv⟩, fun w a b e => ?_, fun w a b => ?_, fun hf w a b => ⟨fun h1 _ => (h.2 hf w a b).1 h1, (h.2 hf w a b).2⟩⟩
  · have := h.1 w a b; omega
  · have := h.1 w a b; omega
theorem sni_step {n : Int} {fr by_zq mk mk_zq : Int → Int} {st v k v_zq k_zq q s : Int} (h : SNI n fr by_zq mk st v k) (hs : st1 mk mk_zq q s) (hq : q = v) (hss : s = st) (hm : mk v = -1) (hv0 : 0 ≤ v) (hv1 : v < 72) (s0 : 0 ≤ st) (hv_zq : (by_zq v = -1 ∧ v_zq = -1) ∨ (0 ≤ by_zq v ∧ v_zq = fr (by_zq v))) (hk : k_zq = k + 1) : SNI n fr by_zq mk_zq st v_zq k_zq := by
  obtain ⟨k0, h1, h2, h3, h4, h5, h6, h7⟩ := h
  subst hk hq hss
  have ev : q = srp fr by_zq s k.toNat := by
    rcases h4 with ⟨a, b⟩ | ⟨_, _, b⟩ | ⟨_, _, b⟩
    · rw [a, b]; rfl
    · omega
    · exact b
  have eK : (k + 1).toNat = k.toNat + 1 := by omega
  have mk_ne : ∀ w, 0 ≤ w → w ≠ q → mk_zq w = mk w := fun w a b => (hs w a).2 b
  have mk_q : mk_zq q = s := (hs q hv0).1 rfl
  rw [SNI, eK]
  refine ⟨by omega, fun j hj => ?_, fun j hj => ?_, fun i j hij hj => ?_, ?_, fun w a b e => ?_, fun w a b => ?_, fun hf w a b => ?_⟩
  · by_cases e : j = k.toNat
    · subst e; rw [← ev]; exact ⟨hv0, hv1, mk_q⟩
    · obtain ⟨a, b, c⟩ := h1 j (by omega)
      refine ⟨a, b, ?_⟩
      rw [mk_ne _ a (fun e2 => by rw [e2, hm] at c; omega)]; exact c
  · by_cases e : j + 1 = k.toNat
    · rcases h4 with ⟨a, b⟩ | ⟨_, _, b⟩ | ⟨_, b, _⟩
      · omega
      · omega
      · rw [show k.toNat - 1 = j by omega] at b; exact b
    · exact h2 j (by omega)
  · by_cases e : j = k.toNat
    · subst e
      intro e2
      obtain ⟨a, b, c⟩ := h1 i (by omega)
      rw [e2, ← ev, hm] at c; omega
    · exact h3 i j hij (by omega)
  · right
    rw [show k.toNat + 1 - 1 = k.toNat by omega, ← ev]
    rcases hv_zq with ⟨a, b⟩ | ⟨a, b⟩
    · exact Or.inl ⟨by omega, a, b⟩
    · refine Or.inr ⟨by omega, a, ?_⟩
      rw [b]
      show fr (by_zq q) = fr (by_zq (srp fr by_zq s k.toNat))
      rw [← ev]
  · by_cases e2 : w = q
    · exact ⟨k.toNat, by omega, by rw [e2, ← ev]⟩
    · rw [mk_ne w a e2] at e
      obtain ⟨j, hj, e3⟩ := h5 w a b e
      exact ⟨j, by omega, e3⟩
  · by_cases e2 : w = q
    · rw [e2, mk_q]; omega
    · rw [mk_ne w a e2]; exact h6 w a b
  · by_cases e2 : w = q
    · subst e2; rw [mk_q]; exact ⟨fun _ e => absurd rfl e, fun _ => by omega⟩
    · rw [mk_ne w a e2]; exact h7 hf w a b
theorem sni_ring {n : Int} {fr by_zq mk : Int → Int} {st v k : Int} (h : SNI n fr by_zq mk st v k) (hv0 : 0 ≤ v) (hv1 : v < 72) (hm : mk v = st) : RNG fr by_zq v := by
  obtain ⟨k0, h1, h2, h3, h4, h5, h6, h7⟩ := h
  obtain ⟨i, hi, e⟩ := h5 v hv0 hv1 hm
  have h4_zq : 0 ≤ by_zq (srp fr by_zq st (k.toNat - 1)) ∧ v = srp fr by_zq st k.toNat := by
    rcases h4 with ⟨a, b⟩ | ⟨_, _, b⟩ | ⟨_, b, c⟩
    · omega
    · omega
    · exact ⟨b, c⟩
  refine ⟨k.toNat - i, by omega, ?_, fun j hj => ?_, fun j j0 hj => ?_⟩
  · have := srp_add fr by_zq st i (k.toNat - i)
    rw [e, show i + (k.toNat - i) = k.toNat by omega, ← h4_zq.2] at this
    exact this
  · have := srp_add fr by_zq st i j
    rw [e] at this; rw [this]
    by_cases e2 : i + j + 1 < k.toNat
    · exact h2 _ e2
    · rw [show i + j = k.toNat - 1 by omega]; exact h4_zq.1
  · have := srp_add fr by_zq st i j
    rw [e] at this; rw [this]
    intro e2
    exact h3 i (i + j) (by omega) (by omega) (by rw [e, e2])
theorem inj_le {n : Int} {f : Nat → Int} {N : Nat} (n0 : 0 ≤ n) (h1 : ∀ i, i < N → 0 ≤ f i ∧ f i < n) (h2 : ∀ i j, i < j → j < N → f i ≠ f j) : (N : Int) ≤ n := by
  have := php N n.toNat (fun i => (f i).toNat) (fun i hi => by have := h1 i hi; omega) (fun i j hi hj e => by
    have a := h1 i hi
    have b := h1 j hj
    have e2 : f i = f j := by
      have : (f i).toNat = (f j).toNat := e
      omega
    rcases Nat.lt_trichotomy i j with q | q | q
    · exact absurd e2 (h2 i j q hj)
    · exact q
    · exact absurd e2.symm (h2 j i q hi))
  omega
theorem sni_next {n : Int} {fr by_zq mk : Int → Int} {st st_zq v k : Int} (h : SNI n fr by_zq mk st v k) (hn : n ≤ 72) (s0 : 0 ≤ st) (s1 : st < n) (hv1 : v < 72) (hx : n < k ∨ v = -1 ∨ mk v ≠ -1) (hm : v = -1 ∨ mk v ≠ st) (hv0 : -1 ≤ v) (hs : st_zq = st + 1) : SNO n fr by_zq mk st_zq := by
  obtain ⟨k0, h1, h2, h3, h4, h5, h6, h7⟩ := h
  subst hs
  refine ⟨fun w a b => by have := h6 w a b; omega, fun hf w a b => ?_⟩
  -- all nodes of the way lie below n
  have rg : ∀ j : Nat, j < k.toNat → 0 ≤ srp fr by_zq st j ∧ srp fr by_zq st j < n := fun j => by
    induction j with
    | zero => exact fun _ => ⟨s0, s1⟩
    | succ j ih =>
      intro hj
      obtain ⟨a1, a2⟩ := ih (by omega)
      exact hf _ a1 a2 (h2 j (by omega))
  have hk : k ≤ n := by
    have := inj_le (by omega) rg h3
    omega
  have hE : ∃ i : Nat, by_zq (srp fr by_zq st (k.toNat - 1 + i)) = -1 ∨ k = 0 := by
    rcases h4 with ⟨a, b⟩ | ⟨a, b, c⟩ | ⟨a, b, c⟩
    · exact ⟨0, Or.inr a⟩
    · exact ⟨0, Or.inl b⟩
    · have v1 : 0 ≤ v := by
        rcases hx with q | q | q
        · omega
        · exfalso
          have h8 := hf _ (rg (k.toNat - 1) (by omega)).1 (rg (k.toNat - 1) (by omega)).2 b
          have : v = fr (by_zq (srp fr by_zq st (k.toNat - 1))) := by
            rw [c, show k.toNat = (k.toNat - 1) + 1 by omega]; rfl
          omega
        · by_cases e : v = -1
          · exfalso
            have h8 := hf _ (rg (k.toNat - 1) (by omega)).1 (rg (k.toNat - 1) (by omega)).2 b
            have : v = fr (by_zq (srp fr by_zq st (k.toNat - 1))) := by
              rw [c, show k.toNat = (k.toNat - 1) + 1 by omega]; rfl
            omega
          · omega
      have v2 : v < n := by
        have h8 := hf _ (rg (k.toNat - 1) (by omega)).1 (rg (k.toNat - 1) (by omega)).2 b
        have : v = fr (by_zq (srp fr by_zq st (k.toNat - 1))) := by
          rw [c, show k.toNat = (k.toNat - 1) + 1 by omega]; rfl
        omega
      have m1 : mk v ≠ -1 := by
        rcases hx with q | q | q
        · omega
        · omega
        · exact q
      have m2 : mk v ≠ st := by
        rcases hm with q | q
        · omega
        · exact q
      obtain ⟨i, hi⟩ := (h7 hf v v1 v2).1 m1 m2
      refine ⟨i + 1, Or.inl ?_⟩
      have h9 := srp_add fr by_zq st k.toNat i
      rw [← c] at h9
      rw [show k.toNat - 1 + (i + 1) = k.toNat + i by omega, ← h9]; exact hi
  refine ⟨fun hw => ?_, fun hw => ?_⟩
  · by_cases e : mk w = st
    · obtain ⟨j, hj, e2⟩ := h5 w a (by omega) e
      obtain ⟨i, hi⟩ := hE
      have hi_zq : by_zq (srp fr by_zq st (k.toNat - 1 + i)) = -1 := hi.elim id (fun q => by omega)
      refine ⟨k.toNat - 1 + i - j, ?_⟩
      have h9 := srp_add fr by_zq st j (k.toNat - 1 + i - j)
      rw [e2, show j + (k.toNat - 1 + i - j) = k.toNat - 1 + i by omega] at h9
      rw [h9]; exact hi_zq
    · exact (h7 hf w a b).1 hw e
  · by_cases e : w = st
    · subst e
      by_cases k1 : 0 < k
      · have := (h1 0 (by omega)).2.2
        have e3 : srp fr by_zq w 0 = w := rfl
        rw [e3] at this; omega
      · rcases h4 with ⟨a_zq, b_zq⟩ | ⟨a_zq, _, _⟩ | ⟨a_zq, _, _⟩
        · rcases hx with q | q | q
          · omega
          · omega
          · rw [b_zq] at q; exact q
        · omega
        · omega
    · exact (h7 hf w a b).2 (by omega)
theorem sni_lt {n : Int} {fr by_zq mk : Int → Int} {st v k : Int} (h : SNI n fr by_zq mk st v k) (s0 : 0 ≤ st) (s1 : st < n) (hv : v ≠ -1) (hf : HFR n fr by_zq) : v < n := by
  obtain ⟨k0, h1, h2, h3, h4, h5, h6, h7⟩ := h
  have rg : ∀ j : Nat, j < k.toNat → 0 ≤ srp fr by_zq st j ∧ srp fr by_zq st j < n := fun j => by
    induction j with
    | zero => exact fun _ => ⟨s0, s1⟩
    | succ j ih =>
      intro hj
      obtain ⟨a1, a2⟩ := ih (by omega)
      exact hf _ a1 a2 (h2 j (by omega))
  rcases h4 with ⟨a, b⟩ | ⟨_, _, b⟩ | ⟨a, b, c⟩
  · omega
  · omega
  · have h8 := hf _ (rg (k.toNat - 1) (by omega)).1 (rg (k.toNat - 1) (by omega)).2 b
    have : v = fr (by_zq (srp fr by_zq st (k.toNat - 1))) := by
      rw [c, show k.toNat = (k.toNat - 1) + 1 by omega]; rfl
    omega
theorem snb_ring {n : Int} {fr by_zq mk : Int → Int} {an v st k : Int} (h : SNI n fr by_zq mk st v k) (e : an = v) (h0 : 0 ≤ v) (hv1 : v < 72) (hm : mk v = st) (s0 : 0 ≤ st) (s1 : st < n) : SNB n fr by_zq an := by
  subst e
  exact ⟨fun _ => sni_ring h h0 hv1 hm, fun q => by omega, fun q => ⟨h0, fun hf => sni_lt h s0 s1 q hf⟩⟩
theorem snb_none {n : Int} {fr by_zq mk : Int → Int} {an st : Int} (h : SNO n fr by_zq mk st) (hs : n ≤ st) (e : an = -1) : SNB n fr by_zq an := ⟨fun q => absurd e q, fun _ hf v a b => (h.2 hf v a b).1 ((h.2 hf v a b).2 (by omega)), fun q => absurd e q⟩
/-! sendRound without sums: what is read lies on the ring -/
def SR1 (fr by_zq : Int → Int) (st v k : Int) : Prop := 0 ≤ k ∧ v = srp fr by_zq st k.toNat
theorem sr1_start {fr by_zq : Int → Int} {st v k : Int} (hv : v = st) (hk : k = 0) : SR1 fr by_zq st v k := ⟨by omega, by rw [hk, hv]; rfl⟩
theorem sr1_by {fr by_zq : Int → Int} {st v k : Int} (h : SR1 fr by_zq st v k) (hr : RNG fr by_zq st) : 0 ≤ by_zq v := by rw [h.2]; exact rng_all hr _
theorem sr1_step {fr by_zq : Int → Int} {st v k v_zq k_zq : Int} (h : SR1 fr by_zq st v k) (hv : v_zq = fr (by_zq v)) (hk : k_zq = k + 1) : SR1 fr by_zq st v_zq k_zq := by
  refine ⟨by have := h.1; omega, ?_⟩
  rw [hv, hk, h.2, show (k + 1).toNat = k.toNat + 1 by have := h.1; omega]; rfl
/-- from somewhere on the ring -/
def SR2 (fr by_zq : Int → Int) (st v : Int) : Prop := ∃ i : Nat, v = srp fr by_zq st i
theorem sr2_of {fr by_zq : Int → Int} {st v k : Int} (h : SR1 fr by_zq st v k) : SR2 fr by_zq st v := ⟨_, h.2⟩
theorem sr2_by {fr by_zq : Int → Int} {st v : Int} (h : SR2 fr by_zq st v) (hr : RNG fr by_zq st) : 0 ≤ by_zq v := by
  obtain ⟨i, e⟩ := h
  rw [e]; exact rng_all hr _
theorem sr2_start {fr by_zq : Int → Int} {st v : Int} (hv : v = st) : SR2 fr by_zq st v := ⟨0, hv⟩
theorem sr2_step {fr by_zq : Int → Int} {st v v_zq : Int} (h : SR2 fr by_zq st v) (hv : v_zq = fr (by_zq v)) : SR2 fr by_zq st v_zq := by
  obtain ⟨i, e⟩ := h
  exact ⟨i + 1, by rw [hv, e]; rfl⟩
theorem xor_one {x a b : Int} (h : bvp x = bvp a ^^^ bvp b) (hb : b = 1) (a0 : 0 ≤ a) (a1 : a ≤ 383) (x0 : -2147483648 ≤ x) (x1 : x ≤ 2147483647) : x = if a % 2 = 0 then a + 1 else a - 1 := by
  have hx : (bvp x).toInt = x := by unfold bvp; rw [BitVec.toInt_ofInt]; unfold Int.bmod; simp only; split <;> omega
  have : ∀ n : Fin 384, (BitVec.ofInt 32 ((n.1 : Nat) : Int) ^^^ BitVec.ofInt 32 1).toInt = if ((n.1 : Nat) : Int) % 2 = 0 then ((n.1 : Nat) : Int) + 1 else ((n.1 : Nat) : Int) - 1 := by decide +kernel
  have h2 := this ⟨a.toNat, by omega⟩
  simp only at h2
  rw [show ((a.toNat : Nat) : Int) = a by omega] at h2
  rw [← hx, h, hb]; exact h2
end
section
/-! rounds of raising places: who was raised last, and by whom -/
def NWL (n a : Int) (fr to_zq gn : Int → Int) : Prop := 0 ≤ n ∧ n ≤ 24 ∧ 0 ≤ a ∧ a ≤ 192 ∧ ∀ k, 0 ≤ k → k < a → 0 ≤ fr k ∧ fr k < n ∧ 0 ≤ to_zq k ∧ to_zq k < n ∧ -1 ≤ gn k ∧ gn k ≤ 1
def SRS (fr to_zq rm gn pl : Int → Int) (k : Int) : Prop := 0 < rm k → pl (fr k) + gn k ≤ pl (to_zq k)
def SRB (n a : Int) (fr to_zq rm gn pl by_zq R : Int → Int) (t : Int) : Prop := ∀ v, 0 ≤ v → v < n → 0 ≤ R v ∧ R v ≤ t ∧ (by_zq v = -1 → R v = 0) ∧ (by_zq v ≠ -1 → 0 ≤ by_zq v ∧ by_zq v < a ∧ to_zq (by_zq v) = v ∧ 0 < rm (by_zq v) ∧ pl v ≤ pl (fr (by_zq v)) + gn (by_zq v) ∧ R v - 1 ≤ R (fr (by_zq v)))
def SRPOS (n : Int) (fr gn by_zq : Int → Int) : Prop := ∀ (v : Int) (L : Nat), 0 < L → 0 ≤ v → v < n → srp fr by_zq v L = v → (∀ j, j < L → 0 ≤ by_zq (srp fr by_zq v j)) → 1 ≤ srg fr gn by_zq v L
def FEA (a : Int) (fr to_zq rm gn pl : Int → Int) : Prop := ∀ k, 0 ≤ k → k < a → SRS fr to_zq rm gn pl k
def FRI (n a : Int) (fr to_zq rm gn pl by_zq : Int → Int) (t : Int) : Prop := NWL n a fr to_zq gn ∧ SRPOS n fr gn by_zq ∧ ∃ R : Int → Int, SRB n a fr to_zq rm gn pl by_zq R t ∧ (∀ k, 0 ≤ k → k < a → R (fr k) < t → SRS fr to_zq rm gn pl k) ∧ (0 < t → ∃ v, 0 ≤ v ∧ v < n ∧ R v = t)
def RAI (n a : Int) (fr to_zq rm gn pl by_zq : Int → Int) (t i rd : Int) : Prop := NWL n a fr to_zq gn ∧ SRPOS n fr gn by_zq ∧ 0 ≤ i ∧ ∃ R : Int → Int, SRB n a fr to_zq rm gn pl by_zq R (t + 1) ∧ (∀ k, 0 ≤ k → k < a → (k < i → R (fr k) ≤ t → SRS fr to_zq rm gn pl k) ∧ (i ≤ k → R (fr k) < t → SRS fr to_zq rm gn pl k)) ∧ (rd = 0 → ∀ k, 0 ≤ k → k < i → SRS fr to_zq rm gn pl k) ∧ (rd ≠ 0 → ∃ v, 0 ≤ v ∧ v < n ∧ R v = t + 1)
def RAP (n a : Int) (fr to_zq rm gn pl by_zq : Int → Int) (t an : Int) : Prop := (an = 0 → FEA a fr to_zq rm gn pl) ∧ (an ≠ 0 → FRI n a fr to_zq rm gn pl by_zq (t + 1)) ∧ (FRI n a fr to_zq rm gn pl by_zq (t + 1) ∨ an = 0)
def PBW (n : Int) (pl : Int → Int) (K t i : Int) : Prop := ∀ v, 0 ≤ v → v < n → 0 ≤ pl v ∧ pl v ≤ 55296 * K + 192 * t + i
theorem rai_start {n a : Int} {fr to_zq rm gn pl by_zq : Int → Int} {t i rd : Int} (h : FRI n a fr to_zq rm gn pl by_zq t) (hi : i = 0) (hr : rd = 0) : RAI n a fr to_zq rm gn pl by_zq t i rd := by
  obtain ⟨h1, h2, R, h3, h4, h5⟩ := h
  refine ⟨h1, h2, by omega, R, fun v a b => ?_, fun k a b => ⟨fun c => by omega, fun _ c => h4 k a b c⟩, fun _ k _ c => by omega, fun c => absurd hr c⟩
  obtain ⟨q1, q2, q3⟩ := h3 v a b
  exact ⟨q1, by omega, q3⟩
theorem rai_skip {n a : Int} {fr to_zq rm gn pl by_zq : Int → Int} {t i i_zq rd : Int} (h : RAI n a fr to_zq rm gn pl by_zq t i rd) (hs : rm i ≤ 0 ∨ pl (fr i) + gn i ≤ pl (to_zq i)) (hi : i_zq = i + 1) : RAI n a fr to_zq rm gn pl by_zq t i_zq rd := by
  obtain ⟨h1, h2, h0, R, h3, h4, h5, h6⟩ := h
  have hq : SRS fr to_zq rm gn pl i := fun q => hs.elim (fun z => by omega) id
  subst hi
  refine ⟨h1, h2, by omega, R, h3, fun k a b => ⟨fun c d => ?_, fun c d => (h4 k a b).2 (by omega) d⟩, fun e k a c => ?_, h6⟩
  · by_cases e : k = i
    · rw [e]; exact hq
    · exact (h4 k a b).1 (by omega) d
  · by_cases e2 : k = i
    · rw [e2]; exact hq
    · exact h5 e k a (by omega)
/-- gains along a way, once one node is raised -/
theorem srg_low {n : Int} {fr gn pl by1 : Int → Int} {v0 : Int} (hA : ∀ w, 0 ≤ w → w < n → 0 ≤ by1 w → 0 ≤ fr (by1 w) ∧ fr (by1 w) < n ∧ pl w + (if w = v0 then 1 else 0) ≤ pl (fr (by1 w)) + gn (by1 w)) {v : Int} (v0_zq : 0 ≤ v) (v1 : v < n) : ∀ L : Nat, (∀ j, j < L → 0 ≤ by1 (srp fr by1 v j)) → (0 ≤ srp fr by1 v L ∧ srp fr by1 v L < n) ∧ pl v ≤ pl (srp fr by1 v L) + srg fr gn by1 v L ∧ ((∃ j, j < L ∧ srp fr by1 v j = v0) → pl v + 1 ≤ pl (srp fr by1 v L) + srg fr gn by1 v L)
  | 0, _ => ⟨⟨v0_zq, v1⟩, by show pl v ≤ pl v + 0; omega, fun ⟨j, hj, _⟩ => by omega⟩
  | L + 1, h => by
    obtain ⟨⟨i1, i2⟩, i3, i4⟩ := srg_low hA v0_zq v1 L (fun j hj => h j (by omega))
    have h2 := hA _ i1 i2 (h L (by omega))
    have e1 : srp fr by1 v (L + 1) = fr (by1 (srp fr by1 v L)) := rfl
    have e2 : srg fr gn by1 v (L + 1) = srg fr gn by1 v L + gn (by1 (srp fr by1 v L)) := rfl
    rw [e1, e2]
    refine ⟨⟨h2.1, h2.2.1⟩, ?_, fun ⟨j, hj, ej⟩ => ?_⟩
    · have := h2.2.2
      split at this <;> omega
    · by_cases e : j = L
      · subst e
        have := h2.2.2
        rw [if_pos ej] at this; omega
      · have := i4 ⟨j, by omega, ej⟩
        have := h2.2.2
        split at this <;> omega
theorem srp_same {fr by1 by2 : Int → Int} {v : Int} : ∀ L : Nat, (∀ j, j < L → by1 (srp fr by1 v j) = by2 (srp fr by1 v j)) → srp fr by2 v L = srp fr by1 v L
  | 0, _ => rfl
  | L + 1, h => by
    show fr (by2 (srp fr by2 v L)) = fr (by1 (srp fr by1 v L))
    rw [srp_same L (fun j hj => h j (by omega)), h L (by omega)]
theorem srg_same {fr gn by1 by2 : Int → Int} {v : Int} : ∀ L : Nat, (∀ j, j < L → by1 (srp fr by1 v j) = by2 (srp fr by1 v j)) → srg fr gn by2 v L = srg fr gn by1 v L
  | 0, _ => rfl
  | L + 1, h => by
    show srg fr gn by2 v L + gn (by2 (srp fr by2 v L)) = srg fr gn by1 v L + gn (by1 (srp fr by1 v L))
    rw [srg_same L (fun j hj => h j (by omega)), srp_same L (fun j hj => h j (by omega)), h L (by omega)]
theorem rai_set {n a : Int} {fr to_zq rm gn pl by_zq pl_zq by1 : Int → Int} {t i i_zq rd rd_zq p x q y : Int} (h : RAI n a fr to_zq rm gn pl by_zq t i rd) (hp : st1 pl pl_zq p x) (ep : p = to_zq i) (ex : x = pl (fr i) + gn i) (hb : st1 by_zq by1 q y) (eq : q = to_zq i) (ey : y = i) (hr : 0 < rm i) (hu : pl (to_zq i) < pl (fr i) + gn i) (hia : i < a) (hi : i_zq = i + 1) (hrd : rd_zq = 1) : RAI n a fr to_zq rm gn pl_zq by1 t i_zq rd_zq := by
  obtain ⟨h1, h2, h0, R, h3, h4, h5, h6⟩ := h
  obtain ⟨f0, f1, t0, t1, g0, g1⟩ := h1.2.2.2.2 i h0 hia
  have hRi : t ≤ R (fr i) := Classical.byContradiction fun c => by
    have := (h4 i h0 hia).2 (Int.le_refl _) (by omega) hr
    omega
  subst ep eq ey hi
  have pT : pl_zq (to_zq y) = pl (fr y) + gn y := by rw [(hp _ t0).1 rfl, ex]
  have pN : ∀ v, 0 ≤ v → v ≠ to_zq y → pl_zq v = pl v := fun v a b => (hp v a).2 b
  have pU : ∀ v, 0 ≤ v → pl v ≤ pl_zq v := fun v a => by
    by_cases e : v = to_zq y
    · rw [e, pT]; omega
    · rw [pN v a e]; omega
  have bT : by1 (to_zq y) = y := (hb _ t0).1 rfl
  have bN : ∀ v, 0 ≤ v → v ≠ to_zq y → by1 v = by_zq v := fun v a b => (hb v a).2 b
  have fR : ∀ v, 0 ≤ v → v < n → by_zq v ≠ -1 → 0 ≤ fr (by_zq v) ∧ fr (by_zq v) < n := fun v a b c => by
    obtain ⟨_, _, _, q⟩ := h3 v a b
    obtain ⟨q1, q2, _⟩ := q c
    have := h1.2.2.2.2 _ q1 q2
    exact ⟨this.1, this.2.1⟩
  obtain ⟨R_zq, rT, rN⟩ : ∃ R_zq : Int → Int, R_zq (to_zq y) = t + 1 ∧ ∀ v, v ≠ to_zq y → R_zq v = R v := ⟨fun v => if v = to_zq y then t + 1 else R v, if_pos rfl, fun v e => if_neg e⟩
  have rU : ∀ v, 0 ≤ v → v < n → R v ≤ R_zq v := fun v a b => by
    by_cases e : v = to_zq y
    · have := (h3 v a b).2.1
      rw [e, rT]; rw [e] at this; exact this
    · rw [rN v e]; omega
  refine ⟨h1, fun v L L0 v0 v1 e1 e2 => ?_, by omega, R_zq, fun v v0 v1 => ?_, fun k k0 k1 => ?_, fun c => by omega, fun _ => ⟨to_zq y, t0, t1, rT⟩⟩
  · -- rings
    by_cases hv : ∃ j, j < L ∧ srp fr by1 v j = to_zq y
    · have := srg_low (n := n) (fr := fr) (gn := gn) (pl := pl) (by1 := by1) (v0 := to_zq y) (fun w w0 w1 w2 => by
        by_cases e : w = to_zq y
        · subst e; rw [bT, if_pos rfl]; exact ⟨f0, f1, by omega⟩
        · rw [bN w w0 e] at w2 ⊢
          rw [if_neg e]
          obtain ⟨_, _, _, q⟩ := h3 w w0 w1
          have qq := q (by omega)
          have := fR w w0 w1 (by omega)
          exact ⟨this.1, this.2, by omega⟩) v0 v1 L e2
      have h8 := this.2.2 hv
      rw [e1] at h8; omega
    · have rg : ∀ j, j ≤ L → 0 ≤ srp fr by1 v j ∧ srp fr by1 v j < n := fun j => by
        induction j with
        | zero => exact fun _ => ⟨v0, v1⟩
        | succ j ih =>
          intro hj
          obtain ⟨i1, i2⟩ := ih (by omega)
          show 0 ≤ fr (by1 (srp fr by1 v j)) ∧ fr (by1 (srp fr by1 v j)) < n
          have e3 := e2 j (by omega)
          rw [bN _ i1 (fun e => hv ⟨j, by omega, e⟩)] at e3 ⊢
          exact fR _ i1 i2 (by omega)
      have sm : ∀ j, j < L → by1 (srp fr by1 v j) = by_zq (srp fr by1 v j) := fun j hj => bN _ (rg j (by omega)).1 (fun e => hv ⟨j, hj, e⟩)
      have h8 := h2 v L L0 v0 v1 (by rw [srp_same L sm]; exact e1) (fun j hj => by rw [srp_same j (fun q hq => sm q (by omega)), ← sm j hj]; exact e2 j hj)
      rw [srg_same L sm] at h8; exact h8
  · obtain ⟨q1, q2, q3, q4⟩ := h3 v v0 v1
    by_cases e : v = to_zq y
    · subst e
      rw [rT, bT]
      have r0 := (h3 _ f0 f1).1
      have r1 := (h3 _ f0 f1).2.1
      refine ⟨by omega, by omega, fun c => by omega, fun _ => ⟨h0, hia, rfl, hr, ?_, ?_⟩⟩
      · rw [pT]; have := pU (fr y) f0; omega
      · have := rU (fr y) f0 f1; omega
    · rw [rN v e, bN v v0 e, pN v v0 e]
      refine ⟨q1, q2, q3, fun c => ?_⟩
      obtain ⟨z1, z2, z3, z4, z5, z6⟩ := q4 c
      have z7 := fR v v0 v1 c
      refine ⟨z1, z2, z3, z4, ?_, ?_⟩
      · have := pU _ z7.1; omega
      · have := rU _ z7.1 z7.2; omega
  · have fk := h1.2.2.2.2 k k0 k1
    have key : fr k ≠ to_zq y → SRS fr to_zq rm gn pl k → SRS fr to_zq rm gn pl_zq k := fun e c r0 => by
      have := c r0
      rw [pN _ fk.1 e]
      have := pU (to_zq k) fk.2.2.1
      omega
    have hf : R_zq (fr k) ≤ t → fr k ≠ to_zq y := fun d e => by rw [e, rT] at d; omega
    refine ⟨fun c d => ?_, fun c d => ?_⟩
    · have e2 := hf d
      rw [rN _ e2] at d
      by_cases e : k = y
      · subst e
        intro _; rw [pN _ fk.1 e2, pT]; omega
      · exact key e2 ((h4 k k0 k1).1 (by omega) d)
    · have e2 := hf (by omega)
      rw [rN _ e2] at d
      exact key e2 ((h4 k k0 k1).2 (by omega) d)
theorem rai_end {n a : Int} {fr to_zq rm gn pl by_zq : Int → Int} {t i rd an : Int} (h : RAI n a fr to_zq rm gn pl by_zq t i rd) (t0 : 0 ≤ t) (hi : a ≤ i) (e : an = rd) : RAP n a fr to_zq rm gn pl by_zq t an := by
  obtain ⟨h1, h2, h0, R, h3, h4, h5, h6⟩ := h
  have hF : an ≠ 0 → FRI n a fr to_zq rm gn pl by_zq (t + 1) := fun c => ⟨h1, h2, R, h3, fun k a b d => (h4 k a b).1 (by omega) (by omega), fun _ => h6 (by omega)⟩
  refine ⟨fun c k a b => h5 (by omega) k a (by omega), hF, ?_⟩
  by_cases c : an = 0
  · exact Or.inr c
  · exact Or.inl (hF c)
theorem pbw_set {n a : Int} {fr to_zq gn pl pl_zq : Int → Int} {K t i i_zq p x : Int} (h : PBW n pl K t i) (hw : NWL n a fr to_zq gn) (hp : st1 pl pl_zq p x) (ep : p = to_zq i) (ex : x = pl (fr i) + gn i) (i0 : 0 ≤ i) (hia : i < a) (hu : pl (to_zq i) < pl (fr i) + gn i) (hi : i_zq = i + 1) : PBW n pl_zq K t i_zq := fun v a b => by
  have := hw.2.2.2.2 i i0 hia
  have h2 := h (fr i) this.1 this.2.1
  have h3 := h (to_zq i) this.2.2.1 this.2.2.2.1
  by_cases e : v = p
  · rw [(hp v a).1 e]; omega
  · rw [(hp v a).2 e]; have := h v a b; omega
theorem pbw_up {n : Int} {pl : Int → Int} {K t i i_zq : Int} (h : PBW n pl K t i) (hi : i ≤ i_zq) : PBW n pl K t i_zq := fun v a b => by have := h v a b; omega
theorem pbw_round {n : Int} {pl : Int → Int} {K t t_zq i i_zq : Int} (h : PBW n pl K t i) (hi : i ≤ 192) (ht : t_zq = t + 1) (hi_zq : i_zq = 0) : PBW n pl K t_zq i_zq := fun v a b => by have := h v a b; omega
theorem pbw_iter {n : Int} {pl : Int → Int} {K K_zq t t_zq i i_zq : Int} (h : PBW n pl K t i) (ht : t ≤ 288) (hi : i = 0) (hK : K_zq = K + 1) (ht_zq : t_zq = 0) (hi_zq : i_zq = 0) : PBW n pl K_zq t_zq i_zq := fun v a b => by have := h v a b; omega
theorem fri_hfr {n a : Int} {fr to_zq rm gn pl by_zq : Int → Int} {t : Int} (h : FRI n a fr to_zq rm gn pl by_zq t) : HFR n fr by_zq := fun w w0 w1 w2 => by
  obtain ⟨h1, h2, R, h3, h4, h5⟩ := h
  obtain ⟨_, _, _, q⟩ := h3 w w0 w1
  obtain ⟨q1, q2, _⟩ := q (by omega)
  have := h1.2.2.2.2 _ q1 q2
  exact ⟨this.1, this.2.1⟩
/-- so many rounds and no ring: fewer than nodes -/
theorem fri_few {n a : Int} {fr to_zq rm gn pl by_zq : Int → Int} {t : Int} (h : FRI n a fr to_zq rm gn pl by_zq t) (hE : ∀ v, 0 ≤ v → v < n → ENDS fr by_zq v) (t0 : 0 ≤ t) : t ≤ n := by
  by_cases tz : t = 0
  · have := h.1.1; omega
  obtain ⟨h1, h2, R, h3, h4, h5⟩ := h
  obtain ⟨v, v0, v1, ev⟩ := h5 (by omega)
  -- the first end
  have hm : ∃ i : Nat, by_zq (srp fr by_zq v i) = -1 ∧ ∀ j, j < i → by_zq (srp fr by_zq v j) ≠ -1 := by
    obtain ⟨i, hi⟩ := hE v v0 v1
    revert hi
    induction i using Nat.strongRecOn with
    | _ i ih =>
      intro hi
      by_cases c : ∃ j, j < i ∧ by_zq (srp fr by_zq v j) = -1
      · obtain ⟨j, hj, e⟩ := c; exact ih j hj e
      · exact ⟨i, hi, fun j hj e => c ⟨j, hj, e⟩⟩
  obtain ⟨i, hi, hj⟩ := hm
  have rg : ∀ j, j ≤ i → 0 ≤ srp fr by_zq v j ∧ srp fr by_zq v j < n ∧ t - j ≤ R (srp fr by_zq v j) := fun j => by
    induction j with
    | zero => exact fun _ => ⟨v0, v1, by show t - ((0 : Nat) : Int) ≤ R v; omega⟩
    | succ j ih =>
      intro hj2
      obtain ⟨i1, i2, i3⟩ := ih (by omega)
      obtain ⟨_, _, _, q⟩ := h3 _ i1 i2
      obtain ⟨q1, q2, _, _, _, q6⟩ := q (hj j (by omega))
      have := h1.2.2.2.2 _ q1 q2
      show 0 ≤ fr (by_zq (srp fr by_zq v j)) ∧ fr (by_zq (srp fr by_zq v j)) < n ∧ t - ((j + 1 : Nat) : Int) ≤ R (fr (by_zq (srp fr by_zq v j)))
      exact ⟨this.1, this.2.1, by omega⟩
  have hti : t ≤ i := by
    obtain ⟨i1, i2, i3⟩ := rg i (Nat.le_refl _)
    have := (h3 _ i1 i2).2.2.1 hi
    omega
  have := inj_le (n := n) (f := srp fr by_zq v) (N := i) h1.1 (fun j hj2 => ⟨(rg j (by omega)).1, (rg j (by omega)).2.1⟩) (fun p q pq qi e => by
    -- p and q the same: the way would go on from q as from p
    have e3 := srp_add fr by_zq v q (i - q)
    have e4 := srp_add fr by_zq v p (i - q)
    rw [← e, e4, show q + (i - q) = i by omega] at e3
    rw [← e3] at hi
    exact hj (p + (i - q)) (by omega) hi)
  omega
theorem fri_start {n a : Int} {fr to_zq rm gn pl by_zq : Int → Int} {t : Int} (hw : NWL n a fr to_zq gn) (hb : ∀ v, 0 ≤ v → v < n → by_zq v = -1) (ht : t = 0) : FRI n a fr to_zq rm gn pl by_zq t := by
  obtain ⟨R, hR⟩ : ∃ R : Int → Int, ∀ v, R v = 0 := ⟨fun _ => 0, fun _ => rfl⟩
  refine ⟨hw, fun v L L0 v0 v1 e1 e2 => ?_, R, fun v a b => ⟨by rw [hR]; omega, by rw [hR]; omega, fun _ => hR v, fun c => absurd (hb v a b) c⟩, fun k _ _ c => by rw [hR] at c; omega, fun c => by omega⟩
  have := e2 0 L0
  have e3 : by_zq (srp fr by_zq v 0) = -1 := hb v v0 v1
  omega
/-- what is left of it for sendRound -/
def RSW (n a : Int) (fr to_zq rm gn by_zq : Int → Int) : Prop := NWL n a fr to_zq gn ∧ SRPOS n fr gn by_zq ∧ ∀ v, 0 ≤ v → v < n → by_zq v ≠ -1 → 0 ≤ by_zq v ∧ by_zq v < a ∧ to_zq (by_zq v) = v ∧ 0 < rm (by_zq v)
theorem rsw_of {n a : Int} {fr to_zq rm gn pl by_zq : Int → Int} {t : Int} (h : FRI n a fr to_zq rm gn pl by_zq t) : RSW n a fr to_zq rm gn by_zq := by
  obtain ⟨h1, h2, R, h3, h4, h5⟩ := h
  refine ⟨h1, h2, fun v a b c => ?_⟩
  obtain ⟨_, _, _, q⟩ := h3 v a b
  obtain ⟨q1, q2, q3, q4, _⟩ := q c
  exact ⟨q1, q2, q3, q4⟩
/-! contracts -/
def NRG (n : Int) (fr by_zq : Int → Int) : Prop := ∀ v, 0 ≤ v → v < n → ENDS fr by_zq v
def PBG (n : Int) (pl : Int → Int) (K : Int) : Prop := PBW n pl K 0 0
def PBL (n : Int) (pl : Int → Int) (K : Int) : Prop := PBW n pl (K + 1) 0 0
def PBT (n : Int) (pl : Int → Int) (K t : Int) : Prop := PBW n pl K t 0
def PBU (n : Int) (pl : Int → Int) (K t : Int) : Prop := PBW n pl K (t + 1) 0
def FRP (n a : Int) (fr to_zq rm gn pl by_zq : Int → Int) (an : Int) : Prop := (an = -1 → FEA a fr to_zq rm gn pl) ∧ (an ≠ -1 → 0 ≤ an ∧ an < n ∧ RNG fr by_zq an ∧ RSW n a fr to_zq rm gn by_zq)
theorem nrg_start {n : Int} {fr by_zq : Int → Int} (hb : ∀ v, 0 ≤ v → v < n → by_zq v = -1) : NRG n fr by_zq := fun v a b => ⟨0, hb v a b⟩
theorem nrg_of {n a : Int} {fr to_zq rm gn pl by_zq : Int → Int} {t an : Int} (h : FRI n a fr to_zq rm gn pl by_zq t) (hs : SNB n fr by_zq an) (e : an = -1) : NRG n fr by_zq := hs.2.1 e (fri_hfr h)
theorem frp_full {n a : Int} {fr to_zq rm gn pl by_zq : Int → Int} {t : Int} (h : FRI n a fr to_zq rm gn pl by_zq t) (hE : NRG n fr by_zq) (ht : 288 ≤ t) : False := by
  have := fri_few h hE (by omega)
  have := h.1.2.1
  omega
theorem frp_ring {n a : Int} {fr to_zq rm gn pl by_zq : Int → Int} {t rd an : Int} (h : RAP n a fr to_zq rm gn pl by_zq t rd) (hr : rd ≠ 0) (hs : SNB n fr by_zq an) (e : an ≠ -1) : FRP n a fr to_zq rm gn pl by_zq an := by
  have hf := h.2.1 hr
  exact ⟨fun q => absurd q e, fun _ => ⟨(hs.2.2 e).1, (hs.2.2 e).2 (fri_hfr hf), hs.1 e, rsw_of hf⟩⟩
theorem frp_none {n a : Int} {fr to_zq rm gn pl by_zq : Int → Int} {t rd an : Int} (h : RAP n a fr to_zq rm gn pl by_zq t rd) (hr : rd = 0) (e : an = -1) : FRP n a fr to_zq rm gn pl by_zq an := ⟨fun _ => h.1 hr, fun q => absurd e q⟩
end
section
/-! the last rounds: the least places that keep all gaps; no height is left out -/
def LEA (n a : Int) (fr to_zq rm gn ps : Int → Int) : Prop := FEA a fr to_zq rm gn ps ∧ (∀ v, 0 ≤ v → v < n → 0 ≤ ps v) ∧ ∀ q : Int → Int, FEA a fr to_zq rm gn q → (∀ v, 0 ≤ v → v < n → 0 ≤ q v) → ∀ v, 0 ≤ v → v < n → ps v ≤ q v
theorem nat_min {P : Nat → Prop} : ∀ i : Nat, P i → ∃ j, P j ∧ ∀ k, P k → j ≤ k := by
  intro i
  induction i using Nat.strongRecOn with
  | _ i ih =>
    intro hi
    by_cases c : ∃ j, j < i ∧ P j
    · obtain ⟨j, hj, e⟩ := c; exact ih j hj e
    · exact ⟨i, hi, fun k hk => Classical.byContradiction fun z => c ⟨k, by omega, hk⟩⟩
theorem lea_ex {n a : Int} {fr to_zq rm gn q : Int → Int} (hw : NWL n a fr to_zq gn) (h : FEA a fr to_zq rm gn q) (h0 : ∀ v, 0 ≤ v → v < n → 0 ≤ q v) : ∃ ps, LEA n a fr to_zq rm gn ps := by
  have hm : ∀ v, ∃ x : Int, (0 ≤ v → v < n → 0 ≤ x ∧ (∃ q, FEA a fr to_zq rm gn q ∧ (∀ w, 0 ≤ w → w < n → 0 ≤ q w) ∧ q v = x) ∧ ∀ q : Int → Int, FEA a fr to_zq rm gn q → (∀ w, 0 ≤ w → w < n → 0 ≤ q w) → x ≤ q v) := fun v => by
    by_cases hv : 0 ≤ v ∧ v < n
    · obtain ⟨j, ⟨q1, c1, c2, c3⟩, hj⟩ := nat_min (P := fun k => ∃ q : Int → Int, FEA a fr to_zq rm gn q ∧ (∀ w, 0 ≤ w → w < n → 0 ≤ q w) ∧ q v = (k : Int)) (q v).toNat ⟨q, h, h0, by have := h0 v hv.1 hv.2; omega⟩
      refine ⟨j, fun _ _ => ⟨by omega, ⟨q1, c1, c2, c3⟩, fun q2 d1 d2 => ?_⟩⟩
      have := hj (q2 v).toNat ⟨q2, d1, d2, by have := d2 v hv.1 hv.2; omega⟩
      have := d2 v hv.1 hv.2
      omega
    · exact ⟨0, fun x y => absurd ⟨x, y⟩ hv⟩
  refine ⟨fun v => Classical.choose (hm v), fun k k0 k1 r0 => ?_, fun v x y => (Classical.choose_spec (hm v) x y).1, fun q2 d1 d2 v x y => (Classical.choose_spec (hm v) x y).2.2 q2 d1 d2⟩
  have fk := hw.2.2.2.2 k k0 k1
  obtain ⟨_, ⟨q1, c1, c2, c3⟩, _⟩ := Classical.choose_spec (hm (to_zq k)) fk.2.2.1 fk.2.2.2.1
  have h2 := (Classical.choose_spec (hm (fr k)) fk.1 fk.2.1).2.2 q1 c1 c2
  have h3 := c1 k k0 k1 r0
  show Classical.choose (hm (fr k)) + gn k ≤ Classical.choose (hm (to_zq k))
  omega
/-- below the least ones somewhere: an arc shows where they must rise -/
theorem lea_arc {n a : Int} {fr to_zq rm gn ps pl : Int → Int} (hw : NWL n a fr to_zq gn) (h : LEA n a fr to_zq rm gn ps) (hb : ∀ v, 0 ≤ v → v < n → 0 ≤ pl v ∧ pl v ≤ ps v) {v : Int} (v0 : 0 ≤ v) (v1 : v < n) (hv : pl v ≠ ps v) : ∃ k, 0 ≤ k ∧ k < a ∧ 0 < rm k ∧ pl (fr k) = ps (fr k) ∧ pl (to_zq k) ≠ ps (to_zq k) ∧ ps (to_zq k) = ps (fr k) + gn k := by
  refine Classical.byContradiction fun c => ?_
  obtain ⟨q, hq⟩ : ∃ q : Int → Int, ∀ w, q w = if pl w = ps w then ps w else ps w - 1 := ⟨fun w => if pl w = ps w then ps w else ps w - 1, fun _ => rfl⟩
  have h1 := h.2.2 q (fun k k0 k1 r0 => ?_) (fun w w0 w1 => ?_) v v0 v1
  · rw [hq, if_neg hv] at h1; omega
  · have fk := hw.2.2.2.2 k k0 k1
    have h2 := h.1 k k0 k1 r0
    rw [hq, hq]
    by_cases e1 : pl (fr k) = ps (fr k)
    · rw [if_pos e1]
      by_cases e2 : pl (to_zq k) = ps (to_zq k)
      · rw [if_pos e2]; exact h2
      · rw [if_neg e2]
        have : ps (to_zq k) ≠ ps (fr k) + gn k := fun e3 => c ⟨k, k0, k1, r0, e1, e2, e3⟩
        omega
    · rw [if_neg e1]
      by_cases e2 : pl (to_zq k) = ps (to_zq k)
      · rw [if_pos e2]; omega
      · rw [if_neg e2]; omega
  · rw [hq]
    have := hb w w0 w1
    split
    · omega
    · omega
theorem lea_full {n a : Int} {fr to_zq rm gn ps : Int → Int} (hw : NWL n a fr to_zq gn) (h : LEA n a fr to_zq rm gn ps) {v : Int} (v0 : 0 ≤ v) (v1 : v < n) : ps v + 1 ≤ n := by
  have lev : ∀ j : Nat, (j : Int) ≤ ps v → ∃ w, 0 ≤ w ∧ w < n ∧ ps w = j := fun j hj => by
    by_cases ej : (j : Int) = ps v
    · exact ⟨v, v0, v1, ej.symm⟩
    refine Classical.byContradiction fun c => ?_
    obtain ⟨q, hq⟩ : ∃ q : Int → Int, ∀ w, q w = if (j : Int) < ps w then ps w - 1 else ps w := ⟨fun w => if (j : Int) < ps w then ps w - 1 else ps w, fun _ => rfl⟩
    have h1 := h.2.2 q (fun k k0 k1 r0 => ?_) (fun w w0 w1 => ?_) v v0 v1
    · rw [hq, if_pos (by omega)] at h1; omega
    · have fk := hw.2.2.2.2 k k0 k1
      have h2 := h.1 k k0 k1 r0
      have h3 : ps (fr k) ≠ j := fun e => c ⟨_, fk.1, fk.2.1, e⟩
      have h4 := fk.2.2.2.2.2
      rw [hq, hq]
      split <;> split <;> omega
    · rw [hq]
      have := h.2.1 w w0 w1
      split <;> omega
  have hp := h.2.1 v v0 v1
  have hc : ∀ j : Nat, ∃ w : Int, (j : Int) ≤ ps v → 0 ≤ w ∧ w < n ∧ ps w = j := fun j => by
    by_cases c : (j : Int) ≤ ps v
    · obtain ⟨w, hw⟩ := lev j c; exact ⟨w, fun _ => hw⟩
    · exact ⟨0, fun z => absurd z c⟩
  have := inj_le (n := n) (f := fun j => Classical.choose (hc j)) (N := (ps v).toNat + 1) hw.1 (fun j hj => by
    have := Classical.choose_spec (hc j) (by omega)
    exact ⟨this.1, this.2.1⟩) (fun i j ij hj e => by
    have h5 := Classical.choose_spec (hc i) (by omega)
    have h6 := Classical.choose_spec (hc j) (by omega)
    have e_zq : Classical.choose (hc i) = Classical.choose (hc j) := e
    rw [e_zq, h6.2.2] at h5
    omega)
  omega
/-- behind t rounds so many nodes have their last place -/
def FNL (n a : Int) (fr to_zq rm gn pl : Int → Int) (t : Int) : Prop := NWL n a fr to_zq gn ∧ 0 ≤ t ∧ ∃ ps : Int → Int, LEA n a fr to_zq rm gn ps ∧ (∀ v, 0 ≤ v → v < n → 0 ≤ pl v ∧ pl v ≤ ps v) ∧ ∃ e : Nat → Int, (∀ i : Nat, (i : Int) < t → 0 ≤ e i ∧ e i < n ∧ pl (e i) = ps (e i)) ∧ ∀ i j : Nat, i < j → (j : Int) < t → e i ≠ e j
def FNI (n a : Int) (fr to_zq rm gn pl : Int → Int) (t i rd : Int) : Prop := NWL n a fr to_zq gn ∧ 0 ≤ t ∧ 0 ≤ i ∧ ∃ ps : Int → Int, LEA n a fr to_zq rm gn ps ∧ (∀ v, 0 ≤ v → v < n → 0 ≤ pl v ∧ pl v ≤ ps v) ∧ (∃ e : Nat → Int, (∀ i : Nat, (i : Int) < t → 0 ≤ e i ∧ e i < n ∧ pl (e i) = ps (e i)) ∧ (∀ i j : Nat, i < j → (j : Int) < t → e i ≠ e j) ∧ ((rd = 0 ∧ ∀ v, 0 ≤ v → v < n → pl v = ps v) ∨ ∃ k, 0 ≤ k ∧ k < a ∧ 0 < rm k ∧ pl (fr k) = ps (fr k) ∧ ps (to_zq k) = ps (fr k) + gn k ∧ (∀ j : Nat, (j : Int) < t → e j ≠ to_zq k) ∧ (k < i → pl (to_zq k) = ps (to_zq k)))) ∧ (rd = 0 → ∀ k, 0 ≤ k → k < i → SRS fr to_zq rm gn pl k)
def FNQ (n a : Int) (fr to_zq rm gn pl : Int → Int) (t an : Int) : Prop := (an = 0 → LEA n a fr to_zq rm gn pl) ∧ (an ≠ 0 → FNL n a fr to_zq rm gn pl (t + 1))
theorem fni_start {n a : Int} {fr to_zq rm gn pl : Int → Int} {t i rd : Int} (h : FNL n a fr to_zq rm gn pl t) (hi : i = 0) (hr : rd = 0) : FNI n a fr to_zq rm gn pl t i rd := by
  obtain ⟨h1, h2, ps, h3, h4, e, h5, h6⟩ := h
  refine ⟨h1, h2, by omega, ps, h3, h4, ⟨e, h5, h6, ?_⟩, fun _ k _ c => by omega⟩
  by_cases c : ∀ v, 0 ≤ v → v < n → pl v = ps v
  · exact Or.inl ⟨hr, c⟩
  · right
    obtain ⟨v, hv⟩ := Classical.not_forall.mp c
    obtain ⟨v0, hv⟩ := Classical.not_forall.mp hv
    obtain ⟨v1, hv⟩ := Classical.not_forall.mp hv
    obtain ⟨k, k0, k1, k2, k3, k4, k5⟩ := lea_arc h1 h3 h4 v0 v1 hv
    exact ⟨k, k0, k1, k2, k3, k5, fun j hj e2 => k4 (by rw [← e2]; exact (h5 j hj).2.2), fun c => by omega⟩
theorem fni_skip {n a : Int} {fr to_zq rm gn pl : Int → Int} {t i i_zq rd : Int} (h : FNI n a fr to_zq rm gn pl t i rd) (hs : rm i ≤ 0 ∨ pl (fr i) + gn i ≤ pl (to_zq i)) (hi : i_zq = i + 1) : FNI n a fr to_zq rm gn pl t i_zq rd := by
  obtain ⟨h1, h2, h0, ps, h3, h4, ⟨e, h5, h6, h7⟩, h8⟩ := h
  subst hi
  refine ⟨h1, h2, by omega, ps, h3, h4, ⟨e, h5, h6, ?_⟩, fun r k a c => ?_⟩
  · rcases h7 with q | ⟨k, k0, k1, k2, k3, k4, k5, k6⟩
    · exact Or.inl q
    · refine Or.inr ⟨k, k0, k1, k2, k3, k4, k5, fun c => ?_⟩
      by_cases e2 : k = i
      · subst e2
        have fk := h1.2.2.2.2 k k0 k1
        have := h4 (to_zq k) fk.2.2.1 fk.2.2.2.1
        rcases hs with q | q <;> omega
      · exact k6 (by omega)
  · by_cases e2 : k = i
    · subst e2; exact fun r0 => hs.elim (fun z => by omega) id
    · exact h8 r k a (by omega)
theorem fni_set {n a : Int} {fr to_zq rm gn pl pl_zq : Int → Int} {t i i_zq rd rd_zq p x : Int} (h : FNI n a fr to_zq rm gn pl t i rd) (hp : st1 pl pl_zq p x) (ep : p = to_zq i) (ex : x = pl (fr i) + gn i) (hr : 0 < rm i) (hu : pl (to_zq i) < pl (fr i) + gn i) (hia : i < a) (hi : i_zq = i + 1) (hrd : rd_zq = 1) : FNI n a fr to_zq rm gn pl_zq t i_zq rd_zq := by
  obtain ⟨h1, h2, h0, ps, h3, h4, ⟨e, h5, h6, h7⟩, h8⟩ := h
  subst hi ep
  have fi := h1.2.2.2.2 i h0 hia
  have hF := h3.1 i h0 hia hr
  have hf := h4 (fr i) fi.1 fi.2.1
  have ht := h4 (to_zq i) fi.2.2.1 fi.2.2.2.1
  have pT : pl_zq (to_zq i) = pl (fr i) + gn i := by rw [(hp _ fi.2.2.1).1 rfl, ex]
  have pN : ∀ v, 0 ≤ v → v ≠ to_zq i → pl_zq v = pl v := fun v a b => (hp v a).2 b
  have keep : ∀ v, 0 ≤ v → v < n → pl v = ps v → pl_zq v = ps v := fun v v0 v1 e2 => by
    by_cases e3 : v = to_zq i
    · subst e3; omega
    · rw [pN v v0 e3]; exact e2
  refine ⟨h1, h2, by omega, ps, h3, fun v v0 v1 => ?_, ⟨e, fun j hj => ⟨(h5 j hj).1, (h5 j hj).2.1, keep _ (h5 j hj).1 (h5 j hj).2.1 (h5 j hj).2.2⟩, h6, ?_⟩, fun c => by omega⟩
  · by_cases e3 : v = to_zq i
    · subst e3; rw [pT]; omega
    · rw [pN v v0 e3]; exact h4 v v0 v1
  · right
    rcases h7 with ⟨q1, q2⟩ | ⟨k, k0, k1, k2, k3, k4, k5, k6⟩
    · exfalso
      have := q2 (to_zq i) fi.2.2.1 fi.2.2.2.1
      omega
    · have fk := h1.2.2.2.2 k k0 k1
      refine ⟨k, k0, k1, k2, keep _ fk.1 fk.2.1 k3, k4, k5, fun c => ?_⟩
      by_cases e2 : k = i
      · subst e2; rw [pT, k3]; omega
      · exact keep _ fk.2.2.1 fk.2.2.2.1 (k6 (by omega))
theorem fni_end {n a : Int} {fr to_zq rm gn pl : Int → Int} {t i rd an : Int} (h : FNI n a fr to_zq rm gn pl t i rd) (hi : a ≤ i) (e : an = rd) : FNQ n a fr to_zq rm gn pl t an := by
  obtain ⟨h1, h2, h0, ps, h3, h4, ⟨e_zq, h5, h6, h7⟩, h8⟩ := h
  subst e
  refine ⟨fun c => ?_, fun c => ?_⟩
  · have hF : FEA a fr to_zq rm gn pl := fun k k0 k1 => h8 c k k0 (by omega)
    have hl := h3.2.2 pl hF (fun v v0 v1 => (h4 v v0 v1).1)
    refine ⟨hF, fun v v0 v1 => (h4 v v0 v1).1, fun q d1 d2 v v0 v1 => ?_⟩
    have := h3.2.2 q d1 d2 v v0 v1
    have := h4 v v0 v1
    omega
  · rcases h7 with ⟨q1, _⟩ | ⟨k, k0, k1, k2, k3, k4, k5, k6⟩
    · exact absurd q1 c
    · have fk := h1.2.2.2.2 k k0 k1
      refine ⟨h1, by omega, ps, h3, h4, fun j => if (j : Int) = t then to_zq k else e_zq j, fun j hj => ?_, fun p q pq hq => ?_⟩
      · show 0 ≤ (if (j : Int) = t then to_zq k else e_zq j) ∧ _
        by_cases e2 : (j : Int) = t
        · simp only [if_pos e2]
          exact ⟨fk.2.2.1, fk.2.2.2.1, k6 (by omega)⟩
        · simp only [if_neg e2]
          exact h5 j (by omega)
      · have p1 : ¬ (p : Int) = t := by omega
        simp only [if_neg p1]
        by_cases e2 : (q : Int) = t
        · simp only [if_pos e2]
          exact k5 p (by omega)
        · simp only [if_neg e2]
          exact h6 p q pq (by omega)
theorem fnl_few {n a : Int} {fr to_zq rm gn pl : Int → Int} {t : Int} (h : FNL n a fr to_zq rm gn pl t) : t ≤ n := by
  obtain ⟨h1, h2, ps, h3, h4, e, h5, h6⟩ := h
  have := inj_le (n := n) (f := e) (N := t.toNat) h1.1 (fun i hi => ⟨(h5 i (by omega)).1, (h5 i (by omega)).2.1⟩) (fun i j ij hj => h6 i j ij (by omega))
  omega
theorem fnl_start {n a : Int} {fr to_zq rm gn pl q : Int → Int} {t : Int} (hw : NWL n a fr to_zq gn) (h : FEA a fr to_zq rm gn q) (h0 : ∀ v, 0 ≤ v → v < n → 0 ≤ q v) (hz : ∀ v, 0 ≤ v → v < n → pl v = 0) (ht : t = 0) : FNL n a fr to_zq rm gn pl t := by
  obtain ⟨ps, hps⟩ := lea_ex hw h h0
  exact ⟨hw, by omega, ps, hps, fun v a b => by rw [hz v a b]; exact ⟨by omega, hps.2.1 v a b⟩, fun _ => 0, fun i hi => by omega, fun i j _ hj => by omega⟩
/-- all places are low: no sum wraps -/
theorem fni_low {n a : Int} {fr to_zq rm gn pl : Int → Int} {t i rd v : Int} (h : FNI n a fr to_zq rm gn pl t i rd) (v0 : 0 ≤ v) (v1 : v < n) : 0 ≤ pl v ∧ pl v ≤ 23 := by
  obtain ⟨h1, h2, h0, ps, h3, h4, _⟩ := h
  have := lea_full h1 h3 v0 v1
  have := h4 v v0 v1
  have := h1.2.1
  omega
end
section
/-! the flow that earns the gaps of layers: a ring that earns something lets the sum of flows grow, and the sum is bounded -/
def LWB (fr to_zq rm gn : Int → Int) (e : Int) : Prop := fr (4 * e + 1) = to_zq (4 * e) ∧ to_zq (4 * e + 1) = fr (4 * e) ∧ fr (4 * e + 2) = fr (4 * e) ∧ to_zq (4 * e + 2) = to_zq (4 * e) ∧ fr (4 * e + 3) = to_zq (4 * e) ∧ to_zq (4 * e + 3) = fr (4 * e) ∧ gn (4 * e) = 0 ∧ gn (4 * e + 1) = 0 ∧ gn (4 * e + 2) = 1 ∧ gn (4 * e + 3) = -1 ∧ 0 ≤ rm (4 * e) ∧ 0 ≤ rm (4 * e + 1) ∧ rm (4 * e) + rm (4 * e + 1) ≤ 18 ∧ 0 ≤ rm (4 * e + 2) ∧ 0 ≤ rm (4 * e + 3) ∧ rm (4 * e + 2) + rm (4 * e + 3) = 1000000000
def lwW (fr to_zq rm h : Int → Int) (e : Int) : Int := (rm (4 * e) - rm (4 * e + 1) - 2 * rm (4 * e + 3)) * (h (to_zq (4 * e)) - h (fr (4 * e)))
def lwF (rm : Int → Int) (e : Int) : Int := rm (4 * e + 3)
def LWH (n m : Int) (fr to_zq h : Int → Int) : Prop := (∀ v, 0 ≤ v → v < n → 0 ≤ h v ∧ h v ≤ 23) ∧ ∀ e, 0 ≤ e → e < m → 1 ≤ h (to_zq (4 * e)) - h (fr (4 * e))
def FLV (n a : Int) (fr to_zq rm gn : Int → Int) (K : Int) : Prop := NWL n a fr to_zq gn ∧ a % 4 = 0 ∧ (∀ e, 0 ≤ e → e < a / 4 → LWB fr to_zq rm gn e) ∧ ∃ h : Int → Int, LWH n (a / 4) fr to_zq h ∧ sm (lwW fr to_zq rm h) (a / 4) = 0 ∧ K ≤ sm (lwF rm) (a / 4)
theorem lw_term {P F D : Int} (p1 : P ≤ 18) (f0 : 0 ≤ F) (d0 : 1 ≤ D) (d1 : D ≤ 23) : (P - 2 * F) * D ≤ 414 - 2 * F := by
  have : D = 1 ∨ D = 2 ∨ D = 3 ∨ D = 4 ∨ D = 5 ∨ D = 6 ∨ D = 7 ∨ D = 8 ∨ D = 9 ∨ D = 10 ∨ D = 11 ∨ D = 12 ∨ D = 13 ∨ D = 14 ∨ D = 15 ∨ D = 16 ∨ D = 17 ∨ D = 18 ∨ D = 19 ∨ D = 20 ∨ D = 21 ∨ D = 22 ∨ D = 23 := by omega
  rcases this with e | e | e | e | e | e | e | e | e | e | e | e | e | e | e | e | e | e | e | e | e | e | e <;> subst e <;> omega
theorem flv_few {n a : Int} {fr to_zq rm gn : Int → Int} {K : Int} (h : FLV n a fr to_zq rm gn K) : K ≤ 9936 := by
  obtain ⟨h1, h2, h3, h, h4, h5, h6⟩ := h
  have hm : 0 ≤ a / 4 := by have := h1.2.2.1; omega
  have hm2 : a / 4 ≤ 48 := by have := h1.2.2.2.1; omega
  have t : sm (lwW fr to_zq rm h) (a / 4) ≤ sm (fun e => 414 - 2 * lwF rm e) (a / 4) := sm_mono (fun e e0 e1 => by
    have b := h3 e e0 e1
    obtain ⟨b1, b2, b3, b4, b5, b6, b7, b8, b9, b10, b11, b12, b13, b14, b15, b16⟩ := b
    have d := h4.2 e e0 e1
    have f := h1.2.2.2.2 (4 * e) (by omega) (by omega)
    have d2 := h4.1 _ f.1 f.2.1
    have d3 := h4.1 _ f.2.2.1 f.2.2.2.1
    exact lw_term (P := rm (4 * e) - rm (4 * e + 1)) (F := rm (4 * e + 3)) (by omega) b15 d (by omega))
  have u : sm (fun e => 414 - 2 * lwF rm e) (a / 4) = 414 * (a / 4) + (-2) * sm (lwF rm) (a / 4) := by
    rw [sm_add2 (f := fun _ => 414) (g := fun e => (-2) * lwF rm e) (fun j _ _ => by omega), sm_mul (f := lwF rm) (c := -2) (fun j _ _ => rfl)]
    have := smrg (f := fun _ => (414 : Int)) (lo := 414) (hi := 414) hm (fun j _ _ => ⟨Int.le_refl _, Int.le_refl _⟩)
    omega
  omega
/-- a ring: its nodes and arcs -/
def RGL (n a : Int) (fr to_zq gn by_zq : Int → Int) (st : Int) : Prop := 0 ≤ st ∧ st < n ∧ RNG fr by_zq st ∧ SRPOS n fr gn by_zq ∧ ∀ w, 0 ≤ w → w < n → by_zq w ≠ -1 → 0 ≤ by_zq w ∧ by_zq w < a ∧ to_zq (by_zq w) = w
def NBK (fr by_zq : Int → Int) (st : Int) (k : Nat) : Prop := ∀ j : Nat, 0 < j → j ≤ k → srp fr by_zq st j ≠ st
theorem ring_inj {fr by_zq : Int → Int} {st : Int} (h : RNG fr by_zq st) {i j : Nat} (ij : i < j) (hj : NBK fr by_zq st j) : srp fr by_zq st i ≠ srp fr by_zq st j := by
  obtain ⟨L, hL, e, h2, h3⟩ := h
  intro e2
  have jL : j < L := by
    refine Classical.byContradiction fun c => ?_
    exact hj L hL (by omega) e
  have e3 := srp_add fr by_zq st i (L - j)
  have e4 := srp_add fr by_zq st j (L - j)
  rw [show j + (L - j) = L by omega, e] at e4
  rw [e2, e4] at e3
  exact h3 (i + (L - j)) (by omega) (by omega) e3.symm
theorem rgl_rng {n a : Int} {fr to_zq gn by_zq : Int → Int} {st : Int} (hw : NWL n a fr to_zq gn) (h : RGL n a fr to_zq gn by_zq st) : ∀ i : Nat, 0 ≤ srp fr by_zq st i ∧ srp fr by_zq st i < n ∧ 0 ≤ by_zq (srp fr by_zq st i) ∧ by_zq (srp fr by_zq st i) < a ∧ to_zq (by_zq (srp fr by_zq st i)) = srp fr by_zq st i := by
  have hb := rng_all h.2.2.1
  intro i
  induction i with
  | zero =>
    have := hb 0
    have := h.2.2.2.2 st h.1 h.2.1 (by have e : srp fr by_zq st 0 = st := rfl; rw [e] at this; omega)
    exact ⟨h.1, h.2.1, this⟩
  | succ i ih =>
    obtain ⟨_, _, i3, i4, _⟩ := ih
    have f := hw.2.2.2.2 _ i3 i4
    have b := hb (i + 1)
    have := h.2.2.2.2 (srp fr by_zq st (i + 1)) f.1 f.2.1 (by omega)
    exact ⟨f.1, f.2.1, this⟩
theorem nbk_few {n a : Int} {fr to_zq gn by_zq : Int → Int} {st : Int} (hw : NWL n a fr to_zq gn) (h : RGL n a fr to_zq gn by_zq st) {k : Nat} (hk : NBK fr by_zq st k) : (k : Int) < n := by
  have := inj_le (n := n) (f := srp fr by_zq st) (N := k + 1) hw.1 (fun i _ => ⟨(rgl_rng hw h i).1, (rgl_rng hw h i).2.1⟩) (fun i j ij hj => ring_inj h.2.2.1 ij (fun q q0 q1 => hk q q0 (by omega)))
  omega
/-- the first loop: the least room so far -/
def SL1 (n a : Int) (fr to_zq rm gn by_zq : Int → Int) (st v k x : Int) : Prop := RGL n a fr to_zq gn by_zq st ∧ 0 ≤ k ∧ v = srp fr by_zq st k.toNat ∧ NBK fr by_zq st k.toNat ∧ 1 ≤ x ∧ x ≤ 1000000000 ∧ (∀ w, 0 ≤ w → w < n → by_zq w ≠ -1 → 0 < rm (by_zq w)) ∧ ∀ j : Nat, j < k.toNat → x ≤ rm (by_zq (srp fr by_zq st j))
def SLX (n a : Int) (fr to_zq rm gn by_zq : Int → Int) (st x : Int) : Prop := RGL n a fr to_zq gn by_zq st ∧ 1 ≤ x ∧ x ≤ 1000000000 ∧ ∀ j : Nat, NBK fr by_zq st j → x ≤ rm (by_zq (srp fr by_zq st j))
theorem sl1_start {n a : Int} {fr to_zq rm gn by_zq : Int → Int} {st v k x : Int} (h : RSW n a fr to_zq rm gn by_zq) (hr : RNG fr by_zq st) (s0 : 0 ≤ st) (s1 : st < n) (hv : v = st) (hk : k = 0) (hx : x = 1000000000) : SL1 n a fr to_zq rm gn by_zq st v k x := by
  subst hk hv
  exact ⟨⟨s0, s1, hr, h.2.1, fun w a b c => ⟨(h.2.2 w a b c).1, (h.2.2 w a b c).2.1, (h.2.2 w a b c).2.2.1⟩⟩, by omega, rfl, fun j j0 j1 => by omega, by omega, by omega, fun w a b c => (h.2.2 w a b c).2.2.2, fun j hj => by omega⟩
theorem sl1_by {n a : Int} {fr to_zq rm gn by_zq : Int → Int} {st v k x : Int} (hw : NWL n a fr to_zq gn) (h : SL1 n a fr to_zq rm gn by_zq st v k x) : 0 ≤ by_zq v ∧ by_zq v < a ∧ 0 ≤ v ∧ v < n ∧ 1 ≤ rm (by_zq v) := by
  obtain ⟨h1, h2, h3, h4, h5, h6, h7, h8⟩ := h
  have := rgl_rng hw h1 k.toNat
  rw [← h3] at this
  have := h7 v this.1 this.2.1 (by omega)
  omega
theorem sl1_step {n a : Int} {fr to_zq rm gn by_zq : Int → Int} {st v k x v_zq k_zq x_zq : Int} (h : SL1 n a fr to_zq rm gn by_zq st v k x) (hw : NWL n a fr to_zq gn) (hv : v_zq = fr (by_zq v)) (hk : k_zq = k + 1) (hx : x_zq ≤ x) (hx1 : x_zq ≤ rm (by_zq v)) (hx2 : 1 ≤ x_zq) (hs : v_zq ≠ st) : SL1 n a fr to_zq rm gn by_zq st v_zq k_zq x_zq := by
  have hb := sl1_by hw h
  obtain ⟨h1, h2, h3, h4, h5, h6, h7, h8⟩ := h
  have eK : k_zq.toNat = k.toNat + 1 := by omega
  have ev : v_zq = srp fr by_zq st (k.toNat + 1) := by rw [hv, h3]; rfl
  refine ⟨h1, by omega, by rw [eK]; exact ev, fun j j0 j1 => ?_, by omega, by omega, h7, fun j hj => ?_⟩
  · by_cases e : j = k.toNat + 1
    · rw [e, ← ev]; exact hs
    · exact h4 j j0 (by omega)
  · by_cases e : j = k.toNat
    · rw [e, ← h3]; exact hx1
    · have := h8 j (by omega); omega
theorem sl1_few {n a : Int} {fr to_zq rm gn by_zq : Int → Int} {st v k x : Int} (hw : NWL n a fr to_zq gn) (h : SL1 n a fr to_zq rm gn by_zq st v k x) : k < n := by
  have := nbk_few hw h.1 h.2.2.2.1
  have := h.2.1
  omega
theorem slx_of {n a : Int} {fr to_zq rm gn by_zq : Int → Int} {st v k x v_zq x_zq : Int} (h : SL1 n a fr to_zq rm gn by_zq st v k x) (hw : NWL n a fr to_zq gn) (hv : v_zq = fr (by_zq v)) (hx : x_zq ≤ x) (hx1 : x_zq ≤ rm (by_zq v)) (hx2 : 1 ≤ x_zq) (hs : v_zq = st) : SLX n a fr to_zq rm gn by_zq st x_zq := by
  have hb := sl1_by hw h
  obtain ⟨h1, h2, h3, h4, h5, h6, h7, h8⟩ := h
  refine ⟨h1, by omega, by omega, fun j hj => ?_⟩
  have ev : st = srp fr by_zq st (k.toNat + 1) := by
    have : srp fr by_zq st (k.toNat + 1) = fr (by_zq (srp fr by_zq st k.toNat)) := rfl
    rw [this, ← h3, ← hv]; exact hs.symm
  have jk : j ≤ k.toNat := Classical.byContradiction fun c => hj (k.toNat + 1) (by omega) (by omega) ev.symm
  by_cases e : j = k.toNat
  · rw [e, ← h3]; exact hx1
  · have := h8 j (by omega); omega
/-- the second loop: so far sent -/
def FLP (n a : Int) (fr to_zq rm gn by_zq : Int → Int) (st v i x K : Int) : Prop := RGL n a fr to_zq gn by_zq st ∧ NWL n a fr to_zq gn ∧ 0 ≤ i ∧ 1 ≤ x ∧ x ≤ 1000000000 ∧ v = srp fr by_zq st i.toNat ∧ NBK fr by_zq st i.toNat ∧ (∀ j : Nat, i.toNat ≤ j → NBK fr by_zq st j → x ≤ rm (by_zq (srp fr by_zq st j))) ∧ a % 4 = 0 ∧ (∀ e, 0 ≤ e → e < a / 4 → LWB fr to_zq rm gn e) ∧ ∃ h : Int → Int, LWH n (a / 4) fr to_zq h ∧ sm (lwW fr to_zq rm h) (a / 4) = -(2 * x * (h st - h v)) ∧ K + x * srg fr gn by_zq st i.toNat ≤ sm (lwF rm) (a / 4)
theorem flp_start {n a : Int} {fr to_zq rm gn by_zq : Int → Int} {st v i x K : Int} (g : SLX n a fr to_zq rm gn by_zq st x) (hf : FLV n a fr to_zq rm gn K) (hv : v = st) (hi : i = 0) : FLP n a fr to_zq rm gn by_zq st v i x K := by
  obtain ⟨h1, h2, h3, h, h4, h5, h6⟩ := hf
  obtain ⟨g1, g2, g3, g4⟩ := g
  subst hi hv
  refine ⟨g1, h1, by omega, g2, g3, rfl, fun j j0 j1 => by omega, fun j _ hj => g4 j hj, h2, h3, h, h4, ?_, ?_⟩
  · rw [h5, Int.sub_self, Int.mul_zero]; rfl
  · show K + x * 0 ≤ _
    rw [Int.mul_zero]; omega
theorem flp_few {n a : Int} {fr to_zq rm gn by_zq : Int → Int} {st v i x K : Int} (h : FLP n a fr to_zq rm gn by_zq st v i x K) : i < n := by
  have := nbk_few h.2.1 h.1 h.2.2.2.2.2.2.1
  have := h.2.2.1
  omega
theorem flp_by {n a : Int} {fr to_zq rm gn by_zq : Int → Int} {st v i x K : Int} (h : FLP n a fr to_zq rm gn by_zq st v i x K) : 0 ≤ v ∧ v < n ∧ 0 ≤ by_zq v ∧ by_zq v < a ∧ to_zq (by_zq v) = v ∧ x ≤ rm (by_zq v) ∧ 1 ≤ x ∧ x ≤ 1000000000 := by
  obtain ⟨h1, h2, h3, h4, h5, h6, h7, h8, _⟩ := h
  have q := rgl_rng h2 h1 i.toNat
  have := h8 i.toNat (Nat.le_refl _) h7
  rw [← h6] at q this
  exact ⟨q.1, q.2.1, q.2.2.1, q.2.2.2.1, q.2.2.2.2, this, h4, h5⟩
/-- rooms stay low -/
theorem flp_room {n a : Int} {fr to_zq rm gn by_zq : Int → Int} {st v i x K b : Int} (h : FLP n a fr to_zq rm gn by_zq st v i x K) (b0 : 0 ≤ b) (b1 : b < a) : 0 ≤ rm b ∧ rm b ≤ 1000000000 := by
  obtain ⟨h1, h2, h3, h4, h5, h6, h7, h8, h9, h10, _⟩ := h
  obtain ⟨c1, c2, c3, c4, c5, c6, c7, c8, c9, c10, c11, c12, c13, c14, c15, c16⟩ := h10 (b / 4) (by omega) (by omega)
  have : b = 4 * (b / 4) ∨ b = 4 * (b / 4) + 1 ∨ b = 4 * (b / 4) + 2 ∨ b = 4 * (b / 4) + 3 := by omega
  rcases this with e | e | e | e <;> rw [e] <;> omega
theorem mul_two3 (x p q r : Int) : -(2 * x * (p - q)) - 2 * x * (q - r) = -(2 * x * (p - r)) := by
  rw [Int.mul_sub, Int.mul_sub, Int.mul_sub]; omega
theorem flp_step {n a : Int} {fr to_zq rm rm1 rm2 gn by_zq : Int → Int} {st v i x K b c y z v_zq i_zq : Int} (h : FLP n a fr to_zq rm gn by_zq st v i x K) (eb : b = by_zq v) (s1 : st1 rm rm1 b y) (ey : y = rm b - x) (ec : c = if b % 2 = 0 then b + 1 else b - 1) (s2 : st1 rm1 rm2 c z) (ez : z = rm1 c + x) (hv : v_zq = fr (by_zq v)) (hi : i_zq = i + 1) :
    (v_zq ≠ st → FLP n a fr to_zq rm2 gn by_zq st v_zq i_zq x K) ∧ (v_zq = st → FLV n a fr to_zq rm2 gn (K + 1)) := by
  obtain ⟨b0, b1, b2, b3, b4, b5, b6, b7⟩ := flp_by h
  obtain ⟨h1, h2, h3, h4, h5, h6, h7, h8, h9, h10, hh, h11, h12, h13⟩ := h
  rw [← eb] at b2 b3 b4 b5
  have c0 : 0 ≤ c := by rw [ec]; split <;> omega
  have cb : c ≠ b := by rw [ec]; split <;> omega
  have rb : rm2 b = rm b - x := by rw [(s2 b b2).2 (fun e => cb e.symm), (s1 b b2).1 rfl, ey]
  have rc : rm2 c = rm c + x := by rw [(s2 c c0).1 rfl, ez, (s1 c c0).2 cb]
  have ro : ∀ k, 0 ≤ k → k ≠ b → k ≠ c → rm2 k = rm k := fun k k0 k1 k2 => by rw [(s2 k k0).2 k2, (s1 k k0).2 k1]
  obtain ⟨e, he⟩ : ∃ e, e = b / 4 := ⟨_, rfl⟩
  have e0 : 0 ≤ e := by omega
  have e1 : e < a / 4 := by omega
  have other : ∀ q, 0 ≤ q → q ≠ e → rm2 (4 * q) = rm (4 * q) ∧ rm2 (4 * q + 1) = rm (4 * q + 1) ∧ rm2 (4 * q + 2) = rm (4 * q + 2) ∧ rm2 (4 * q + 3) = rm (4 * q + 3) := fun q q0 q1 => by
    have hc : c / 4 = e := by rw [ec]; split <;> omega
    refine ⟨ro _ (by omega) (by omega) (by omega), ro _ (by omega) (by omega) (by omega), ro _ (by omega) (by omega) (by omega), ro _ (by omega) (by omega) (by omega)⟩
  obtain ⟨d1, d2, d3, d4, d5, d6, d7, d8, d9, d10, d11, d12, d13, d14, d15, d16⟩ := h10 e e0 e1
  have cases4 : b = 4 * e ∨ b = 4 * e + 1 ∨ b = 4 * e + 2 ∨ b = 4 * e + 3 := by omega
  have fv : v_zq = fr b := by rw [hv, eb]
  -- the block itself, its part of the two sums
  have blk : LWB fr to_zq rm2 gn e ∧ lwW fr to_zq rm2 hh e - lwW fr to_zq rm hh e = -(2 * x * (hh v - hh v_zq)) ∧ lwF rm2 e - lwF rm e = x * gn b := by
    unfold LWB lwW lwF
    rcases cases4 with q | q | q | q
    · have ec_zq : c = 4 * e + 1 := by rw [ec, if_pos (by omega)]; omega
      have r0 : rm2 (4 * e) = rm (4 * e) - x := by rw [← q]; exact rb
      have r1 : rm2 (4 * e + 1) = rm (4 * e + 1) + x := by rw [← ec_zq]; exact rc
      have r2 := ro (4 * e + 2) (by omega) (by omega) (by omega)
      have r3 := ro (4 * e + 3) (by omega) (by omega) (by omega)
      rw [q] at b4 fv b5
      rw [r0, r1, r2, r3, fv, ← b4, q, d7]
      refine ⟨⟨d1, d2, d3, d4, d5, d6, rfl, d8, d9, d10, by omega, by omega, by omega, d14, d15, d16⟩, ?_, by omega⟩
      rw [← Int.sub_mul, show rm (4 * e) - x - (rm (4 * e + 1) + x) - 2 * rm (4 * e + 3) - (rm (4 * e) - rm (4 * e + 1) - 2 * rm (4 * e + 3)) = -(2 * x) by omega, Int.neg_mul]
    · have ec_zq : c = 4 * e := by rw [ec, if_neg (by omega)]; omega
      have r0 : rm2 (4 * e + 1) = rm (4 * e + 1) - x := by rw [← q]; exact rb
      have r1 : rm2 (4 * e) = rm (4 * e) + x := by rw [← ec_zq]; exact rc
      have r2 := ro (4 * e + 2) (by omega) (by omega) (by omega)
      have r3 := ro (4 * e + 3) (by omega) (by omega) (by omega)
      rw [q] at b4 fv b5
      rw [d2] at b4
      rw [d1] at fv
      rw [r0, r1, r2, r3, fv, ← b4, q, d8]
      refine ⟨⟨d1, d2, d3, d4, d5, d6, d7, rfl, d9, d10, by omega, by omega, by omega, d14, d15, d16⟩, ?_, by omega⟩
      rw [← Int.sub_mul, show rm (4 * e) + x - (rm (4 * e + 1) - x) - 2 * rm (4 * e + 3) - (rm (4 * e) - rm (4 * e + 1) - 2 * rm (4 * e + 3)) = 2 * x by omega, Int.mul_sub, Int.mul_sub]; omega
    · have ec_zq : c = 4 * e + 3 := by rw [ec, if_pos (by omega)]; omega
      have r0 : rm2 (4 * e + 2) = rm (4 * e + 2) - x := by rw [← q]; exact rb
      have r1 : rm2 (4 * e + 3) = rm (4 * e + 3) + x := by rw [← ec_zq]; exact rc
      have r2 := ro (4 * e) (by omega) (by omega) (by omega)
      have r3 := ro (4 * e + 1) (by omega) (by omega) (by omega)
      rw [q] at b4 fv b5
      rw [d4] at b4
      rw [d3] at fv
      rw [r0, r1, r2, r3, fv, ← b4, q, d9]
      refine ⟨⟨d1, d2, d3, d4, d5, d6, d7, d8, rfl, d10, by omega, by omega, by omega, by omega, by omega, by omega⟩, ?_, by omega⟩
      rw [← Int.sub_mul, show rm (4 * e) - rm (4 * e + 1) - 2 * (rm (4 * e + 3) + x) - (rm (4 * e) - rm (4 * e + 1) - 2 * rm (4 * e + 3)) = -(2 * x) by omega, Int.neg_mul]
    · have ec_zq : c = 4 * e + 2 := by rw [ec, if_neg (by omega)]; omega
      have r0 : rm2 (4 * e + 3) = rm (4 * e + 3) - x := by rw [← q]; exact rb
      have r1 : rm2 (4 * e + 2) = rm (4 * e + 2) + x := by rw [← ec_zq]; exact rc
      have r2 := ro (4 * e) (by omega) (by omega) (by omega)
      have r3 := ro (4 * e + 1) (by omega) (by omega) (by omega)
      rw [q] at b4 fv b5
      rw [d6] at b4
      rw [d5] at fv
      rw [r0, r1, r2, r3, fv, ← b4, q, d10]
      refine ⟨⟨d1, d2, d3, d4, d5, d6, d7, d8, d9, rfl, by omega, by omega, by omega, by omega, by omega, by omega⟩, ?_, by omega⟩
      rw [← Int.sub_mul, show rm (4 * e) - rm (4 * e + 1) - 2 * (rm (4 * e + 3) - x) - (rm (4 * e) - rm (4 * e + 1) - 2 * rm (4 * e + 3)) = 2 * x by omega, Int.mul_sub, Int.mul_sub]; omega
  obtain ⟨k1, k2, k3⟩ := blk
  have B2 : ∀ q, 0 ≤ q → q < a / 4 → LWB fr to_zq rm2 gn q := fun q q0 q1 => by
    by_cases eq : q = e
    · rw [eq]; exact k1
    · obtain ⟨o1, o2, o3, o4⟩ := other q q0 eq
      have := h10 q q0 q1
      unfold LWB at this ⊢
      rw [o1, o2, o3, o4]; exact this
  have W2 : sm (lwW fr to_zq rm2 hh) (a / 4) = -(2 * x * (hh st - hh v_zq)) := by
    rw [sm_pt (f := lwW fr to_zq rm hh) e0 e1 (fun j j0 _ j2 => by
      obtain ⟨o1, o2, o3, o4⟩ := other j j0 j2
      unfold lwW; rw [o1, o2, o4]), h12, k2]
    have := mul_two3 x (hh st) (hh v) (hh v_zq)
    omega
  have F2 : sm (lwF rm2) (a / 4) = sm (lwF rm) (a / 4) + x * gn b := by
    rw [sm_pt (f := lwF rm) (g := lwF rm2) e0 e1 (fun j j0 _ j2 => (other j j0 j2).2.2.2), k3]
  have eI : i_zq.toNat = i.toNat + 1 := by omega
  have ev : v_zq = srp fr by_zq st (i.toNat + 1) := by rw [hv, h6]; rfl
  have G2 : srg fr gn by_zq st (i.toNat + 1) = srg fr gn by_zq st i.toNat + gn b := by
    show _ + gn (by_zq (srp fr by_zq st i.toNat)) = _
    rw [← h6, ← eb]
  have K2 : K + x * srg fr gn by_zq st (i.toNat + 1) ≤ sm (lwF rm2) (a / 4) := by
    rw [F2, G2, Int.mul_add]; omega
  refine ⟨fun hs => ⟨h1, h2, by omega, h4, h5, by rw [eI]; exact ev, fun j j0 j1 => ?_, fun j j0 j1 => ?_, h9, B2, hh, h11, W2, by rw [eI]; exact K2⟩, fun hs => ⟨h2, h9, B2, hh, h11, ?_, ?_⟩⟩
  · by_cases e : j = i.toNat + 1
    · rw [e, ← ev]; exact hs
    · exact h7 j j0 (by omega)
  · -- arcs that are still to come
    have hj := h8 j (by omega) j1
    have nb : by_zq (srp fr by_zq st j) ≠ b := fun e2 => by
      have r1 := rgl_rng h2 h1 j
      have r2 := rgl_rng h2 h1 i.toNat
      rw [e2] at r1
      rw [← h6, ← eb] at r2
      have : srp fr by_zq st i.toNat = srp fr by_zq st j := by rw [← h6, ← r2.2.2.2.2]; exact r1.2.2.2.2
      exact ring_inj h1.2.2.1 (by omega) j1 this
    have r1 := rgl_rng h2 h1 j
    by_cases e2 : by_zq (srp fr by_zq st j) = c
    · rw [e2] at hj ⊢; rw [rc]; omega
    · rw [ro _ r1.2.2.1 nb e2]; exact hj
  · rw [W2, hs, Int.sub_self, Int.mul_zero]; rfl
  · have pos := h1.2.2.2.1 st (i.toNat + 1) (by omega) h1.1 h1.2.1 (by rw [← ev]; exact hs) (fun j _ => rng_all h1.2.2.1 j)
    have : x * 1 ≤ x * srg fr gn by_zq st (i.toNat + 1) := Int.mul_le_mul_of_nonneg_left pos (by omega)
    omega
/-! solve -/
def EXQ (n a : Int) (fr to_zq rm gn : Int → Int) : Prop := ∃ q : Int → Int, FEA a fr to_zq rm gn q ∧ ∀ v, 0 ≤ v → v < n → 0 ≤ q v
def GPR (n a : Int) (fr to_zq rm gn : Int → Int) : Prop := NWL n a fr to_zq gn ∧ a % 4 = 0 ∧ ∀ e, 0 ≤ e → e < a / 4 → LWB fr to_zq rm gn e ∧ 0 < rm (4 * e + 2)
def FLO0 (n a : Int) (fr to_zq rm gn : Int → Int) : Prop := FLV n a fr to_zq rm gn 0
def FLV1 (n a : Int) (fr to_zq rm gn : Int → Int) (K : Int) : Prop := FLV n a fr to_zq rm gn (K + 1)
def LYQ (n a : Int) (fr to_zq pl : Int → Int) : Prop := (∀ v, 0 ≤ v → v < n → 0 ≤ pl v ∧ pl v ≤ 23) ∧ ∀ e, 0 ≤ e → e < a / 4 → pl (fr (4 * e)) + 1 ≤ pl (to_zq (4 * e))
theorem gpr_of {n a : Int} {fr to_zq rm gn : Int → Int} {K : Int} (h : FLV n a fr to_zq rm gn K) : GPR n a fr to_zq rm gn := by
  obtain ⟨h1, h2, h3, hh, h4, h5, h6⟩ := h
  have := flv_few (K := sm (lwF rm) (a / 4)) ⟨h1, h2, h3, hh, h4, h5, Int.le_refl _⟩
  refine ⟨h1, h2, fun e e0 e1 => ⟨h3 e e0 e1, ?_⟩⟩
  have h7 : lwF rm e ≤ sm (lwF rm) (a / 4) := sm_one e0 e1 (fun j j0 j1 => (h3 j j0 j1).2.2.2.2.2.2.2.2.2.2.2.2.2.2.1)
  have h8 := (h3 e e0 e1).2.2.2.2.2.2.2.2.2.2.2.2.2.2.2
  have h9 : lwF rm e = rm (4 * e + 3) := rfl
  omega
theorem exq_of {n a : Int} {fr to_zq rm gn pl : Int → Int} {by_zq : Int → Int} {K an : Int} (h : FRP n a fr to_zq rm gn pl by_zq an) (e : an = -1) (hb : PBL n pl K) : EXQ n a fr to_zq rm gn := ⟨pl, h.1 e, fun v a b => (hb v a b).1⟩
theorem lyq_of {n a : Int} {fr to_zq rm gn pl : Int → Int} (h : LEA n a fr to_zq rm gn pl) (hg : GPR n a fr to_zq rm gn) : LYQ n a fr to_zq pl := by
  refine ⟨fun v v0 v1 => ?_, fun e e0 e1 => ?_⟩
  · have := lea_full hg.1 h v0 v1
    have := h.2.1 v v0 v1
    have := hg.1.2.1
    omega
  · obtain ⟨⟨d1, d2, d3, d4, d5, d6, d7, d8, d9, d10, _⟩, g2⟩ := hg.2.2 e e0 e1
    have := h.1 (4 * e + 2) (by omega) (by have := hg.2.1; omega) g2
    rw [d3, d4, d9] at this; exact this
theorem lyq_end {n a : Int} {fr to_zq rm gn pl : Int → Int} {t an : Int} (h : FNQ n a fr to_zq rm gn pl t an) (e : an = 0) (hg : GPR n a fr to_zq rm gn) : LYQ n a fr to_zq pl := lyq_of (h.1 e) hg
theorem fnl_zero {n a : Int} {fr to_zq rm gn pl : Int → Int} {t : Int} (h : EXQ n a fr to_zq rm gn) (hg : GPR n a fr to_zq rm gn) (hz : ∀ v, 0 ≤ v → v < n → pl v = 0) (ht : t = 0) : FNL n a fr to_zq rm gn pl t := by
  obtain ⟨q, q1, q2⟩ := h
  exact fnl_start hg.1 q1 q2 hz ht
/-! the other use: places stay low -/
def PBX (pl : Int → Int) (t : Int) : Prop := ∀ v, 0 ≤ v → v < 72 → 0 ≤ pl v ∧ pl v ≤ 7680 * t
def PBX1 (pl : Int → Int) (t : Int) : Prop := PBX pl (t + 1)
def PBY (pl : Int → Int) (t i : Int) : Prop := ∀ v, 0 ≤ v → v < 72 → 0 ≤ pl v ∧ pl v ≤ 7680 * t + 20 * i
theorem pby_set {pl pl_zq : Int → Int} {t i i_zq p x u : Int} (h : PBY pl t i) (hp : st1 pl pl_zq p x) (i0 : 0 ≤ i) (p0 : 0 ≤ p) (p1 : p < 72) (u0 : 0 ≤ u) (u1 : u < 72) (ex : x ≤ pl u + 20) (hx : pl p < x) (hi : i_zq = i + 1) : PBY pl_zq t i_zq := fun v a b => by
  have h1 := h u u0 u1
  have h2 := h p p0 p1
  by_cases e : v = p
  · rw [(hp v a).1 e]; omega
  · rw [(hp v a).2 e]; have := h v a b; omega
def RNGX (fr by_zq : Int → Int) (v : Int) : Prop := v ≠ -1 → RNG fr by_zq v
def PBZ (pl : Int → Int) : Prop := ∀ v, 0 ≤ v → v < 72 → 0 ≤ pl v ∧ pl v ≤ 568320
theorem flv_room {n a : Int} {fr to_zq rm gn : Int → Int} {K b : Int} (h : FLV n a fr to_zq rm gn K) (b0 : 0 ≤ b) (b1 : b < a) : 0 ≤ rm b ∧ rm b ≤ 1000000000 := by
  obtain ⟨h2, h9, h10, _⟩ := h
  obtain ⟨c1, c2, c3, c4, c5, c6, c7, c8, c9, c10, c11, c12, c13, c14, c15, c16⟩ := h10 (b / 4) (by omega) (by omega)
  have : b = 4 * (b / 4) ∨ b = 4 * (b / 4) + 1 ∨ b = 4 * (b / 4) + 2 ∨ b = 4 * (b / 4) + 3 := by omega
  rcases this with e | e | e | e <;> rw [e] <;> omega
theorem flp_other {n a : Int} {fr to_zq rm rm1 gn by_zq : Int → Int} {st v i x K b c y : Int} (h : FLP n a fr to_zq rm gn by_zq st v i x K) (eb : b = by_zq v) (ec : c = if b % 2 = 0 then b + 1 else b - 1) (s1 : st1 rm rm1 b y) : 0 ≤ rm1 c ∧ rm1 c ≤ 1000000000 ∧ 0 ≤ c ∧ c ≤ 191 := by
  obtain ⟨b0, b1, b2, b3, b4, b5, b6, b7⟩ := flp_by h
  rw [← eb] at b2 b3
  have a4 := h.2.2.2.2.2.2.2.2.1
  have a1 := h.2.1.2.2.2.1
  have c0 : 0 ≤ c := by rw [ec]; split <;> omega
  have c1 : c < a := by rw [ec]; split <;> omega
  have cb : c ≠ b := by rw [ec]; split <;> omega
  rw [(s1 c c0).2 cb]
  have := flp_room h c0 c1
  omega
end
section
/-! the class's forces: as the reference's -/
def FZ0 (fx fy : Int → Int) (j : Int) : Prop := FXK fx fy 0 0 j
def FZB (n : Int) (fx fy : Int → Int) (k : Int) : Prop := FXK fx fy k 0 n
def FZM (n : Int) (fx fy : Int → Int) (k j : Int) : Prop := FXK fx fy (k + 1) 0 j ∧ FXK fx fy k j n
theorem fzb_start {n : Int} {fx fy : Int → Int} {k j : Int} (h : FZ0 fx fy j) (hj : n ≤ j) (hk : k = 0) : FZB n fx fy k := fun i a b => by
  have := h i a (by omega)
  omega
theorem fzm_start {n : Int} {fx fy : Int → Int} {k j : Int} (h : FZB n fx fy k) (hj : j = 0) : FZM n fx fy k j := ⟨fun i a b => by omega, fun i a b => h i (by omega) b⟩
theorem fzm_step {n : Int} {fx fy fx_zq fy_zq : Int → Int} {k j j_zq v w p q : Int} (h : FZM n fx fy k j) (k0 : 0 ≤ k) (j0 : 0 ≤ j) (jn : j < n) (hj : j_zq = j + 1) (h1 : st1 fx fx_zq p v) (hp : p = j) (h2 : st1 fy fy_zq q w) (hq : q = j) (v0 : fx j - 256 ≤ v) (v1 : v ≤ fx j + 256) (w0 : fy j - 256 ≤ w) (w1 : w ≤ fy j + 256) : FZM n fx_zq fy_zq k j_zq := by
  refine ⟨fun i a b => ?_, fun i a b => ?_⟩
  · by_cases e : i = j
    · rw [(h1 i a).1 (by omega), (h2 i a).1 (by omega)]
      have q := h.2 j (by omega) jn
      subst e
      omega
    · rw [(h1 i a).2 (by omega), (h2 i a).2 (by omega)]; exact h.1 i a (by omega)
  · rw [(h1 i (by omega)).2 (by omega), (h2 i (by omega)).2 (by omega)]; exact h.2 i (by omega) b
theorem fzb_next {n : Int} {fx fy : Int → Int} {k j k_zq : Int} (h : FZM n fx fy k j) (hj : n ≤ j) (hk : k_zq = k + 1) : FZB n fx fy k_zq := fun i a b => by
  have := h.1 i a (by omega)
  omega
end
section
/-! traceFaces of the class: what is marked is counted -/
def fmk (fo : Int → Int) (i : Int) : Int := if fo i = -1 then 0 else 1
def TFC (fo : Int → Int) (len : Int) : Prop := sm (fmk fo) 144 = len
def TFO (edges faces : Int) (fo : Int → Int) (st len : Int) : Prop := 0 ≤ st ∧ 0 ≤ faces ∧ faces ≤ len ∧ TFC fo len ∧ ∀ d, 0 ≤ d → d < st → fo d ≠ -1
def TFI (edges faces : Int) (fo : Int → Int) (st len en k : Int) : Prop := 0 ≤ st ∧ st < 2 * edges ∧ 0 ≤ faces ∧ TFC fo len ∧ (∀ d, 0 ≤ d → d < st → fo d ≠ -1) ∧ ((k = 0 ∧ en = st ∧ fo st = -1 ∧ faces ≤ len) ∨ (0 < k ∧ faces + 1 ≤ len ∧ fo st ≠ -1))
def FAD (edges : Int) (fo : Int → Int) : Prop := ∀ d, 0 ≤ d → d < 2 * edges → fo d ≠ -1
theorem fmk_bd (fo : Int → Int) (i : Int) : 0 ≤ fmk fo i ∧ fmk fo i ≤ 1 := by unfold fmk; split <;> omega
theorem tfc_bd {fo : Int → Int} {len : Int} (h : TFC fo len) : 0 ≤ len ∧ len ≤ 144 := by
  have := smrg (f := fmk fo) (n := 144) (lo := 0) (hi := 1) (by omega) (fun j _ _ => fmk_bd fo j)
  unfold TFC at h; omega
theorem tfc_lt {fo : Int → Int} {len e : Int} (h : TFC fo len) (e0 : 0 ≤ e) (e1 : e < 144) (he : fo e = -1) : len ≤ 143 := by
  have := smlt (f := fmk fo) (g := fun _ => 1) (n := 144) (i := e) e0 e1 (fun j _ _ => (fmk_bd fo j).2) (by unfold fmk; rw [if_pos he]; omega)
  have h2 := smrg (f := fun _ => (1 : Int)) (n := 144) (lo := 1) (hi := 1) (by omega) (fun j _ _ => ⟨Int.le_refl _, Int.le_refl _⟩)
  unfold TFC at h; omega
theorem tfc_set {fo fo_zq : Int → Int} {len len_zq e v p : Int} (h : TFC fo len) (hs : st1 fo fo_zq p v) (hp : p = e) (e0 : 0 ≤ e) (e1 : e < 144) (he : fo e = -1) (hv : v ≠ -1) (hl : len_zq = len + 1) : TFC fo_zq len_zq := by
  subst hp
  unfold TFC at h ⊢
  rw [sm_pt (f := fmk fo) (g := fmk fo_zq) e0 e1 (fun j j0 _ j2 => by unfold fmk; rw [(hs j j0).2 j2]), h]
  unfold fmk
  rw [(hs p e0).1 rfl, if_neg hv, if_pos he]; omega
theorem tfo_start {edges faces : Int} {fo : Int → Int} {st len : Int} (h : ∀ d, 0 ≤ d → d < 144 → fo d = -1) (hs : st = 0) (hl : len = 0) (hf : faces = 0) : TFO edges faces fo st len := by
  refine ⟨by omega, by omega, by omega, ?_, fun d a b => by omega⟩
  unfold TFC
  rw [sm_nil (fun j a b => by unfold fmk; rw [if_pos (h j a b)])]; omega
theorem tfo_skip {edges faces : Int} {fo : Int → Int} {st st_zq len : Int} (h : TFO edges faces fo st len) (he : fo st ≠ -1) (hs : st_zq = st + 1) : TFO edges faces fo st_zq len := by
  obtain ⟨a, b, c, d, e⟩ := h
  refine ⟨by omega, b, c, d, fun q q0 q1 => ?_⟩
  by_cases eq : q = st
  · rw [eq]; exact he
  · exact e q q0 (by omega)
theorem tfi_start {edges faces : Int} {fo : Int → Int} {st len en k : Int} (h : TFO edges faces fo st len) (he : fo st = -1) (s1 : st < 2 * edges) (hk : k = 0) (hen : en = st) : TFI edges faces fo st len en k := ⟨h.1, s1, h.2.1, h.2.2.2.1, h.2.2.2.2, Or.inl ⟨hk, hen, he, h.2.2.1⟩⟩
theorem tfi_step {edges faces : Int} {fo fo_zq : Int → Int} {st len en k len_zq en_zq k_zq p v : Int} (h : TFI edges faces fo st len en k) (hs : st1 fo fo_zq p v) (hp : p = en) (hv : v = faces) (e0 : 0 ≤ en) (e1 : en < 144) (he : fo en = -1) (hl : len_zq = len + 1) (hk : k_zq = k + 1) : TFI edges faces fo_zq st len_zq en_zq k_zq := by
  obtain ⟨a, b, c, d, e, f⟩ := h
  have dd := tfc_set d hs hp e0 e1 he (by omega) hl
  subst hp
  refine ⟨a, b, c, dd, fun q q0 q1 => ?_, Or.inr ⟨?_, ?_, ?_⟩⟩
  · by_cases eq : q = p
    · rw [eq, (hs p e0).1 rfl]; omega
    · rw [(hs q q0).2 eq]; exact e q q0 q1
  · rcases f with f | f <;> omega
  · rcases f with f | f <;> omega
  · by_cases eq : st = p
    · rw [eq, (hs p e0).1 rfl]; omega
    · rw [(hs st a).2 eq]
      rcases f with f | f
      · omega
      · exact f.2.2
theorem tfi_low {edges faces : Int} {fo : Int → Int} {st len en k : Int} (h : TFI edges faces fo st len en k) (e0 : 0 ≤ en) (e1 : en < 144) (he : fo en = -1) : 0 ≤ len ∧ len ≤ 143 ∧ 0 ≤ faces ∧ faces ≤ 143 := by
  obtain ⟨a, b, c, d, e, f⟩ := h
  have := tfc_lt d e0 e1 he
  have := tfc_bd d
  rcases f with f | f <;> omega
theorem tfo_next {edges faces faces_zq : Int} {fo : Int → Int} {st st_zq len en k : Int} (h : TFI edges faces fo st len en k) (hx : 2 * edges ≤ k ∨ fo en ≠ -1) (hf : faces_zq = faces + 1) (hs : st_zq = st + 1) : TFO edges faces_zq fo st_zq len ∧ faces + 1 ≤ 144 := by
  obtain ⟨a, b, c, d, e, f⟩ := h
  have hd := tfc_bd d
  have g : 0 < k ∧ faces + 1 ≤ len ∧ fo st ≠ -1 := by
    rcases f with ⟨f1, f2, f3, f4⟩ | f
    · rcases hx with q | q
      · omega
      · rw [f2] at q; exact absurd f3 q
    · exact f
  refine ⟨⟨by omega, by omega, by omega, d, fun q q0 q1 => ?_⟩, by omega⟩
  by_cases eq : q = st
  · rw [eq]; exact g.2.2
  · exact e q q0 (by omega)
theorem tfo_low {edges faces : Int} {fo : Int → Int} {st len : Int} (h : TFO edges faces fo st len) : 0 ≤ len ∧ len ≤ 144 ∧ 0 ≤ faces ∧ faces ≤ len := ⟨(tfc_bd h.2.2.2.1).1, (tfc_bd h.2.2.2.1).2, h.2.1, h.2.2.1⟩
theorem fad_of {edges faces : Int} {fo : Int → Int} {st len : Int} (h : TFO edges faces fo st len) (hs : 2 * edges ≤ st) : FAD edges fo := fun d a b => h.2.2.2.2 d a (by omega)
end
section
/-! the least node of a set; nodes near a set; levels and the shortest way (the class) -/
theorem bvp_nat {x : Int} (h0 : 0 ≤ x) : bvp x = BitVec.ofNat 32 x.toNat := by
  unfold bvp
  rw [← BitVec.ofInt_natCast, Int.toNat_of_nonneg h0]
theorem bit_nat {x w : Int} (h0 : 0 ≤ x) (w0 : 0 ≤ w) (w1 : w < 32) : bit x w ↔ x.toNat.testBit w.toNat = true := by
  unfold bit
  rw [bvp_nat h0, BitVec.getLsbD_ofNat]
  simp; intro _; omega
theorem bit_lt {x w : Int} {k : Nat} (h0 : 0 ≤ x) (h1 : x < (2 : Int) ^ k) (w0 : 0 ≤ w) (w1 : w < 32) (h : bit x w) : w < k := by
  rw [bit_nat h0 w0 w1] at h
  refine Classical.byContradiction fun c => ?_
  have hx : x.toNat < 2 ^ k := by
    have : ((2 ^ k : Nat) : Int) = (2 : Int) ^ k := by rw [Int.natCast_pow]; rfl
    omega
  have : x.toNat < 2 ^ w.toNat := Nat.lt_of_lt_of_le hx (Nat.pow_le_pow_right (by decide) (by omega))
  rw [Nat.testBit_lt_two_pow this] at h
  cases h
theorem bit_ex {x : Int} (h0 : 0 < x) (h1 : x < 4294967296) : ∃ w, 0 ≤ w ∧ w < 32 ∧ bit x w := by
  have hne : x.toNat ≠ 0 := by omega
  obtain ⟨i, hi⟩ := Nat.exists_testBit_of_ne_zero hne
  have hi2 : i < 32 := by
    refine Classical.byContradiction fun c => ?_
    have : x.toNat < 2 ^ i := Nat.lt_of_lt_of_le (show x.toNat < 2 ^ 32 by omega) (Nat.pow_le_pow_right (by decide) (by omega))
    rw [Nat.testBit_lt_two_pow this] at hi; cases hi
  exact ⟨i, by omega, by omega, by rw [bit_nat (by omega) (by omega) (by omega)]; exact hi⟩
/-- a number is a power of two times an odd one -/
theorem odd_part : ∀ n : Nat, 0 < n → ∃ k m, n = 2 ^ (k + 1) * m + 2 ^ k := by
  intro n
  induction n using Nat.strongRecOn with
  | _ n ih =>
    intro hn
    by_cases h : n % 2 = 1
    · exact ⟨0, n / 2, by simp only [Nat.zero_add, Nat.pow_one, Nat.pow_zero]; omega⟩
    · obtain ⟨k, m, e⟩ := ih (n / 2) (by omega) (by omega)
      refine ⟨k + 1, m, ?_⟩
      have e2 : n = 2 * (n / 2) := by omega
      rw [e2, e, Nat.mul_add, Nat.pow_succ (n := 2) (m := k + 1), Nat.pow_succ (n := 2) (m := k)]
      have : 2 * (2 ^ k * 2 * m) = 2 ^ k * 2 * 2 * m := by rw [← Nat.mul_assoc, Nat.mul_comm 2 (2 ^ k * 2)]
      rw [this]; omega
theorem low_bit {s a b : Int} (s0 : 0 < s) (s1 : s < 33554432) (ha : a = s * -1) (hb : bvp b = bvp s &&& bvp a) (b0 : -2147483648 ≤ b) (b1 : b ≤ 2147483647) : ∃ k : Nat, k < 25 ∧ b = (2 : Int) ^ k ∧ bit s k := by
  obtain ⟨k, m, e⟩ := odd_part s.toNat (by omega)
  have p0 : 0 < 2 ^ k := Nat.pow_pos (by decide)
  have hk : k < 25 := by
    refine Classical.byContradiction fun c => ?_
    have : 2 ^ 25 ≤ 2 ^ k := Nat.pow_le_pow_right (by decide) (by omega)
    have : s.toNat < 2 ^ 25 := by omega
    have : 2 ^ k ≤ 2 ^ (k + 1) * m + 2 ^ k := Nat.le_add_left _ _
    omega
  have sp : 2 ^ (k + 1) = 2 ^ k + 2 ^ k := by rw [Nat.pow_succ]; omega
  -- the bits of s and of s - 1
  have t1 : ∀ j, s.toNat.testBit j = if j < k + 1 then decide (j = k) else m.testBit (j - (k + 1)) := fun j => by
    rw [e, Nat.testBit_two_pow_mul_add m (by omega) j]
    split
    · rw [Nat.testBit_two_pow]; simp only [eq_comm]
    · rfl
  have t2 : ∀ j, (s.toNat - 1).testBit j = if j < k + 1 then decide (j < k) else m.testBit (j - (k + 1)) := fun j => by
    rw [e, show 2 ^ (k + 1) * m + 2 ^ k - 1 = 2 ^ (k + 1) * m + (2 ^ k - 1) by omega, Nat.testBit_two_pow_mul_add m (by omega) j]
    split
    · rw [Nat.testBit_two_pow_sub_one]
    · rfl
  have n0 : (bvp s).toNat = s.toNat := by
    rw [bvp_nat (by omega), BitVec.toNat_ofNat]; omega
  have n1 : (BitVec.ofNat 32 (s.toNat - 1)).toNat = s.toNat - 1 := by
    rw [BitVec.toNat_ofNat]; omega
  have ea : bvp a = ~~~ (BitVec.ofNat 32 (s.toNat - 1)) := by
    have h1 : bvp a = - bvp s := by
      unfold bvp
      rw [ha, show s * -1 = -s by omega, BitVec.ofInt_neg]
    apply BitVec.eq_of_toNat_eq
    rw [h1, BitVec.toNat_neg, BitVec.toNat_not, n0, n1]
    omega
  have eb : bvp b = BitVec.ofNat 32 (2 ^ k) := by
    apply BitVec.eq_of_getLsbD_eq
    intro j hj
    have g1 : (bvp s).getLsbD j = s.toNat.testBit j := by rw [← n0]; rfl
    have g2 : (BitVec.ofNat 32 (s.toNat - 1)).getLsbD j = (s.toNat - 1).testBit j := by rw [← n1]; rw [n1]; rw [BitVec.getLsbD_ofNat]; simp [hj]
    rw [hb, ea, BitVec.getLsbD_and, BitVec.getLsbD_not, g1, g2, t1, t2, BitVec.getLsbD_ofNat, Nat.testBit_two_pow]
    by_cases q : j < k + 1
    · rw [if_pos q, if_pos q]
      by_cases q2 : j = k
      · subst q2; simp [hj]
      · have q3 : ¬ k = j := fun z => q2 z.symm
        simp [q2, q3]
    · rw [if_neg q, if_neg q]
      have q3 : ¬ k = j := fun z => by omega
      simp [q3]
      intro z _; exact z
  refine ⟨k, hk, ?_, ?_⟩
  · have hx : (bvp b).toInt = b := by unfold bvp; rw [BitVec.toInt_ofInt]; unfold Int.bmod; simp only; split <;> omega
    have p25 : 2 ^ k < 2 ^ 25 := Nat.pow_lt_pow_right (by decide) hk
    rw [← hx, eb, BitVec.toInt_eq_toNat_cond, BitVec.toNat_ofNat, Nat.mod_eq_of_lt (by omega), if_pos (by omega), Int.natCast_pow]; rfl
  · rw [bit_nat (by omega) (by omega) (by omega), show ((k : Nat) : Int).toNat = k by omega, t1, if_pos (by omega)]; simp
def cnN (x : Nat) : Nat → Nat
  | 0 => 0
  | k + 1 => cnN x k + if x.testBit k then 1 else 0
/-- exactly at what is all ones below a place, and at what is small -/
def BCT (x an : Int) : Prop := (∀ k : Nat, k ≤ 25 → x = (2 : Int) ^ k - 1 → an = k) ∧ (0 ≤ x → x ≤ 63 → an = (cnN x.toNat 6 : Int))
def LOW (s an : Int) : Prop := 0 < s → s < 33554432 → 0 ≤ an ∧ an < 25 ∧ bit s an
theorem low_of {s a b c d an : Int} (ha : a = s * -1) (hb : bvp b = bvp s &&& bvp a) (b0 : -2147483648 ≤ b) (b1 : b ≤ 2147483647) (hc : c = b - d) (hd : d = 1) (h : BCT c an) : LOW s an := fun s0 s1 => by
  obtain ⟨k, k1, e, hk⟩ := low_bit s0 s1 ha hb b0 b1
  have := h.1 k (by omega) (by omega)
  rw [this]
  exact ⟨by omega, by omega, hk⟩
/-! nearOf -/
def NEI (nr : Int → Int) (v st fd : Int) : Prop := ∀ w, 0 ≤ w → w < 32 → (bit fd w ↔ ∃ u, 0 ≤ u ∧ u < v ∧ bit st u ∧ bit (nr u) w)
def NEF (nr : Int → Int) (n st an : Int) : Prop := NEI nr n st an
theorem nei_start {nr : Int → Int} {v st fd : Int} (hv : v = 0) (hf : fd = 0) : NEI nr v st fd := fun w a b => ⟨fun h => absurd (hf ▸ h) (bit_zero w), fun ⟨u, u0, u1, _⟩ => by omega⟩
theorem nei_skip {nr : Int → Int} {v v_zq st fd : Int} (h : NEI nr v st fd) (hb : ¬ bit st v) (hv : v_zq = v + 1) : NEI nr v_zq st fd := fun w a b => by
  rw [h w a b]
  refine ⟨fun ⟨u, u0, u1, u2⟩ => ⟨u, u0, by omega, u2⟩, fun ⟨u, u0, u1, u2⟩ => ?_⟩
  by_cases e : u = v
  · rw [e] at u2; exact absurd u2.1 hb
  · exact ⟨u, u0, by omega, u2⟩
theorem nei_step {nr : Int → Int} {v v_zq st fd fd_zq x : Int} (h : NEI nr v st fd) (v0 : 0 ≤ v) (hb : bit st v) (hx : x = nr v) (hf : bvp fd_zq = bvp fd ||| bvp x) (hv : v_zq = v + 1) : NEI nr v_zq st fd_zq := fun w a b => by
  rw [bit_or hf, h w a b]
  refine ⟨fun q => ?_, fun ⟨u, u0, u1, u2⟩ => ?_⟩
  · rcases q with ⟨u, u0, u1, u2⟩ | q
    · exact ⟨u, u0, by omega, u2⟩
    · exact ⟨v, v0, by omega, hb, hx ▸ q⟩
  · by_cases e : u = v
    · subst e; exact Or.inr (hx ▸ u2.2)
    · exact Or.inl ⟨u, u0, by omega, u2⟩
theorem bit_one {s t c v one : Int} (ht : bvp t = bvp s >>> v.toNat) (hc : bvp c = bvp t &&& bvp one) (h1 : one = 1) (v0 : 0 ≤ v) (c0 : 0 ≤ c) (c1 : c ≤ 1) : bit s v ↔ c = 1 := by
  rw [← bit_shr ht v0, ← bit_01 c0 c1, bit_and hc]
  refine ⟨fun z => ⟨z, ?_⟩, fun z => z.1⟩
  rw [h1]; exact (bit_01 (by omega) (by omega)).mpr rfl
/-! spread: what it finds is allowed -/
def SPA (al fd fs : Int) : Prop := ∀ w, 0 ≤ w → w < 32 → (bit fd w → bit al w) ∧ (bit fs w → bit al w)
def SPDW (al an : Int) : Prop := ∀ w, 0 ≤ w → w < 32 → bit an w → bit al w
theorem spa_start {al st fd fs : Int} (h : bvp fd = bvp st &&& bvp al) (e : fs = fd) : SPA al fd fs := fun w a b => by
  subst e
  have : bit fs w → bit al w := fun z => ((bit_and h w).mp z).2
  exact ⟨this, this⟩
theorem spa_step {al fd fs p q r fs_zq fd_zq : Int} (h : SPA al fd fs) (h1 : bvp q = bvp p &&& bvp al) (h2 : bvp fs_zq = bvp q &&& bvp r) (h3 : bvp fd_zq = bvp fd ||| bvp fs_zq) : SPA al fd_zq fs_zq := fun w a b => by
  have g : bit fs_zq w → bit al w := fun z => ((bit_and h1 w).mp ((bit_and h2 w).mp z).1).2
  exact ⟨fun z => ((bit_or h3 w).mp z).elim (h w a b).1 g, g⟩
theorem spdw_of {al fd fs an : Int} (h : SPA al fd fs) (e : an = fd) : SPDW al an := fun w a b z => (h w a b).1 (e ▸ z)
/-! levels -/
def SYMN (nr : Int → Int) (n : Int) : Prop := ∀ u v, 0 ≤ u → u < n → 0 ≤ v → v < n → bit (nr u) v → bit (nr v) u
def FRN (n fr : Int) : Prop := ∀ w, 0 ≤ w → w < 32 → bit fr w → w < n
def lvp (nr lv : Int → Int) (n fr j : Int) : Prop := ∀ w, 0 ≤ w → w < 32 → bit (lv j) w → bit fr w ∧ (∀ i, 1 ≤ i → i < j → ¬ bit (lv i) w) ∧ ∃ u, 0 ≤ u ∧ u < n ∧ bit (lv (j - 1)) u ∧ bit (nr u) w
def LV1 (nr lv : Int → Int) (n st en fr op tp k : Int) : Prop := 1 ≤ k ∧ lv 0 = en ∧ (∀ j, 1 ≤ j → j < k → lvp nr lv n fr j ∧ ∀ w, 0 ≤ w → w < 32 → bit (lv j) w → ¬ bit op w) ∧ (∀ w, 0 ≤ w → w < 32 → bit op w → bit fr w) ∧ (tp = 0 ∨ (1 ≤ tp ∧ tp = k - 1 ∧ ∃ w, 0 ≤ w ∧ w < 32 ∧ bit (nr st) w ∧ bit (lv tp) w))
theorem lv1_start {nr lv lv' : Int → Int} {n st en fr op tp k p x : Int} (hs : st1 lv lv' p x) (hp : p = 0) (hx : x = en) (ho : op = fr) (ht : tp = 0) (hk : k = 1) : LV1 nr lv' n st en fr op tp k := by
  refine ⟨by omega, by rw [(hs 0 (by omega)).1 (by omega)]; exact hx, fun j a b => by omega, fun w _ _ z => ho ▸ z, Or.inl ht⟩
/-- a new level -/
theorem lv1_new {nr lv lv' : Int → Int} {n st en fr op tp k p x q y r op_zq : Int} (h : LV1 nr lv n st en fr op tp k) (hn : n ≤ 32) (hq : y = lv (k - 1)) (hN : NEF nr n y q) (hx : bvp x = bvp q &&& bvp op) (hs : st1 lv lv' p x) (hp : p = k) (hm1 : bvp r = bvp x ^^^ bvp (-1)) (ho : bvp op_zq = bvp op &&& bvp r) (ht : tp = 0) :
    (∀ w, 0 ≤ w ∧ w < 32 ∧ bit (nr st) w ∧ bit x w → LV1 nr lv' n st en fr op_zq k (k + 1)) ∧ LV1 nr lv' n st en fr op_zq 0 (k + 1) := by
  obtain ⟨h1, h2, h3, h4, h5⟩ := h
  subst hp
  have lk : lv' p = x := (hs p (by omega)).1 rfl
  have lo : ∀ j, 0 ≤ j → j ≠ p → lv' j = lv j := fun j a b => (hs j a).2 b
  have opb : ∀ w, 0 ≤ w → w < 32 → (bit op_zq w ↔ bit op w ∧ ¬ bit x w) := fun w a b => by rw [bit_and ho, bit_xor hm1 rfl a b]
  have base : ∀ j, 1 ≤ j → j < p + 1 → lvp nr lv' n fr j ∧ ∀ w, 0 ≤ w → w < 32 → bit (lv' j) w → ¬ bit op_zq w := fun j a b => by
    by_cases e : j = p
    · subst e
      refine ⟨fun w w0 w1 z => ?_, fun w w0 w1 z c => ?_⟩
      · rw [lk] at z
        have z2 := (bit_and hx w).mp z
        refine ⟨h4 w w0 w1 z2.2, fun i i0 i1 c => ?_, ?_⟩
        · rw [lo i (by omega) (by omega)] at c
          exact (h3 i i0 i1).2 w w0 w1 c z2.2
        · obtain ⟨u, u0, u1, u2, u3⟩ := (hN w w0 w1).mp z2.1
          exact ⟨u, u0, u1, by rw [lo (j - 1) (by omega) (by omega), ← hq]; exact u2, u3⟩
      · rw [lk] at z
        exact ((opb w w0 w1).mp c).2 z
    · obtain ⟨q1, q2⟩ := h3 j a (by omega)
      refine ⟨fun w w0 w1 z => ?_, fun w w0 w1 z c => ?_⟩
      · rw [lo j (by omega) e] at z
        obtain ⟨a1, a2, u, a3⟩ := q1 w w0 w1 z
        refine ⟨a1, fun i i0 i1 c => ?_, u, ?_⟩
        · rw [lo i (by omega) (by omega)] at c; exact a2 i i0 i1 c
        · rw [lo (j - 1) (by omega) (by omega)]; exact a3
      · rw [lo j (by omega) e] at z
        exact q2 w w0 w1 z ((opb w w0 w1).mp c).1
  have b4 : ∀ w, 0 ≤ w → w < 32 → bit op_zq w → bit fr w := fun w w0 w1 z => h4 w w0 w1 ((opb w w0 w1).mp z).1
  refine ⟨fun w ⟨w0, w1, w2, w3⟩ => ⟨by omega, by rw [lo 0 (by omega) (by omega)]; exact h2, base, b4, Or.inr ⟨h1, by omega, w, w0, w1, w2, by rw [lk]; exact w3⟩⟩, ⟨by omega, by rw [lo 0 (by omega) (by omega)]; exact h2, base, b4, Or.inl rfl⟩⟩
/-- the way along the levels -/
def LV2 (nr lv wy : Int → Int) (n st en fr tp k : Int) : Prop := 1 ≤ tp ∧ -1 ≤ k ∧ k ≤ tp ∧ lv 0 = en ∧ (∀ j, 1 ≤ j → j ≤ tp → lvp nr lv n fr j) ∧ wy 0 = st ∧ (∀ j, 1 ≤ j → j ≤ tp - k → 0 ≤ wy j ∧ wy j < 32 ∧ bit (lv (tp + 1 - j)) (wy j)) ∧ (0 ≤ k → ∃ w, 0 ≤ w ∧ w < 32 ∧ bit (nr (wy (tp - k))) w ∧ bit (lv k) w)
theorem lv2_start {nr lv wy wy_zq : Int → Int} {n st en fr op tp k k_zq p x : Int} (h : LV1 nr lv n st en fr op tp k) (ht : tp ≠ 0) (hs : st1 wy wy_zq p x) (hp : p = 0) (hx : x = st) (hk : k_zq = tp) : LV2 nr lv wy_zq n st en fr tp k_zq := by
  obtain ⟨h1, h2, h3, h4, h5⟩ := h
  have e0 : wy_zq 0 = st := by rw [(hs 0 (by omega)).1 (by omega)]; exact hx
  rcases h5 with h5 | ⟨h5, h6, w, w0, w1, w2, w3⟩
  · exact absurd h5 ht
  · refine ⟨h5, by omega, by omega, h2, fun j a b => (h3 j a (by omega)).1, e0, fun j a b => by omega, fun _ => ⟨w, w0, w1, ?_, by rw [hk]; exact w3⟩⟩
    rw [show tp - k_zq = 0 by omega, e0]; exact w2
theorem lv2_pos {nr lv wy : Int → Int} {n st en fr tp k a b : Int} (h : LV2 nr lv wy n st en fr tp k) (k0 : 0 ≤ k) (hb : bvp b = bvp a &&& bvp (lv k)) (ha : a = nr (wy (tp - k))) (a0 : 0 ≤ a) (b0 : 0 ≤ b) : 0 < b := by
  obtain ⟨w, w0, w1, w2, w3⟩ := h.2.2.2.2.2.2.2 k0
  refine Classical.byContradiction fun c => ?_
  have e : b = 0 := by omega
  have := (bit_and hb w).mpr ⟨ha ▸ w2, w3⟩
  rw [e] at this
  exact bit_zero w this
theorem lv2_step {nr lv wy wy_zq : Int → Int} {n st en fr tp k k_zq a b p x : Int} (h : LV2 nr lv wy n st en fr tp k) (hn : n ≤ 25) (hS : SYMN nr n) (hF : FRN n fr) (k0 : 0 ≤ k) (hb : bvp b = bvp a &&& bvp (lv k)) (ha : a = nr (wy (tp - k))) (a0 : 0 ≤ a) (b0 : 0 ≤ b) (b1 : b < 33554432) (hL : LOW b x) (hs : st1 wy wy_zq p x) (hp : p = tp - k + 1) (hk : k_zq = k - 1) : LV2 nr lv wy_zq n st en fr tp k_zq := by
  have bp := lv2_pos h k0 hb ha a0 b0
  obtain ⟨h1, h2, h3, h4, h5, h6, h7, h8⟩ := h
  obtain ⟨x0, x1, x2⟩ := hL bp b1
  have xl : bit (lv k) x := ((bit_and hb x).mp x2).2
  have wp : wy_zq p = x := (hs p (by omega)).1 rfl
  have wo : ∀ j, 0 ≤ j → j ≠ p → wy_zq j = wy j := fun j a b => (hs j a).2 b
  refine ⟨h1, by omega, by omega, h4, h5, by rw [wo 0 (by omega) (by omega)]; exact h6, fun j j0 j1 => ?_, fun k1 => ?_⟩
  · by_cases e : j = p
    · rw [e, wp, hp, show tp + 1 - (tp - k + 1) = k by omega]; exact ⟨x0, by omega, xl⟩
    · rw [wo j (by omega) e]; exact h7 j j0 (by omega)
  · obtain ⟨c1, c2, u, u0, u1, u2, u3⟩ := h5 k (by omega) h3 x x0 (by omega) xl
    have xn := hF x x0 (by omega) c1
    refine ⟨u, u0, by omega, ?_, by rw [hk]; exact u2⟩
    rw [show tp - k_zq = p by omega, wp]
    exact hS u x u0 u1 x0 xn u3
def SHW (wy : Int → Int) (st en fr an : Int) : Prop := an = 0 ∨ (3 ≤ an ∧ wy 0 = st ∧ 0 ≤ wy (an - 1) ∧ wy (an - 1) < 32 ∧ bit en (wy (an - 1)) ∧ (∀ j, 1 ≤ j → j < an - 1 → 0 ≤ wy j ∧ wy j < 32 ∧ bit fr (wy j)) ∧ ∀ i j, 1 ≤ i → i < j → j < an - 1 → wy i ≠ wy j)
theorem shw_of {nr lv wy : Int → Int} {n st en fr tp k an : Int} (h : LV2 nr lv wy n st en fr tp k) (hk : k < 0) (ha : an = tp + 2) : SHW wy st en fr an := by
  obtain ⟨h1, h2, h3, h4, h5, h6, h7, h8⟩ := h
  refine Or.inr ⟨by omega, h6, ?_⟩
  have l := h7 (tp + 1) (by omega) (by omega)
  rw [show tp + 1 - (tp + 1) = 0 by omega, h4] at l
  rw [show an - 1 = tp + 1 by omega]
  refine ⟨l.1, l.2.1, l.2.2, fun j a b => ?_, fun i j a b c e => ?_⟩
  · have q := h7 j a (by omega)
    exact ⟨q.1, q.2.1, (h5 (tp + 1 - j) (by omega) (by omega) _ q.1 q.2.1 q.2.2).1⟩
  · have qi := h7 i a (by omega)
    have qj := h7 j (by omega) (by omega)
    have := (h5 (tp + 1 - i) (by omega) (by omega) _ qi.1 qi.2.1 qi.2.2).2.1 (tp + 1 - j) (by omega) (by omega)
    rw [e] at this
    exact this qj.2.2
theorem lv2_low {nr lv wy : Int → Int} {n st en fr tp k a b x : Int} (h : LV2 nr lv wy n st en fr tp k) (k0 : 0 ≤ k) (hb : bvp b = bvp a &&& bvp (lv k)) (ha : a = nr (wy (tp - k))) (a0 : 0 ≤ a) (b0 : 0 ≤ b) (b1 : b < 33554432) (hL : LOW b x) : 0 ≤ x ∧ x < 25 ∧ bit b x := hL (lv2_pos h k0 hb ha a0 b0) b1
theorem bit_lt24 {x w : Int} (h0 : 0 ≤ x) (h1 : x ≤ 16777215) (w0 : 0 ≤ w) (w1 : w < 25) (h : bit x w) : w < 24 := by
  have := bit_lt (k := 24) h0 (by omega) w0 (by omega) h
  omega
theorem shw_zero {wy : Int → Int} {st en fr an : Int} (h : an = 0) : SHW wy st en fr an := Or.inl h
end
section
/-! labels of blocks: each is the least edge of its class; then they are numbered -/
def BL0 (bl : Int → Int) (e : Int) : Prop := ∀ j, 0 ≤ j → j < e → bl j = j
def BLQ (bl : Int → Int) (m : Int) : Prop := ∀ j, 0 ≤ j → j < m → 0 ≤ bl j ∧ bl j ≤ j
def LBI (bl : Int → Int) (m e c : Int) : Prop := 0 ≤ e ∧ 0 ≤ c ∧ c ≤ e ∧ (∀ j, 0 ≤ j → j < e → 0 ≤ bl j ∧ bl j < c) ∧ (∀ j, e ≤ j → j < m → 0 ≤ bl j ∧ bl j ≤ j) ∧ ∀ b, 0 ≤ b → b < c → ∃ j, 0 ≤ j ∧ j < e ∧ bl j = b
def LBL (bl : Int → Int) (m c : Int) : Prop := (∀ j, 0 ≤ j → j < m → 0 ≤ bl j ∧ bl j < c) ∧ ∀ b, 0 ≤ b → b < c → ∃ j, 0 ≤ j ∧ j < m ∧ bl j = b
theorem bl0_start {bl : Int → Int} {e : Int} (h : e = 0) : BL0 bl e := fun j a b => by omega
theorem bl0_step {bl bl_zq : Int → Int} {e e_zq p x : Int} (h : BL0 bl e) (hs : st1 bl bl_zq p x) (hp : p = e) (hx : x = e) (he : e_zq = e + 1) : BL0 bl_zq e_zq := fun j a b => by
  by_cases c : j = e
  · rw [(hs j a).1 (by omega)]; omega
  · rw [(hs j a).2 (by omega)]; exact h j a (by omega)
theorem blq_start {bl : Int → Int} {e m : Int} (h : BL0 bl e) (he : m ≤ e) : BLQ bl m := fun j a b => by rw [h j a (by omega)]; omega
theorem blq_set {bl bl_zq : Int → Int} {m e g k p x : Int} (h : BLQ bl m) (hs : st1 bl bl_zq p x) (hp : p = e) (hx : x = k) (e0 : 0 ≤ e) (e1 : e < m) (hg : bl e = g) (k0 : 0 ≤ k) (k1 : k ≤ g) : BLQ bl_zq m := fun j a b => by
  by_cases c : j = e
  · have := h e e0 e1
    rw [(hs j a).1 (by omega)]; omega
  · rw [(hs j a).2 (by omega)]; exact h j a b
theorem lbi_start {bl : Int → Int} {m e c : Int} (h : BLQ bl m) (he : e = 0) (hc : c = 0) : LBI bl m e c := ⟨by omega, by omega, by omega, fun j a b => by omega, fun j a b => h j (by omega) b, fun b a c => by omega⟩
theorem lbi_new {bl bl_zq : Int → Int} {m e e_zq c c_zq p x : Int} (h : LBI bl m e c) (hs : st1 bl bl_zq p x) (hp : p = e) (hx : x = c) (he : e_zq = e + 1) (hc : c_zq = c + 1) : LBI bl_zq m e_zq c_zq := by
  obtain ⟨h1, h2, h3, h4, h5, h6⟩ := h
  refine ⟨by omega, by omega, by omega, fun j a b => ?_, fun j a b => ?_, fun b a q => ?_⟩
  · by_cases z : j = e
    · rw [(hs j a).1 (by omega)]; omega
    · rw [(hs j a).2 (by omega)]; have := h4 j a (by omega); omega
  · rw [(hs j (by omega)).2 (by omega)]; exact h5 j (by omega) b
  · by_cases z : b = c
    · exact ⟨e, h1, by omega, by rw [(hs e h1).1 (by omega)]; omega⟩
    · obtain ⟨j, j0, j1, j2⟩ := h6 b a (by omega)
      exact ⟨j, j0, by omega, by rw [(hs j j0).2 (by omega)]; exact j2⟩
theorem lbi_old {bl bl_zq : Int → Int} {m e e_zq c p x r : Int} (h : LBI bl m e c) (e1 : e < m) (hs : st1 bl bl_zq p x) (hp : p = e) (hr : r = bl e) (hx : x = bl r) (hne : r ≠ e) (he : e_zq = e + 1) : LBI bl_zq m e_zq c := by
  obtain ⟨h1, h2, h3, h4, h5, h6⟩ := h
  have hr2 := h5 e (Int.le_refl _) e1
  have hx2 := h4 r (by omega) (by omega)
  refine ⟨by omega, by omega, by omega, fun j a b => ?_, fun j a b => ?_, fun b a q => ?_⟩
  · by_cases z : j = e
    · rw [(hs j a).1 (by omega)]; omega
    · rw [(hs j a).2 (by omega)]; exact h4 j a (by omega)
  · rw [(hs j (by omega)).2 (by omega)]; exact h5 j (by omega) b
  · obtain ⟨j, j0, j1, j2⟩ := h6 b a q
    exact ⟨j, j0, by omega, by rw [(hs j j0).2 (by omega)]; exact j2⟩
theorem lbl_of {bl : Int → Int} {m e c an : Int} (h : LBI bl m e c) (he : m ≤ e) (m0 : 0 ≤ m) (hem : e ≤ m) (ha : an = c) : LBL bl m an := by
  have : e = m := by omega
  subst this ha
  exact ⟨h.2.2.2.1, h.2.2.2.2.2⟩
end
section
/-! the class's matrix: nodes in rows, each once -/
def FWJ (s f l v : Int) : Prop := ((∀ u, 0 ≤ u → u < v → ¬ bit s u) ∧ l = 1000000000) ∨ (bit s f ∧ 0 ≤ f ∧ f < v)
def FWN (n s an : Int) : Prop := (∃ u, 0 ≤ u ∧ u < n ∧ bit s u) → bit s an ∧ 0 ≤ an ∧ an < n
theorem fwj_start {s f l v : Int} (hl : l = 1000000000) (hv : v = 0) : FWJ s f l v := Or.inl ⟨fun u a b => by omega, hl⟩
theorem fwj_skip {s f l v v_zq : Int} (h : FWJ s f l v) (hb : ¬ bit s v ∨ l ≤ 63) (hv : v_zq = v + 1) : FWJ s f l v_zq := by
  rcases h with ⟨h1, h2⟩ | ⟨h1, h2, h3⟩
  · rcases hb with hb | hb
    · refine Or.inl ⟨fun u a b => ?_, h2⟩
      by_cases e : u = v
      · rw [e]; exact hb
      · exact h1 u a (by omega)
    · omega
  · exact Or.inr ⟨h1, h2, by omega⟩
theorem fwj_take {s f l v v_zq f_zq l_zq : Int} (hb : bit s v) (v0 : 0 ≤ v) (hf : f_zq = v) (hv : v_zq = v + 1) : FWJ s f_zq l_zq v_zq := Or.inr ⟨hf ▸ hb, by omega, by omega⟩
theorem fwn_of {n s f l v an : Int} (h : FWJ s f l v) (hv : n ≤ v) (hvn : v ≤ n) (e : an = f) : FWN n s an := fun ⟨u, u0, u1, u2⟩ => by
  rcases h with ⟨h1, _⟩ | ⟨h1, h2, h3⟩
  · exact absurd u2 (h1 u u0 (by omega))
  · rw [e]; exact ⟨h1, h2, by omega⟩
def MX2 (od : Int → Int) (n ms nx en : Int) : Prop := 0 ≤ en ∧ 0 ≤ n ∧ n ≤ 24 ∧ (∀ i, 0 ≤ i → i < en → 0 ≤ od i ∧ od i < n ∧ ¬ bit ms (od i) ∧ ¬ bit nx (od i)) ∧ (∀ i j, 0 ≤ i → i < j → j < en → od i ≠ od j) ∧ (∀ v, 0 ≤ v → v < n → bit ms v ∨ bit nx v ∨ ∃ i, 0 ≤ i ∧ i < en ∧ od i = v) ∧ (∀ w, 0 ≤ w → w < 32 → (bit ms w → w < n ∧ ¬ bit nx w) ∧ (bit nx w → w < n))
def MX1 (od : Int → Int) (n ms en : Int) : Prop := MX2 od n ms 0 en
theorem mx_few {od : Int → Int} {n ms nx en : Int} (h : MX2 od n ms nx en) : en ≤ n := by
  obtain ⟨h1, h2, h3, h4, h5, _⟩ := h
  have := inj_le (n := n) (f := fun i => od i) (N := en.toNat) h2 (fun i hi => ⟨(h4 i (by omega) (by omega)).1, (h4 i (by omega) (by omega)).2.1⟩) (fun i j ij hj => h5 i j (by omega) (by omega) (by omega))
  omega
theorem mx1_start {od : Int → Int} {n ms en p one two : Int} (hp : bvp p = bvp one <<< n.toNat) (h1 : one = 1) (hm : ms = p - two) (h2 : two = 1) (n0 : 0 ≤ n) (n1 : n ≤ 24) (p0 : -2147483648 ≤ p) (p1 : p ≤ 2147483647) (he : en = 0) : MX1 od n ms en := by
  have hx : (bvp p).toInt = p := by unfold bvp; rw [BitVec.toInt_ofInt]; unfold Int.bmod; simp only; split <;> omega
  have ep : p = (2 : Int) ^ n.toNat := by
    have : ∀ k : Nat, k < 25 → (bvp 1 <<< k).toInt = (2 : Int) ^ k := by decide +kernel
    rw [← hx, hp, h1]; exact this n.toNat (by omega)
  have bm : ∀ w, 0 ≤ w → w < 32 → (bit ms w ↔ w < n) := fun w w0 w1 => by
    have e : ms = (2 : Int) ^ n.toNat - 1 := by omega
    have : ∀ k : Nat, k < 25 → ∀ j : Nat, j < 32 → ((bvp ((2 : Int) ^ k - 1)).getLsbD j = true ↔ j < k) := by decide +kernel
    have q := this n.toNat (by omega) w.toNat (by omega)
    unfold bit
    rw [e, q]; omega
  refine ⟨by omega, n0, n1, fun i a b => by omega, fun i j a b c => by omega, fun v a b => Or.inl ((bm v a (by omega)).mpr b), fun w a b => ⟨fun z => ⟨(bm w a b).mp z, bit_zero w⟩, fun z => absurd z (bit_zero w)⟩⟩
/-- one node taken off a set -/
theorem mx_take {od od_zq : Int → Int} {n ms nx nx_zq en en_zq x p y q r : Int} (h : MX2 od n ms nx en) (hx : bit nx x) (x0 : 0 ≤ x) (x1 : x < n) (hs : st1 od od_zq p y) (hp : p = en) (hy : y = x) (hq : ∀ w, 0 ≤ w → w < 32 → (bit q w ↔ w = x)) (hr : ∀ w, 0 ≤ w → w < 32 → (bit r w ↔ ¬ bit q w)) (hn : bvp nx_zq = bvp nx &&& bvp r) (he : en_zq = en + 1) : MX2 od_zq n ms nx_zq en_zq := by
  obtain ⟨h1, h2, h3, h4, h5, h6, h7⟩ := h
  subst hp hy
  have nb : ∀ w, 0 ≤ w → w < 32 → (bit nx_zq w ↔ bit nx w ∧ w ≠ y) := fun w a b => by rw [bit_and hn, hr w a b, hq w a b]
  have oT : od_zq p = y := (hs p h1).1 rfl
  have oN : ∀ i, 0 ≤ i → i ≠ p → od_zq i = od i := fun i a b => (hs i a).2 b
  refine ⟨by omega, h2, h3, fun i a b => ?_, fun i j a b c => ?_, fun v a b => ?_, fun w a b => ?_⟩
  · by_cases e : i = p
    · rw [e, oT]
      exact ⟨x0, x1, fun z => ((h7 y x0 (by omega)).1 z).2 hx, fun z => ((nb y x0 (by omega)).mp z).2 rfl⟩
    · rw [oN i a e]
      obtain ⟨c1, c2, c3, c4⟩ := h4 i a (by omega)
      exact ⟨c1, c2, c3, fun z => c4 ((nb _ c1 (by omega)).mp z).1⟩
  · by_cases e : j = p
    · rw [e, oT, oN i a (by omega)]
      intro z
      exact (h4 i a (by omega)).2.2.2 (z ▸ hx)
    · rw [oN i a (by omega), oN j (by omega) e]; exact h5 i j a b (by omega)
  · rcases h6 v a b with c | c | ⟨i, c1, c2, c3⟩
    · exact Or.inl c
    · by_cases e : v = y
      · exact Or.inr (Or.inr ⟨p, h1, by omega, by rw [oT, e]⟩)
      · exact Or.inr (Or.inl ((nb v a (by omega)).mpr ⟨c, e⟩))
    · exact Or.inr (Or.inr ⟨i, c1, by omega, by rw [oN i c1 (by omega)]; exact c3⟩)
  · exact ⟨fun z => ⟨((h7 w a b).1 z).1, fun c => ((h7 w a b).1 z).2 ((nb w a b).mp c).1⟩, fun z => (h7 w a b).2 ((nb w a b).mp z).1⟩
theorem mx_swap {od : Int → Int} {n ms en : Int} (h : MX1 od n ms en) : MX2 od n 0 ms en := by
  obtain ⟨h1, h2, h3, h4, h5, h6, h7⟩ := h
  refine ⟨h1, h2, h3, fun i a b => ?_, h5, fun v a b => ?_, fun w a b => ⟨fun z => absurd z (bit_zero w), fun z => ((h7 w a b).1 z).1⟩⟩
  · obtain ⟨c1, c2, c3, c4⟩ := h4 i a b; exact ⟨c1, c2, bit_zero _, c3⟩
  · rcases h6 v a b with c | c | c
    · exact Or.inr (Or.inl c)
    · exact absurd c (bit_zero v)
    · exact Or.inr (Or.inr c)
theorem mx_swap2 {od : Int → Int} {n ms en : Int} (h : MX2 od n 0 ms en) : MX1 od n ms en := by
  obtain ⟨h1, h2, h3, h4, h5, h6, h7⟩ := h
  refine ⟨h1, h2, h3, fun i a b => ?_, h5, fun v a b => ?_, fun w a b => ⟨fun z => ⟨(h7 w a b).2 z, bit_zero w⟩, fun z => absurd z (bit_zero w)⟩⟩
  · obtain ⟨c1, c2, c3, c4⟩ := h4 i a b; exact ⟨c1, c2, c4, bit_zero _⟩
  · rcases h6 v a b with c | c | c
    · exact absurd c (bit_zero v)
    · exact Or.inl c
    · exact Or.inr (Or.inr c)
theorem mx1_some {od : Int → Int} {n ms en : Int} (h : MX1 od n ms en) (he : en < n) : ∃ u, 0 ≤ u ∧ u < n ∧ bit ms u := by
  refine Classical.byContradiction fun c => ?_
  obtain ⟨h1, h2, h3, h4, h5, h6, h7⟩ := h
  have hc : ∀ v : Nat, ∃ i : Int, (v : Int) < n → 0 ≤ i ∧ i < en ∧ od i = v := fun v => by
    by_cases hv : (v : Int) < n
    · rcases h6 v (by omega) hv with q | q | ⟨i, q⟩
      · exact absurd ⟨v, by omega, hv, q⟩ c
      · exact absurd q (bit_zero _)
      · exact ⟨i, fun _ => q⟩
    · exact ⟨0, fun z => absurd z hv⟩
  have := inj_le (n := en) (f := fun v => Classical.choose (hc v)) (N := n.toNat) h1 (fun v hv => by
    have := Classical.choose_spec (hc v) (by omega)
    exact ⟨this.1, this.2.1⟩) (fun u v uv hv e => by
    have a := Classical.choose_spec (hc u) (by omega)
    have b := Classical.choose_spec (hc v) (by omega)
    have e_zq : Classical.choose (hc u) = Classical.choose (hc v) := e
    rw [e_zq, b.2.2] at a
    omega)
  omega
/-- a set parted in two -/
theorem mx_part {od : Int → Int} {n ms nr nx ms_zq r en : Int} (h : MX1 od n ms en) (hn : bvp nx = bvp nr &&& bvp ms) (hr : bvp r = bvp nx ^^^ bvp (-1)) (hm : bvp ms_zq = bvp ms &&& bvp r) : MX2 od n ms_zq nx en := by
  obtain ⟨h1, h2, h3, h4, h5, h6, h7⟩ := h
  have nb : ∀ w, bit nx w ↔ bit nr w ∧ bit ms w := fun w => bit_and hn w
  have mb : ∀ w, 0 ≤ w → w < 32 → (bit ms_zq w ↔ bit ms w ∧ ¬ bit nx w) := fun w a b => by rw [bit_and hm, bit_xor hr rfl a b]
  refine ⟨h1, h2, h3, fun i a b => ?_, h5, fun v a b => ?_, fun w a b => ⟨fun z => ?_, fun z => ((h7 w a b).1 ((nb w).mp z).2).1⟩⟩
  · obtain ⟨c1, c2, c3, c4⟩ := h4 i a b
    exact ⟨c1, c2, fun z => c3 ((mb _ c1 (by omega)).mp z).1, fun z => c3 ((nb _).mp z).2⟩
  · rcases h6 v a b with c | c | c
    · by_cases q : bit nx v
      · exact Or.inr (Or.inl q)
      · exact Or.inl ((mb v a (by omega)).mpr ⟨c, q⟩)
    · exact absurd c (bit_zero v)
    · exact Or.inr (Or.inr c)
  · exact ⟨((h7 w a b).1 ((mb w a b).mp z).1).1, ((mb w a b).mp z).2⟩
theorem mx_done {od : Int → Int} {n ms nx en : Int} (h : MX2 od n ms nx en) (hn : nx = 0) : MX1 od n ms en := by subst hn; exact h
theorem mx_some2 {od : Int → Int} {n ms nx en : Int} (h : MX2 od n ms nx en) (x0 : 0 ≤ nx) (x1 : nx < 4294967296) (hx : nx ≠ 0) : ∃ u, 0 ≤ u ∧ u < n ∧ bit nx u := by
  obtain ⟨w, w0, w1, w2⟩ := bit_ex (x := nx) (by omega) x1
  exact ⟨w, w0, (h.2.2.2.2.2.2 w w0 w1).2 w2, w2⟩
theorem mx_lt {od : Int → Int} {n ms nx en : Int} (h : MX2 od n ms nx en) (hx : ∃ u, 0 ≤ u ∧ u < n ∧ bit nx u) : en < n := by
  obtain ⟨h1, h2, h3, h4, h5, _⟩ := h
  obtain ⟨u, u0, u1, u2⟩ := hx
  obtain ⟨f, fT, fN⟩ : ∃ f : Nat → Int, f en.toNat = u ∧ ∀ i, i ≠ en.toNat → f i = od i := ⟨fun i => if i = en.toNat then u else od i, if_pos rfl, fun i e => if_neg e⟩
  have := inj_le (n := n) (f := f) (N := en.toNat + 1) h2 (fun i hi => by
    by_cases e : i = en.toNat
    · rw [e, fT]; exact ⟨u0, u1⟩
    · rw [fN i e]; exact ⟨(h4 i (by omega) (by omega)).1, (h4 i (by omega) (by omega)).2.1⟩) (fun i j ij hj => by
    have ei : i ≠ en.toNat := by omega
    rw [fN i ei]
    by_cases e : j = en.toNat
    · rw [e, fT]
      intro z
      exact (h4 i (by omega) (by omega)).2.2.2 (z ▸ u2)
    · rw [fN j e]; exact h5 i j (by omega) (by omega) (by omega))
  omega
theorem mx_take2 {od od_zq : Int → Int} {n nn ms nx nx_zq en en_zq x p y q r one b m1 : Int} (h : MX2 od n ms nx en) (hx : ∃ u, 0 ≤ u ∧ u < n ∧ bit nx u) (hF : FWN nn nx x) (enn : nn = n) (hs : st1 od od_zq p y) (hp : p = en) (hy : y = x) (hb : bvp q = bvp one <<< b.toNat) (h1 : one = 1) (eb : b = od_zq en) (hr : bvp r = bvp q ^^^ bvp m1) (hm : m1 = -1) (hn : bvp nx_zq = bvp nx &&& bvp r) (he : en_zq = en + 1) : MX2 od_zq n ms nx_zq en_zq := by
  subst enn
  obtain ⟨f1, f2, f3⟩ := hF hx
  have e0 := h.1
  have ebx : b = x := by rw [eb, (hs en e0).1 hp.symm, hy]
  exact mx_take h f1 f2 f3 hs hp hy (fun w a c => by rw [bit_shl hb h1 (by omega) a c, ebx]) (fun w a c => bit_xor hr hm a c) hn he
theorem mx1_take {od od_zq : Int → Int} {n nn ms ms_zq en en_zq x p y q r one b m1 : Int} (h : MX1 od n ms en) (he : en < n) (hF : FWN nn ms x) (enn : nn = n) (hs : st1 od od_zq p y) (hp : p = en) (hy : y = x) (hb : bvp q = bvp one <<< b.toNat) (h1 : one = 1) (eb : b = od_zq en) (hr : bvp r = bvp q ^^^ bvp m1) (hm : m1 = -1) (hn : bvp ms_zq = bvp ms &&& bvp r) (hen : en_zq = en + 1) : MX1 od_zq n ms_zq en_zq :=
  mx_swap2 (mx_take2 (mx_swap h) (mx1_some h he) hF enn hs hp hy hb h1 eb hr hm hn hen)
theorem mx_part2 {od : Int → Int} {n ms nr nx ms_zq r en m1 : Int} (h : MX1 od n ms en) (hn : bvp nx = bvp nr &&& bvp ms) (hr : bvp r = bvp nx ^^^ bvp m1) (h1 : m1 = -1) (hm : bvp ms_zq = bvp ms &&& bvp r) : MX2 od n ms_zq nx en := by subst h1; exact mx_part h hn hr hm
end
