/-! exactOrders: the sums that are left -/
noncomputable def WW (li : Int) (ls pb pp il la lb ld : Int → Int) (l p q : Int) : Int := wdt pb pp (fun x => wf li pp il la lb ld l (pb (ls l) + ls l * p) (ls l) x) (ls (l + 1)) q
def ent (lm li : Int) (ls pb pm pp il la lb ld re : Int → Int) (l p : Int) : Prop := (0 ≤ re (720 * l + p) ∧ re (720 * l + p) ≤ 14400 * (lm - 1 - l)) ∧ (l + 1 < lm → ∃ q, 0 ≤ q ∧ q < pm (ls (l + 1)) ∧ re (720 * l + p) = re (720 * (l + 1) + q) + WW li ls pb pp il la lb ld l p q)
def RSV (lm li : Int) (ls pb pm pp il la lb ld re : Int → Int) (l0 : Int) : Prop := ∀ l, l0 ≤ l → 0 ≤ l → l < lm → ∀ p, 0 ≤ p → p < pm (ls l) → ent lm li ls pb pm pp il la lb ld re l p
/-- orders from a layer on are summed up, and in the layer before it those below p -/
def RSL (lm li : Int) (ls pb pm pp il la lb ld re : Int → Int) (l : Int) : Prop := RSV lm li ls pb pm pp il la lb ld re (l + 1)
def RSP (lm li : Int) (ls pb pm pp il la lb ld re : Int → Int) (l p : Int) : Prop := RSV lm li ls pb pm pp il la lb ld re (l + 1) ∧ ∀ k, 0 ≤ k → k < p → ent lm li ls pb pm pp il la lb ld re l k
def RZ0 (re : Int → Int) (t p : Int) : Prop := ∀ k, 0 ≤ k → k < p → re (720 * t + k) = 0
theorem rz0_step {re re' : Int → Int} {t p p' q v a : Int} (h : RZ0 re t p) (t0 : 0 ≤ t) (p0 : 0 ≤ p) (hp : p' = p + 1) (hs : st1 re re' q v) (ha : a = 720 * t) (hq : q = a + p) (hv : v = 0) : RZ0 re' t p' := by
  intro k x y
  by_cases e : k = p
  · rw [(hs _ (by omega)).1 (by omega)]; exact hv
  · rw [(hs _ (by omega)).2 (by omega)]; exact h k x (by omega)
/-- every size has at most 720 orders -/
def SZ6 (lm : Int) (ls pb pm pp : Int → Int) : Prop := PTB pb pm pp ∧ ∀ l, 0 ≤ l → l < lm → 0 ≤ ls l ∧ ls l ≤ 6
theorem sz_pm {lm l : Int} {ls pb pm pp : Int → Int} (h : SZ6 lm ls pb pm pp) (l0 : 0 ≤ l) (l1 : l < lm) : (0 ≤ ls l ∧ ls l ≤ 6) ∧ 1 ≤ pm (ls l) ∧ pm (ls l) ≤ 720 := by
  have s := h.2 l l0 l1
  have := h.1 _ s.1 s.2
  exact ⟨s, this.1.2.1, this.1.2.2.1⟩
theorem rsl_start {lm li : Int} {ls pb pm pp il la lb ld re : Int → Int} {l t p : Int} (hz : SZ6 lm ls pb pm pp) (h : RZ0 re t p) (hp : 720 ≤ p) (ht : t = lm - 1) (hl : l = t - 1) : RSL lm li ls pb pm pp il la lb ld re l := by
  intro m a m0 b k k0 k1
  have e : m = t := by omega
  have s := sz_pm hz m0 b
  rw [e] at k1 s ⊢
  rw [e] at m0
  refine ⟨?_, fun z => by omega⟩
  rw [h k k0 (by omega)]; omega
theorem rsp_start {lm li : Int} {ls pb pm pp il la lb ld re : Int → Int} {l p : Int} (h : RSL lm li ls pb pm pp il la lb ld re l) (hp : p = 0) : RSP lm li ls pb pm pp il la lb ld re l p := ⟨h, fun k a b => by omega⟩
theorem rsp_end {lm li : Int} {ls pb pm pp il la lb ld re : Int → Int} {l l' p : Int} (h : RSP lm li ls pb pm pp il la lb ld re l p) (hp : pm (ls l) ≤ p) (hl : l' = l - 1) : RSL lm li ls pb pm pp il la lb ld re l' := by
  intro m a m0 b k k0 k1
  by_cases e : m = l
  · subst e; exact h.2 k k0 (by omega)
  · exact h.1 m (by omega) m0 b k k0 k1
/-- the least so far -/
def LQS (li : Int) (ls pb pp il la lb ld re : Int → Int) (l p q s : Int) : Prop := (q = 0 ∧ s = 1000000) ∨ ∃ k, 0 ≤ k ∧ k < q ∧ s = re (720 * (l + 1) + k) + WW li ls pb pp il la lb ld l p k
theorem ww_bd {lm li l p q : Int} {ls pb pm pp il la lb ld : Int → Int} (hz : SZ6 lm ls pb pm pp) (hl : 0 ≤ li ∧ li ≤ 120) (l0 : 0 ≤ l) (l1 : l + 1 < lm) (q0 : 0 ≤ q) (q1 : q < pm (ls (l + 1))) : 0 ≤ WW li ls pb pp il la lb ld l p q ∧ WW li ls pb pp il la lb ld l p q ≤ 14400 := by
  have s := sz_pm hz (l := l + 1) (by omega) l1
  exact wdt_bd hz.1 hl.1 hl.2 s.1.1 s.1.2 q0 q1
theorem ww_is {lm li l p q m s : Int} {ls pb pm pp il la lb ld wo : Int → Int} (hz : SZ6 lm ls pb pm pp) (hW : WGH li ls pb pp il la lb ld wo l p) (hd : WDT pb pp wo m q s) (hm : m = ls (l + 1)) (l0 : 0 ≤ l) (l1 : l + 1 < lm) (q0 : 0 ≤ q) (q1 : q < pm m) : s = WW li ls pb pp il la lb ld l p q := by
  have z := sz_pm hz (l := l + 1) (by omega) l1
  rw [hm] at q1 hd
  unfold WDT at hd
  rw [hd]
  exact wdt_congr hz.1 z.1.1 z.1.2 q0 q1 hW
theorem lqs_bd {lm li l p q s : Int} {ls pb pm pp il la lb ld re : Int → Int} (hz : SZ6 lm ls pb pm pp) (hl : 0 ≤ li ∧ li ≤ 120) (hR : RSL lm li ls pb pm pp il la lb ld re l) (h : LQS li ls pb pp il la lb ld re l p q s) (l0 : 0 ≤ l) (l1 : l + 1 < lm) (hq : q ≤ pm (ls (l + 1))) : (q = 0 → s = 1000000) ∧ (0 < q → 0 ≤ s ∧ s ≤ 14400 * (lm - 1 - l)) := by
  rcases h with ⟨h1, h2⟩ | ⟨k, k0, k1, k2⟩
  · exact ⟨fun _ => h2, fun z => by omega⟩
  · refine ⟨fun z => by omega, fun _ => ?_⟩
    have e := (hR (l + 1) (by omega) (by omega) l1 k k0 (by omega)).1
    have w := ww_bd (p := p) (il := il) (la := la) (lb := lb) (ld := ld) hz hl l0 l1 k0 (show k < pm (ls (l + 1)) by omega)
    omega
theorem lqs_keep {li l p q q' s : Int} {ls pb pp il la lb ld re : Int → Int} (h : LQS li ls pb pp il la lb ld re l p q s) (hq : q' = q + 1) (q1 : q ≠ 0) : LQS li ls pb pp il la lb ld re l p q' s := by
  rcases h with ⟨h1, h2⟩ | ⟨k, k0, k1, k2⟩
  · omega
  · exact Or.inr ⟨k, k0, by omega, k2⟩
theorem lqs_take {li l p q q' s v w : Int} {ls pb pp il la lb ld re : Int → Int} (q0 : 0 ≤ q) (hq : q' = q + 1) (hv : v = re (720 * (l + 1) + q)) (hw : w = WW li ls pb pp il la lb ld l p q) (hs : s = v + w) : LQS li ls pb pp il la lb ld re l p q' s := Or.inr ⟨q, q0, by omega, by rw [hs, hv, hw]⟩
theorem ent_keep {lm li l p : Int} {ls pb pm pp il la lb ld re re' : Int → Int} (h : ent lm li ls pb pm pp il la lb ld re l p) (e1 : re' (720 * l + p) = re (720 * l + p)) (e2 : ∀ q, 0 ≤ q → q < pm (ls (l + 1)) → re' (720 * (l + 1) + q) = re (720 * (l + 1) + q)) : ent lm li ls pb pm pp il la lb ld re' l p := by
  refine ⟨by rw [e1]; exact h.1, fun z => ?_⟩
  obtain ⟨q, q0, q1, q2⟩ := h.2 z
  exact ⟨q, q0, q1, by rw [e1, e2 q q0 q1]; exact q2⟩
theorem rsp_step {lm li l p p' q s a x v : Int} {ls pb pm pp il la lb ld re re' : Int → Int} (hz : SZ6 lm ls pb pm pp) (hl : 0 ≤ li ∧ li ≤ 120) (h : RSP lm li ls pb pm pp il la lb ld re l p) (hL : LQS li ls pb pp il la lb ld re l p q s) (l0 : 0 ≤ l) (l1 : l + 1 < lm) (p0 : 0 ≤ p) (p1 : p < pm (ls l)) (hq : q = pm (ls (l + 1))) (hp : p' = p + 1) (ha : a = 720 * l) (hx : x = a + p) (hv : v = s) (hs : st1 re re' x v) : RSP lm li ls pb pm pp il la lb ld re' l p' := by
  have z1 := sz_pm hz l0 (by omega)
  have z2 := sz_pm hz (l := l + 1) (by omega) l1
  have b := (lqs_bd hz hl h.1 hL l0 l1 (by omega)).2 (by omega)
  have up : ∀ m q, l + 1 ≤ m → 0 ≤ q → re' (720 * m + q) = re (720 * m + q) := fun m q c d => (hs _ (by omega)).2 (by omega)
  refine ⟨fun m c m0 m1 k k0 k1 => ?_, fun k k0 k1 => ?_⟩
  · exact ent_keep (h.1 m c m0 m1 k k0 k1) (up m k (by omega) k0) (fun q d _ => up (m + 1) q (by omega) d)
  · by_cases e : k = p
    · subst e
      have ev : re' (720 * l + k) = s := by rw [(hs _ (by omega)).1 (by omega), hv]
      refine ⟨by rw [ev]; exact b, fun _ => ?_⟩
      rcases hL with ⟨h1, h2⟩ | ⟨j, j0, j1, j2⟩
      · omega
      · exact ⟨j, j0, by omega, by rw [ev, up (l + 1) j (by omega) j0]; exact j2⟩
    · exact ent_keep (h.2 k k0 (by omega)) ((hs _ (by omega)).2 (by omega)) (fun q d _ => up (l + 1) q (by omega) d)
/-- the way back -/
def SRC (lm li : Int) (ls pb pm pp il la lb ld re : Int → Int) (l p q : Int) : Prop := ∃ k, q ≤ k ∧ k < pm (ls (l + 1)) ∧ re (720 * l + p) = re (720 * (l + 1) + k) + WW li ls pb pp il la lb ld l p k
theorem src_start {lm li l p q : Int} {ls pb pm pp il la lb ld re : Int → Int} (h : RSV lm li ls pb pm pp il la lb ld re 0) (l0 : 0 ≤ l) (l1 : l + 1 < lm) (p0 : 0 ≤ p) (p1 : p < pm (ls l)) (hq : q = 0) : SRC lm li ls pb pm pp il la lb ld re l p q := by
  obtain ⟨k, k0, k1, k2⟩ := (h l l0 l0 (by omega) p p0 p1).2 l1
  exact ⟨k, by omega, k1, k2⟩
theorem src_next {lm li l p q q' v w t u m x y : Int} {ls pb pm pp il la lb ld re wo : Int → Int} (hz : SZ6 lm ls pb pm pp) (hW : WGH li ls pb pp il la lb ld wo l p) (h : SRC lm li ls pb pm pp il la lb ld re l p q) (l0 : 0 ≤ l) (l1 : l + 1 < lm) (q0 : 0 ≤ q) (hm : m = ls (l + 1)) (hd : WDT pb pp wo m q w) (hx : x = 720 * (l + 1) + q) (hv : v = re x) (ht : t = v + w) (hy : y = 720 * l + p) (hu : u = re y) (ne : t ≠ u) (hq : q' = q + 1) : SRC lm li ls pb pm pp il la lb ld re l p q' := by
  obtain ⟨k, k0, k1, k2⟩ := h
  by_cases e : k = q
  · exfalso
    subst e
    have := ww_is hz hW hd hm l0 l1 q0 (by rw [hm]; exact k1)
    exact ne (by rw [ht, hv, hu, hx, hy, this, k2])
  · exact ⟨k, by omega, k1, k2⟩
def LDP (il ls ld : Int → Int) (i : Int) : Prop := ∀ j, 0 ≤ j → j < i → 0 ≤ ld j ∧ ld j < ls (il j)
theorem ldp_step {il ls lt ld ld' : Int → Int} {i i' q v : Int} (h : LDP il ls ld i) (hi : i' = i + 1) (hs : st1 ld ld' q v) (hq : q = i) (hp : PLF il ls lt i v) : LDP il ls ld' i' := by
  intro j a b
  by_cases e : j = i
  · rw [(hs j a).1 (by omega), e]; exact hp.1
  · rw [(hs j a).2 (by omega)]; exact h j a (by omega)
theorem lsg_of {r it lm li i : Int} {A tu il fj la lb ls lt ld : Int → Int} (hA : LSA r it lm li A tu il fj la lb) (hB : LSB it lm il ls lt) (h6 : ISY lm ls) (h : LDP il ls ld i) (hi : it ≤ i) : LSG it lm li il ls la lb ld := by
  refine ⟨fun l a b => ⟨(hB.2 l a b).1.1, h6 l a b⟩, by have := hA.2.1; omega, fun p a b => ?_⟩
  have w := lsa_ln hA a b
  have d1 := h (la p) w.1.1 (by omega)
  have d2 := h (lb p) w.2.1.1 (by omega)
  have i1 := hA.2.2.1 (la p) w.1.1 w.1.2
  have i2 := hA.2.2.1 (lb p) w.2.1.1 w.2.1.2
  have := h6 _ i2.1 i2.2
  exact ⟨i1, d1, by omega, by omega⟩
theorem sz6_of {it lm li : Int} {il ls la lb ld pb pm pp : Int → Int} (h : LSG it lm li il ls la lb ld) (hT : PTB pb pm pp) : SZ6 lm ls pb pm pp := ⟨hT, h.1⟩
def RS0 (lm li : Int) (ls pb pm pp il la lb ld re : Int → Int) : Prop := RSV lm li ls pb pm pp il la lb ld re 0
def WZF (wo : Int → Int) : Prop := WZ0 wo 36
def WBG (pb : Int → Int) (m q b : Int) : Prop := b = pb m + m * q
def FNP (lm : Int) (ls pm : Int → Int) (l p : Int) : Prop := (0 ≤ l ∧ l ≤ lm ∧ 0 ≤ p ∧ p ≤ 719) ∧ (l < lm → p < pm (ls l))
def P00 (ls pm : Int → Int) (p : Int) : Prop := 0 ≤ p ∧ p < pm (ls 0)
theorem wcd_no1 {pp il la lb ld : Int → Int} {l b n a c u v : Int} (hu : u = la c) (hv : v = il u) (ne : v ≠ l) (x : Int) : ¬ wcd pp il la lb ld l b n a c x := fun w => ne (by rw [hv, hu]; exact w.2.1)
theorem lsg_v {it lm li l p u v : Int} {il ls la lb ld : Int → Int} (h : LSG it lm li il ls la lb ld) (p0 : 0 ≤ p) (p1 : p < li) (hl : il (la p) = l) (hu : u = la p) (hv : v = ld u) : 0 ≤ v ∧ v < ls l := by
  have w := (h.2.2 p p0 p1).2.1
  rw [hl] at w
  rw [hv, hu]; exact w
theorem lsg_w {it lm li p u v : Int} {il ls la lb ld : Int → Int} (h : LSG it lm li il ls la lb ld) (p0 : 0 ≤ p) (p1 : p < li) (hu : u = lb p) (hv : v = ld u) : 0 ≤ v ∧ v ≤ 5 := by
  have w := (h.2.2 p p0 p1).2.2
  rw [hv, hu]; exact w
/-- the branch that weigh takes -/
theorem wgt_iff {it lm li l p n a c u v x w y z : Int} {il ls la lb ld pb pm pp io : Int → Int} (hG : LSG it lm li il ls la lb ld) (hT : PTB pb pm pp) (hI : IOF pb pp io ls l p) (hn : n = ls l) (n0 : 0 ≤ n) (n6 : n ≤ 6) (p0 : 0 ≤ p) (p1 : p < pm n) (a0 : 0 ≤ a) (a1 : a < li) (c0 : 0 ≤ c) (c1 : c < li) (ha : il (la a) = l) (hc : il (la c) = l) (hu : u = la a) (hv : v = ld u) (hx : x = io v) (hw : w = la c) (hy : y = ld w) (hz : z = io y) : z < x ↔ gtb pp (pb (ls l) + ls l * p) (ls l) (ld (la a)) (ld (la c)) := by
  have e1 := lsg_v hG a0 a1 ha hu hv
  have e2 := lsg_v hG c0 c1 hc hw hy
  have := iof_gt (v := v) (w := y) hT (show IOK pb pp io (ls l) p (ls l) from hI) (by omega) (by omega) p0 (by rw [← hn]; exact p1) e1.1 e1.2 e2.1 e2.2
  rw [hx, hz]
  rw [hv, hu, hy, hw] at this
  rw [hv, hu, hy, hw]
  exact this
theorem rest_bd {lm li l q : Int} {ls pb pm pp il la lb ld re : Int → Int} (h : RSL lm li ls pb pm pp il la lb ld re l) (l0 : 0 ≤ l) (l1 : l + 1 < lm) (l24 : lm ≤ 24) (q0 : 0 ≤ q) (q1 : q < pm (ls (l + 1))) : 0 ≤ re (720 * (l + 1) + q) ∧ re (720 * (l + 1) + q) ≤ 331200 := by
  have := (h (l + 1) (by omega) (by omega) l1 q q0 q1).1
  omega
theorem lqs_skip {lm li l p q q' s v x m : Int} {ls pb pm pp il la lb ld re : Int → Int} (hR : RSL lm li ls pb pm pp il la lb ld re l) (h : LQS li ls pb pp il la lb ld re l p q s) (l0 : 0 ≤ l) (l1 : l + 1 < lm) (l24 : lm ≤ 24) (hm : m = ls (l + 1)) (q0 : 0 ≤ q) (q1 : q < pm m) (hx : x = 720 * (l + 1) + q) (hv : v = re x) (le : s ≤ v) (hq : q' = q + 1) : LQS li ls pb pp il la lb ld re l p q' s := by
  rw [hm] at q1
  have b := rest_bd hR l0 l1 l24 q0 q1
  rw [← hx, ← hv] at b
  refine lqs_keep h hq (fun z => ?_)
  rcases h with ⟨h1, h2⟩ | ⟨k, k0, k1, k2⟩
  · omega
  · omega
theorem lqs_min {lm li l p q q' s s' v x m w t : Int} {ls pb pm pp il la lb ld re wo : Int → Int} (hz : SZ6 lm ls pb pm pp) (hl : 0 ≤ li ∧ li ≤ 120) (hR : RSL lm li ls pb pm pp il la lb ld re l) (h : LQS li ls pb pp il la lb ld re l p q s) (hW : WGH li ls pb pp il la lb ld wo l p) (hd : WDT pb pp wo m q w) (l0 : 0 ≤ l) (l1 : l + 1 < lm) (l24 : lm ≤ 24) (hm : m = ls (l + 1)) (q0 : 0 ≤ q) (q1 : q < pm m) (hx : x = 720 * (l + 1) + q) (hv : v = re x) (ht : t = v + w) (hs : (s' = s ∧ s ≤ t) ∨ (s' = t ∧ t ≤ s)) (hq : q' = q + 1) : LQS li ls pb pp il la lb ld re l p q' s' := by
  have ew := ww_is hz hW hd hm l0 l1 q0 q1
  rw [hm] at q1
  have b := rest_bd hR l0 l1 l24 q0 q1
  have bw := ww_bd (p := p) (il := il) (la := la) (lb := lb) (ld := ld) hz hl l0 l1 q0 q1
  rcases hs with ⟨e, le⟩ | ⟨e, le⟩
  · rw [e]
    refine lqs_keep h hq (fun z => ?_)
    rw [← hx, ← hv] at b
    rcases h with ⟨h1, h2⟩ | ⟨k, k0, k1, k2⟩ <;> omega
  · exact lqs_take (v := v) q0 hq (by rw [hv, hx]) ew (by rw [e, ht])
