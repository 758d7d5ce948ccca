/-! exactOrders: what weigh and weighed make, exactly -/
theorem sm_swap {f : Int → Int → Int} {n : Int} : ∀ m, 0 ≤ m → sm (fun i => sm (fun j => f i j) n) m = sm (fun j => sm (fun i => f i j) m) n := by
  refine sm_ind ?_ ?_
  · rw [sm_zero (by omega), sm_nil (fun j _ _ => sm_zero (by omega))]
  · intro m m0 ih
    rw [sm_succ m0 rfl, ih]
    exact (sm_add2 (fun j _ _ => sm_succ m0 rfl)).symm
/-- v stands behind w in the order that begins at b -/
def gtb (pp : Int → Int) (b n v w : Int) : Prop := ∃ k j, 0 ≤ j ∧ j < k ∧ k < n ∧ pp (b + k) = v ∧ pp (b + j) = w
def wcd (pp il la lb ls : Int → Int) (l b n a c x : Int) : Prop := il (la a) = l ∧ il (la c) = l ∧ gtb pp b n (ls (la a)) (ls (la c)) ∧ x = 6 * ls (lb a) + ls (lb c)
noncomputable def wi (pp il la lb ls : Int → Int) (l b n a c x : Int) : Int := @ite Int (wcd pp il la lb ls l b n a c x) (Classical.propDecidable _) 1 0
theorem wi_yes {pp il la lb ls : Int → Int} {l b n a c x : Int} (h : wcd pp il la lb ls l b n a c x) : wi pp il la lb ls l b n a c x = 1 := by unfold wi; rw [if_pos h]
theorem wi_no {pp il la lb ls : Int → Int} {l b n a c x : Int} (h : ¬ wcd pp il la lb ls l b n a c x) : wi pp il la lb ls l b n a c x = 0 := by unfold wi; rw [if_neg h]
theorem wi_01 {pp il la lb ls : Int → Int} {l b n a c x : Int} : 0 ≤ wi pp il la lb ls l b n a c x ∧ wi pp il la lb ls l b n a c x ≤ 1 := by
  by_cases h : wcd pp il la lb ls l b n a c x
  · rw [wi_yes h]; omega
  · rw [wi_no h]; omega
noncomputable def wra (li : Int) (pp il la lb ls : Int → Int) (l b n x a : Int) : Int := sm (fun c => wi pp il la lb ls l b n a c x) li
noncomputable def wf (li : Int) (pp il la lb ls : Int → Int) (l b n x : Int) : Int := sm (wra li pp il la lb ls l b n x) li
theorem wra_bd {li : Int} {pp il la lb ls : Int → Int} {l b n x a : Int} (l0 : 0 ≤ li) : 0 ≤ wra li pp il la lb ls l b n x a ∧ wra li pp il la lb ls l b n x a ≤ li := by
  have := smrg (f := fun c => wi pp il la lb ls l b n a c x) (lo := 0) (hi := 1) l0 (fun c _ _ => wi_01)
  unfold wra; omega
theorem wf_bd {li : Int} {pp il la lb ls : Int → Int} {l b n x : Int} (l0 : 0 ≤ li) (l1 : li ≤ 130) : 0 ≤ wf li pp il la lb ls l b n x ∧ wf li pp il la lb ls l b n x ≤ 16900 := by
  have := smrg (f := wra li pp il la lb ls l b n x) (lo := 0) (hi := 130) l0 (fun a _ _ => by have := wra_bd (pp := pp) (il := il) (la := la) (lb := lb) (ls := ls) (l := l) (b := b) (n := n) (x := x) (a := a) l0; omega)
  unfold wf; omega
def WZ0 (wo : Int → Int) (i : Int) : Prop := ∀ x, 0 ≤ x → x < i → wo x = 0
theorem wz0_step {F F' : Int → Int} {i i' p v : Int} (h : WZ0 F i) (hi : i' = i + 1) (hs : st1 F F' p v) (hp : p = i) (hv : v = 0) : WZ0 F' i' := by
  intro x a b
  by_cases e : x = p
  · rw [(hs x a).1 e, hv]
  · rw [(hs x a).2 e]; exact h x a (by omega)
/-- the order turned round -/
def IOK (pb pp io : Int → Int) (n p k : Int) : Prop := ∀ j, 0 ≤ j → j < k → io (pp (pb n + n * p + j)) = j
theorem iok_step {pb pm pp io io' : Int → Int} {n p k k' b c d x y v : Int} (hT : PTB pb pm pp) (h : IOK pb pp io n p k) (n0 : 0 ≤ n) (n6 : n ≤ 6) (p0 : 0 ≤ p) (p1 : p < pm n) (k0 : 0 ≤ k) (k1 : k < n) (hk : k' = k + 1) (hb : b = pb n) (hc : c = n * p) (hd : d = b + c) (hx : x = d + k) (hy : y = pp x) (hs : st1 io io' y v) (hv : v = k) : IOK pb pp io' n p k' := by
  have ex : x = pb n + n * p + k := by rw [hx, hd, hb, hc]
  obtain ⟨⟨t1, t2, t3, t4, t5⟩, t6⟩ := hT n n0 n6
  have e1 : n * (p + 1) ≤ n * pm n := Int.mul_le_mul_of_nonneg_left (by omega) n0
  rw [Int.mul_add, Int.mul_one] at e1
  have e2 := Int.mul_nonneg n0 p0
  have pv : ∀ j, 0 ≤ j → j < n → 0 ≤ pp (pb n + n * p + j) := fun j a b => by
    have := (t5 (n * p + j) (by omega) (by omega)).1
    rwa [show pb n + (n * p + j) = pb n + n * p + j by omega] at this
  intro j a b
  by_cases e : j = k
  · rw [(hs _ (pv j a (by omega))).1 (by rw [hy, ex, e]), hv, e]
  · rw [(hs _ (pv j a (by omega))).2 (by rw [hy, ex]; exact t6 p j k p0 p1 a (by omega) k1)]
    exact h j a (by omega)
def IOF (pb pp io ls : Int → Int) (l p : Int) : Prop := IOK pb pp io (ls l) p (ls l)
theorem iof_gt {pb pm pp io : Int → Int} {n p v w : Int} (hT : PTB pb pm pp) (h : IOK pb pp io n p n) (n0 : 0 ≤ n) (n6 : n ≤ 6) (p0 : 0 ≤ p) (p1 : p < pm n) (v0 : 0 ≤ v) (v1 : v < n) (w0 : 0 ≤ w) (w1 : w < n) : io v > io w ↔ gtb pp (pb n + n * p) n v w := by
  obtain ⟨⟨t1, t2, t3, t4, t5⟩, t6⟩ := hT n n0 n6
  have e1 : n * (p + 1) ≤ n * pm n := Int.mul_le_mul_of_nonneg_left (by omega) n0
  rw [Int.mul_add, Int.mul_one] at e1
  have e2 := Int.mul_nonneg n0 p0
  have pv : ∀ j, 0 ≤ j → j < n → 0 ≤ pp (pb n + n * p + j) ∧ pp (pb n + n * p + j) < n := fun j a b => by
    have := t5 (n * p + j) (by omega) (by omega)
    rwa [show pb n + (n * p + j) = pb n + n * p + j by omega] at this
  obtain ⟨i, i0, i1, i2⟩ := inj_sur (f := fun j => pp (pb n + n * p + j)) pv (fun i j a b c => t6 p i j p0 p1 a b c) v0 v1
  obtain ⟨j, j0, j1, j2⟩ := inj_sur (f := fun j => pp (pb n + n * p + j)) pv (fun i j a b c => t6 p i j p0 p1 a b c) w0 w1
  (try simp only [] at i2 j2)
  have qi := h i i0 i1
  have qj := h j j0 j1
  rw [i2] at qi
  rw [j2] at qj
  rw [qi, qj]
  constructor
  · intro g; exact ⟨i, j, j0, by omega, i1, i2, j2⟩
  · intro g
    obtain ⟨k, m, m0, mk, k1, k2, m2⟩ := g
    have a := h k (by omega) k1
    have b := h m m0 (by omega)
    rw [k2, qi] at a
    rw [m2, qj] at b
    omega
/-- listed places -/
def LSG (it lm li : Int) (il ls la lb ld : Int → Int) : Prop := (∀ l, 0 ≤ l → l < lm → 0 ≤ ls l ∧ ls l ≤ 6) ∧ (0 ≤ li ∧ li ≤ 120) ∧ ∀ p, 0 ≤ p → p < li → (0 ≤ il (la p) ∧ il (la p) < lm) ∧ (0 ≤ ld (la p) ∧ ld (la p) < ls (il (la p))) ∧ 0 ≤ ld (lb p) ∧ ld (lb p) ≤ 5
def WG1 (li : Int) (ls pb pp il la lb ld wo : Int → Int) (l p a : Int) : Prop := ∀ x, 0 ≤ x → x < 36 → wo x = sm (wra li pp il la lb ld l (pb (ls l) + ls l * p) (ls l) x) a
def WG2 (li : Int) (ls pb pp il la lb ld wo : Int → Int) (l p a c : Int) : Prop := ∀ x, 0 ≤ x → x < 36 → wo x = sm (wra li pp il la lb ld l (pb (ls l) + ls l * p) (ls l) x) a + sm (fun c => wi pp il la lb ld l (pb (ls l) + ls l * p) (ls l) a c x) c
def WGH (li : Int) (ls pb pp il la lb ld wo : Int → Int) (l p : Int) : Prop := ∀ x, 0 ≤ x → x < 36 → wo x = wf li pp il la lb ld l (pb (ls l) + ls l * p) (ls l) x
theorem wg1_start {li : Int} {ls pb pp il la lb ld wo : Int → Int} {l p a i : Int} (h : WZ0 wo i) (hi : 36 ≤ i) (ha : a = 0) : WG1 li ls pb pp il la lb ld wo l p a := fun x x0 x1 => by rw [h x x0 (by omega), sm_zero (by omega)]
theorem wg1_skip {li : Int} {ls pb pp il la lb ld wo : Int → Int} {l p a a' u v : Int} (h : WG1 li ls pb pp il la lb ld wo l p a) (a0 : 0 ≤ a) (ha : a' = a + 1) (hu : u = la a) (hv : v = il u) (ne : v ≠ l) : WG1 li ls pb pp il la lb ld wo l p a' := fun x x0 x1 => by
  rw [h x x0 x1, sm_succ a0 ha]
  have : wra li pp il la lb ld l (pb (ls l) + ls l * p) (ls l) x a = 0 := sm_nil (fun c _ _ => wi_no (fun w => ne (by rw [hv, hu]; exact w.1)))
  omega
theorem wg2_start {li : Int} {ls pb pp il la lb ld wo : Int → Int} {l p a c : Int} (h : WG1 li ls pb pp il la lb ld wo l p a) (hc : c = 0) : WG2 li ls pb pp il la lb ld wo l p a c := fun x x0 x1 => by rw [h x x0 x1, sm_zero (n := c) (by omega)]; omega
theorem wg2_end {li : Int} {ls pb pp il la lb ld wo : Int → Int} {l p a a' c : Int} (h : WG2 li ls pb pp il la lb ld wo l p a c) (a0 : 0 ≤ a) (ha : a' = a + 1) (hc : c = li) : WG1 li ls pb pp il la lb ld wo l p a' := fun x x0 x1 => by
  rw [h x x0 x1, sm_succ a0 ha, hc]; rfl
theorem wg2_skip {li : Int} {ls pb pp il la lb ld wo : Int → Int} {l p a c c' : Int} (h : WG2 li ls pb pp il la lb ld wo l p a c) (c0 : 0 ≤ c) (hc : c' = c + 1) (hn : ∀ x, ¬ wcd pp il la lb ld l (pb (ls l) + ls l * p) (ls l) a c x) : WG2 li ls pb pp il la lb ld wo l p a c' := fun x x0 x1 => by
  rw [h x x0 x1, sm_succ c0 hc, wi_no (hn x)]; omega
theorem wg2_take {li : Int} {ls pb pp il la lb ld wo wo' : Int → Int} {l p a c c' q o v : Int} (h : WG2 li ls pb pp il la lb ld wo l p a c) (c0 : 0 ≤ c) (hc : c' = c + 1) (hn : wcd pp il la lb ld l (pb (ls l) + ls l * p) (ls l) a c q) (q0 : 0 ≤ q) (q1 : q < 36) (ho : o = wo q) (hv : v = o + 1) (hs : st1 wo wo' q v) : WG2 li ls pb pp il la lb ld wo' l p a c' := fun x x0 x1 => by
  rw [sm_succ c0 hc]
  by_cases e : x = q
  · subst e
    rw [(hs x x0).1 rfl, wi_yes hn, hv, ho, h x x0 x1]; omega
  · rw [(hs x x0).2 e, h x x0 x1, wi_no (fun w => e (by rw [w.2.2.2]; exact hn.2.2.2.symm))]; omega
theorem wg2_bd {li : Int} {ls pb pp il la lb ld wo : Int → Int} {l p a c q : Int} (h : WG2 li ls pb pp il la lb ld wo l p a c) (l0 : 0 ≤ li) (l1 : li ≤ 120) (a0 : 0 ≤ a) (a1 : a < li) (c0 : 0 ≤ c) (c1 : c < li) (q0 : 0 ≤ q) (q1 : q < 36) : 0 ≤ wo q ∧ wo q ≤ 14399 := by
  rw [h q q0 q1]
  have s1 := smrg (f := wra li pp il la lb ld l (pb (ls l) + ls l * p) (ls l) q) (lo := 0) (hi := 120) a0 (fun a _ _ => by have := wra_bd (pp := pp) (il := il) (la := la) (lb := lb) (ls := ld) (l := l) (b := pb (ls l) + ls l * p) (n := ls l) (x := q) (a := a) l0; omega)
  have s2 := smrg (f := fun c => wi pp il la lb ld l (pb (ls l) + ls l * p) (ls l) a c q) (lo := 0) (hi := 1) c0 (fun c _ _ => wi_01)
  omega
theorem wgh_of {li : Int} {ls pb pp il la lb ld wo : Int → Int} {l p a : Int} (h : WG1 li ls pb pp il la lb ld wo l p a) (ha : a = li) : WGH li ls pb pp il la lb ld wo l p := fun x x0 x1 => by rw [h x x0 x1, ha]; rfl
/-! weighed -/
noncomputable def wdr (pp wo : Int → Int) (b i j : Int) : Int := sm (fun j => if i < j then wo (6 * pp (b + i) + pp (b + j)) else 0) j
noncomputable def wdf (pp wo : Int → Int) (b m i : Int) : Int := sm (fun i => wdr pp wo b i m) i
noncomputable def wdt (pb pp wo : Int → Int) (m q : Int) : Int := wdf pp wo (pb m + m * q) m m
def WD1 (pp wo : Int → Int) (b m i s : Int) : Prop := s = wdf pp wo b m i
def WD2 (pp wo : Int → Int) (b m i j s : Int) : Prop := s = wdf pp wo b m i + wdr pp wo b i j
def WDT (pb pp wo : Int → Int) (m q s : Int) : Prop := s = wdt pb pp wo m q
theorem wd1_start {pp wo : Int → Int} {b m i s : Int} (hi : i = 0) (hs : s = 0) : WD1 pp wo b m i s := by unfold WD1 wdf; rw [sm_zero (by omega)]; exact hs
theorem wd2_start {pp wo : Int → Int} {b m i j s : Int} (h : WD1 pp wo b m i s) (i0 : 0 ≤ i) (hj : j = i + 1) : WD2 pp wo b m i j s := by
  have : wdr pp wo b i j = 0 := sm_nil (fun k _ c => by (try simp only []); rw [if_neg (by omega)])
  unfold WD2; rw [this]; unfold WD1 at h; omega
theorem wd2_step {pp wo : Int → Int} {b m i j j' s s' x y p q r t o : Int} (h : WD2 pp wo b m i j s) (j0 : i < j) (i0 : 0 ≤ i) (hj : j' = j + 1) (hp : p = b + i) (hx : x = pp p) (hr : r = 6 * x) (hq : q = b + j) (hy : y = pp q) (ht : t = r + y) (ho : o = wo t) (hs : s' = s + o) : WD2 pp wo b m i j' s' := by
  have e : o = wo (6 * pp (b + i) + pp (b + j)) := by rw [ho, ht, hr, hx, hy, hp, hq]
  unfold WD2 at h ⊢
  unfold wdr at h ⊢
  rw [sm_succ (by omega) hj, if_pos j0, ← e]; omega
theorem wd2_end {pp wo : Int → Int} {b m i i' j s : Int} (h : WD2 pp wo b m i j s) (i0 : 0 ≤ i) (hi : i' = i + 1) (hj : j = m ∨ (m ≤ j ∧ j = i + 1)) (im : i < m) : WD1 pp wo b m i' s := by
  have e : j = m := by omega
  subst e
  unfold WD1 wdf
  rw [sm_succ i0 hi]; exact h
theorem wdt_of {pb pp wo : Int → Int} {b m i s q c d : Int} (h : WD1 pp wo b m i s) (hi : i = m) (hc : c = pb m) (hd : d = m * q) (hb : b = c + d) : WDT pb pp wo m q s := by
  unfold WDT wdt
  rw [← hc, ← hd, ← hb]; unfold WD1 at h; rw [h, hi]
/-! how large a weight may be -/
theorem sm_single {f : Int → Int} {n i : Int} (i0 : 0 ≤ i) (i1 : i < n) (h : ∀ j, 0 ≤ j → j < n → j ≠ i → f j = 0) : sm f n = f i := by
  have h1 := sm_pt (f := fun _ => 0) (g := f) i0 i1 (fun j a b c => h j a b c)
  rw [sm_nil (f := fun _ => 0) (fun _ _ _ => rfl)] at h1
  (try simp only [] at h1)
  omega
theorem one2 {w : Int → Int → Int} {m : Int} (h : ∀ i j, 0 ≤ w i j ∧ w i j ≤ 1) (h2 : ∀ i j i' j', 0 ≤ i → i < m → 0 ≤ j → j < m → 0 ≤ i' → i' < m → 0 ≤ j' → j' < m → w i j ≠ 0 → w i' j' ≠ 0 → i = i' ∧ j = j') : sm (fun i => sm (fun j => w i j) m) m ≤ 1 := by
  by_cases z : ∃ i j, 0 ≤ i ∧ i < m ∧ 0 ≤ j ∧ j < m ∧ w i j ≠ 0
  · obtain ⟨i, j, i0, i1, j0, j1, ne⟩ := z
    rw [sm_single i0 i1 (fun i' a b c => sm_nil (fun j' d e => by
      refine Classical.byContradiction (fun q => ?_)
      exact c (h2 i' j' i j a b d e i0 i1 j0 j1 q ne).1))]
    rw [sm_single j0 j1 (fun j' a b c => by
      refine Classical.byContradiction (fun q => ?_)
      exact c (h2 i j' i j i0 i1 a b i0 i1 j0 j1 q ne).2)]
    exact (h i j).2
  · rw [sm_nil (fun i a b => sm_nil (fun j c d => by
      refine Classical.byContradiction (fun q => ?_)
      exact z ⟨i, j, a, b, c, d, q⟩))]; omega
theorem wdt_bd {li : Int} {pb pm pp il la lb ld : Int → Int} {l b n m q : Int} (hT : PTB pb pm pp) (l0 : 0 ≤ li) (l1 : li ≤ 120) (m0 : 0 ≤ m) (m6 : m ≤ 6) (q0 : 0 ≤ q) (q1 : q < pm m) : 0 ≤ wdt pb pp (fun x => wf li pp il la lb ld l b n x) m q ∧ wdt pb pp (fun x => wf li pp il la lb ld l b n x) m q ≤ 14400 := by
  obtain ⟨⟨t1, t2, t3, t4, t5⟩, t6⟩ := hT m m0 m6
  have e1 : m * (q + 1) ≤ m * pm m := Int.mul_le_mul_of_nonneg_left (by omega) m0
  rw [Int.mul_add, Int.mul_one] at e1
  have e2 := Int.mul_nonneg m0 q0
  have pv : ∀ j, 0 ≤ j → j < m → 0 ≤ pp (pb m + m * q + j) ∧ pp (pb m + m * q + j) < m := fun j a b => by
    have := t5 (m * q + j) (by omega) (by omega)
    rwa [show pb m + (m * q + j) = pb m + m * q + j by omega] at this
  have pd : ∀ i j, 0 ≤ i → i < m → 0 ≤ j → j < m → pp (pb m + m * q + i) = pp (pb m + m * q + j) → i = j := fun i j a b c d e => by
    by_cases z : i < j
    · exact absurd e (t6 q i j q0 q1 a z d)
    · by_cases y : j < i
      · exact absurd e.symm (t6 q j i q0 q1 c y b)
      · omega
  generalize hB : pb m + m * q = B at *
  -- all four sums outside
  have S : wdt pb pp (fun x => wf li pp il la lb ld l b n x) m q = sm (fun a => sm (fun c => sm (fun i => sm (fun j => if i < j then wi pp il la lb ld l b n a c (6 * pp (B + i) + pp (B + j)) else 0) m) m) li) li := by
    unfold wdt wdf wdr
    rw [hB]
    have r1 : ∀ i j : Int, (if i < j then wf li pp il la lb ld l b n (6 * pp (B + i) + pp (B + j)) else 0) = sm (fun a => sm (fun c => if i < j then wi pp il la lb ld l b n a c (6 * pp (B + i) + pp (B + j)) else 0) li) li := fun i j => by
      by_cases z : i < j
      · rw [if_pos z]; unfold wf wra
        exact sm_congr (fun a _ _ => sm_congr (fun c _ _ => by rw [if_pos z]))
      · rw [if_neg z]
        exact (sm_nil (fun a _ _ => sm_nil (fun c _ _ => by rw [if_neg z]))).symm
    have r2 : ∀ i : Int, sm (fun j => if i < j then wf li pp il la lb ld l b n (6 * pp (B + i) + pp (B + j)) else 0) m = sm (fun a => sm (fun c => sm (fun j => if i < j then wi pp il la lb ld l b n a c (6 * pp (B + i) + pp (B + j)) else 0) m) li) li := fun i => by
      rw [sm_congr (fun j _ _ => r1 i j), sm_swap m m0]
      exact sm_congr (fun a _ _ => sm_swap m m0)
    rw [sm_congr (fun i _ _ => r2 i), sm_swap m m0]
    exact sm_congr (fun a _ _ => sm_swap m m0)
  have G : ∀ a c : Int, 0 ≤ sm (fun i => sm (fun j => if i < j then wi pp il la lb ld l b n a c (6 * pp (B + i) + pp (B + j)) else 0) m) m ∧ sm (fun i => sm (fun j => if i < j then wi pp il la lb ld l b n a c (6 * pp (B + i) + pp (B + j)) else 0) m) m ≤ 1 := fun a c => by
    have w1 : ∀ i j : Int, 0 ≤ (if i < j then wi pp il la lb ld l b n a c (6 * pp (B + i) + pp (B + j)) else 0) ∧ (if i < j then wi pp il la lb ld l b n a c (6 * pp (B + i) + pp (B + j)) else 0) ≤ 1 := fun i j => by
      split
      · exact wi_01
      · omega
    refine ⟨sm_nn (fun i _ _ => sm_nn (fun j _ _ => (w1 i j).1)), one2 w1 (fun i j i' j' i0 i1 j0 j1 i0' i1' j0' j1' h h' => ?_)⟩
    have g : ∀ i j : Int, (if i < j then wi pp il la lb ld l b n a c (6 * pp (B + i) + pp (B + j)) else 0) ≠ 0 → 6 * pp (B + i) + pp (B + j) = 6 * ld (lb a) + ld (lb c) := fun i j h => by
      by_cases z : i < j
      · rw [if_pos z] at h
        refine Classical.byContradiction (fun q => h (wi_no (fun w => q w.2.2.2)))
      · rw [if_neg z] at h; exact absurd rfl h
    have g1 := g i j h
    have g2 := g i' j' h'
    have b1 := pv i i0 i1
    have b2 := pv j j0 j1
    have b3 := pv i' i0' i1'
    have b4 := pv j' j0' j1'
    exact ⟨pd i i' i0 i1 i0' i1' (by omega), pd j j' j0 j1 j0' j1' (by omega)⟩
  rw [S]
  have s1 : ∀ a, 0 ≤ a → a < li → 0 ≤ sm (fun c => sm (fun i => sm (fun j => if i < j then wi pp il la lb ld l b n a c (6 * pp (B + i) + pp (B + j)) else 0) m) m) li ∧ sm (fun c => sm (fun i => sm (fun j => if i < j then wi pp il la lb ld l b n a c (6 * pp (B + i) + pp (B + j)) else 0) m) m) li ≤ 120 := fun a _ _ => by
    have := smrg (f := fun c => sm (fun i => sm (fun j => if i < j then wi pp il la lb ld l b n a c (6 * pp (B + i) + pp (B + j)) else 0) m) m) (lo := 0) (hi := 1) l0 (fun c _ _ => G a c)
    omega
  have := smrg (lo := 0) (hi := 120) l0 s1
  omega
theorem wdt_congr {pb pm pp f g : Int → Int} {m q : Int} (hT : PTB pb pm pp) (m0 : 0 ≤ m) (m6 : m ≤ 6) (q0 : 0 ≤ q) (q1 : q < pm m) (h : ∀ x, 0 ≤ x → x < 36 → f x = g x) : wdt pb pp f m q = wdt pb pp g m q := by
  obtain ⟨⟨t1, t2, t3, t4, t5⟩, t6⟩ := hT m m0 m6
  have e1 : m * (q + 1) ≤ m * pm m := Int.mul_le_mul_of_nonneg_left (by omega) m0
  rw [Int.mul_add, Int.mul_one] at e1
  have e2 := Int.mul_nonneg m0 q0
  have pv : ∀ j, 0 ≤ j → j < m → 0 ≤ pp (pb m + m * q + j) ∧ pp (pb m + m * q + j) < m := fun j a b => by
    have := t5 (m * q + j) (by omega) (by omega)
    rwa [show pb m + (m * q + j) = pb m + m * q + j by omega] at this
  unfold wdt wdf wdr
  refine sm_congr (fun i a b => sm_congr (fun j c d => ?_))
  have b1 := pv i a b
  have b2 := pv j c d
  (try simp only [])
  by_cases z : i < j
  · rw [if_pos z, if_pos z]; exact h _ (by omega) (by omega)
  · rw [if_neg z, if_neg z]
