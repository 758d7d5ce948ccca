/-! places, arrangements, across -/
def PLF (il ls lt : Int → Int) (x k : Int) : Prop := (0 ≤ k ∧ k < ls (il x)) ∧ lt (76 * il x + k) = x
def PLG (il lt : Int → Int) (x l k : Int) : Prop := l = il x ∧ ∀ j, 0 ≤ j → j < k → lt (76 * l + j) ≠ x
theorem plg_zero {il lt : Int → Int} {x l k : Int} (hl : l = il x) (hk : k = 0) : PLG il lt x l k := ⟨hl, fun j a b => by omega⟩
theorem plg_next {il lt : Int → Int} {x l k k' v q : Int} (h : PLG il lt x l k) (hk : k' = k + 1) (hq : q = 76 * l + k) (hv : v = lt q) (ne : v ≠ x) : PLG il lt x l k' := by
  refine ⟨h.1, fun j a b => ?_⟩
  by_cases e : j = k
  · rw [e, ← hq, ← hv]; exact ne
  · exact h.2 j a (by omega)
theorem plg_bd {r it lm li x l k : Int} {A tu il fj la lb ls lt : Int → Int} (hA : LSA r it lm li A tu il fj la lb) (hB : LSB it lm il ls lt) (h : PLG il lt x l k) (x0 : 0 ≤ x) (x1 : x < it) (k0 : 0 ≤ k) : (0 ≤ l ∧ l ≤ 23 ∧ l < lm) ∧ k < ls l ∧ ls l ≤ 72 := by
  have b := hA.2.2.1 x x0 x1
  have b2 := hA.2.1
  have y := hB.2 l (by rw [h.1]; exact b.1) (by rw [h.1]; exact b.2)
  obtain ⟨j, j0, j1, j2⟩ := y.2.2.2 x x0 x1 h.1.symm
  refine ⟨by rw [h.1]; omega, ?_, by have := y.1; have := hB.1; omega⟩
  refine Classical.byContradiction (fun z => h.2 j j0 (by omega) j2)
theorem lsa_ln {r it lm li p : Int} {A tu il fj la lb : Int → Int} (h : LSA r it lm li A tu il fj la lb) (p0 : 0 ≤ p) (p1 : p < li) : (0 ≤ la p ∧ la p < it) ∧ (0 ≤ lb p ∧ lb p < it) ∧ il (lb p) = il (la p) + 1 := by
  have := h.2.2.2.1 p p0 p1
  exact ⟨this.1, this.2.1, this.2.2.1⟩
/-- rows that hold a layer's items -/
def rowl (it : Int) (il ro : Int → Int) (n l : Int) : Prop := (∀ k, 0 ≤ k → k < n → (0 ≤ ro k ∧ ro k < it) ∧ il (ro k) = l) ∧ (∀ j k, 0 ≤ j → j < k → k < n → ro j ≠ ro k) ∧ ∀ i, 0 ≤ i → i < it → il i = l → ∃ k, 0 ≤ k ∧ k < n ∧ ro k = i
def BM1 (lt ro : Int → Int) (l k : Int) : Prop := ∀ j, 0 ≤ j → j < k → ro j = lt (76 * l + j)
def BMR (it : Int) (il ro : Int → Int) (n l : Int) : Prop := rowl it il ro n l
theorem bm1_step {lt ro ro' : Int → Int} {l k k' q v p : Int} (h : BM1 lt ro l k) (hk : k' = k + 1) (hs : st1 ro ro' q v) (hq : q = k) (hp : p = 76 * l + k) (hv : v = lt p) : BM1 lt ro' l k' := by
  intro j a b
  by_cases e : j = k
  · rw [(hs j a).1 (by omega), hv, hp, e]
  · rw [(hs j a).2 (by omega)]; exact h j a (by omega)
theorem bmr_start {it lm n l k : Int} {il ls lt ro : Int → Int} (hB : LSB it lm il ls lt) (h : BM1 lt ro l k) (l0 : 0 ≤ l) (l1 : l < lm) (hn : n = ls l) (hk : n ≤ k) : BMR it il ro n l := by
  obtain ⟨h1, h2, h3, h4⟩ := hB.2 l l0 l1
  subst hn
  refine ⟨fun j a b => by rw [h j a (by omega)]; exact h2 j a b, fun j m a b c => by rw [h j a (by omega), h m (by omega) (by omega)]; exact h3 j m a b c, fun i a b c => ?_⟩
  obtain ⟨j, j0, j1, j2⟩ := h4 i a b c
  exact ⟨j, j0, j1, by rw [h j j0 (by omega)]; exact j2⟩
theorem bmr_swp {it n l a b : Int} {il ro ro' : Int → Int} (h : BMR it il ro n l) (a0 : 0 ≤ a) (a1 : a < n) (b0 : 0 ≤ b) (b1 : b < n) (ab : a ≠ b) (hs : swp ro ro' a b) : BMR it il ro' n l := by
  obtain ⟨h1, h2, h3⟩ := h
  have dis : ∀ j k, 0 ≤ j → j < n → 0 ≤ k → k < n → j ≠ k → ro j ≠ ro k := fun j k j0 j1 k0 k1 e => by
    by_cases z : j < k
    · exact h2 j k j0 z k1
    · exact fun w => h2 k j k0 (by omega) j1 w.symm
  have val : ∀ j, 0 ≤ j → j < n → ∃ j', 0 ≤ j' ∧ j' < n ∧ ro' j = ro j' ∧ ((j = a ∧ j' = b) ∨ (j = b ∧ j' = a) ∨ (j ≠ a ∧ j ≠ b ∧ j' = j)) := fun j j0 j1 => by
    by_cases x : j = a
    · exact ⟨b, b0, b1, by rw [x]; exact hs.1, Or.inl ⟨x, rfl⟩⟩
    · by_cases y : j = b
      · exact ⟨a, a0, a1, by rw [y]; exact hs.2.1, Or.inr (Or.inl ⟨y, rfl⟩)⟩
      · exact ⟨j, j0, j1, hs.2.2 j j0 x y, Or.inr (Or.inr ⟨x, y, rfl⟩)⟩
  refine ⟨fun k k0 k1 => ?_, fun j k j0 jk k1 => ?_, fun i i0 i1 i2 => ?_⟩
  · obtain ⟨k', p, q, e, _⟩ := val k k0 k1
    rw [e]; exact h1 k' p q
  · obtain ⟨j', p, q, e, c⟩ := val j j0 (by omega)
    obtain ⟨k', p', q', e', c'⟩ := val k (by omega) k1
    rw [e, e']; exact dis j' k' p q p' q' (by omega)
  · obtain ⟨k, k0, k1, k2⟩ := h3 i i0 i1 i2
    by_cases x : k = a
    · exact ⟨b, b0, b1, by rw [hs.2.1, ← x]; exact k2⟩
    · by_cases y : k = b
      · exact ⟨a, a0, a1, by rw [hs.1, ← y]; exact k2⟩
      · exact ⟨k, k0, k1, by rw [hs.2.2 k k0 x y]; exact k2⟩
/-- the row goes back into its layer -/
def BMW (it lm : Int) (il ls lt ro : Int → Int) (n l k : Int) : Prop := BMR it il ro n l ∧ (0 ≤ l ∧ l < lm ∧ 0 ≤ k ∧ n = ls l) ∧ ∃ t0, LSB it lm il ls t0 ∧ (∀ j, 0 ≤ j → j < k → lt (76 * l + j) = ro j) ∧ ∀ q, 0 ≤ q → ¬ (76 * l ≤ q ∧ q < 76 * l + k) → lt q = t0 q
theorem bmw_start {it lm n l k : Int} {il ls lt ro : Int → Int} (hB : LSB it lm il ls lt) (h : BMR it il ro n l) (l0 : 0 ≤ l) (l1 : l < lm) (hn : n = ls l) (hk : k = 0) : BMW it lm il ls lt ro n l k := ⟨h, by omega, lt, hB, fun j a b => by omega, fun _ _ _ => rfl⟩
theorem bmw_step {it lm n l k k' q v : Int} {il ls lt lt' ro : Int → Int} (h : BMW it lm il ls lt ro n l k) (hk : k' = k + 1) (hs : st1 lt lt' q v) (hq : q = 76 * l + k) (hv : v = ro k) : BMW it lm il ls lt' ro n l k' := by
  obtain ⟨h1, h2, t0, h3, h4, h5⟩ := h
  refine ⟨h1, by omega, t0, h3, fun j a b => ?_, fun x a b => by rw [(hs x a).2 (by omega)]; exact h5 x a (by omega)⟩
  by_cases e : j = k
  · rw [(hs _ (by omega)).1 (by omega), hv, e]
  · rw [(hs _ (by omega)).2 (by omega)]; exact h4 j a (by omega)
theorem bmw_end {it lm n l k : Int} {il ls lt ro : Int → Int} (h : BMW it lm il ls lt ro n l k) (hk : k = n) : LSB it lm il ls lt := by
  obtain ⟨⟨r1, r2, r3⟩, h2, t0, h3, h4, h5⟩ := h
  refine ⟨h3.1, fun m m0 m1 => ?_⟩
  have sz := (h3.2 l h2.1 h2.2.1).1
  by_cases e : m = l
  · subst e
    rw [show k = ls m by omega] at h4
    rw [show n = ls m by omega] at r1 r2 r3
    refine ⟨sz, fun j a b => by rw [h4 j a b]; exact r1 j a b, fun i j a b c => by rw [h4 i a (by omega), h4 j (by omega) c]; exact r2 i j a b c, fun i a b c => ?_⟩
    obtain ⟨j, j0, j1, j2⟩ := r3 i a b c
    exact ⟨j, j0, j1, by rw [h4 j j0 j1]; exact j2⟩
  · refine lay_keep (l := l) (h3.2 m m0 m1) h3.1 m0 rfl (fun j a b => h5 _ (by omega) (by have := h3.1; omega))
/-! kept arrangements -/
def KPT (lm : Int) (lt ke : Int → Int) (i : Int) : Prop := ∀ q, 0 ≤ q → q < i → ke q = lt q
def LSK (it lm : Int) (il ls ke : Int → Int) : Prop := LSB it lm il ls ke
theorem kpt_step {lm i i' q v : Int} {lt ke ke' : Int → Int} (h : KPT lm lt ke i) (hi : i' = i + 1) (hs : st1 ke ke' q v) (hq : q = i) (hv : v = lt i) : KPT lm lt ke' i' := by
  intro x a b
  by_cases e : x = i
  · rw [(hs x a).1 (by omega), hv, e]
  · rw [(hs x a).2 (by omega)]; exact h x a (by omega)
theorem lsb_copy {it lm i : Int} {il ls lt ke : Int → Int} (h : LSB it lm il ls lt) (hk : ∀ q, 0 ≤ q → q < i → ke q = lt q) (hi : 76 * lm ≤ i) : LSB it lm il ls ke := ⟨h.1, fun m a b => lay_keep (l := m) (h.2 m a b) h.1 a rfl (fun k c d => hk _ (by omega) (by omega))⟩
/-! across -/
def PCQ (p cm : Int) (cA cB cW PL : Int → Int) : Prop := ∀ j, 0 ≤ j → j < cm → (0 ≤ cA j ∧ cA j < p) ∧ (0 ≤ cB j ∧ cB j < p) ∧ (0 ≤ cW j ∧ cW j ≤ 72) ∧ PL j = 0
theorem pcq_cost {p cm cm' a b w pl q1 q2 q3 q4 : Int} {cA cA' cB cB' cW cW' PL PL' : Int → Int} (h : PCQ p cm cA cB cW PL) (hc : cm' = cm + 1) (ha : 0 ≤ a ∧ a < p) (hb : 0 ≤ b ∧ b < p) (hw : 0 ≤ w ∧ w ≤ 72) (hp : pl = 0) (s1 : st1 cA cA' q1 a) (s2 : st1 cB cB' q2 b) (s3 : st1 cW cW' q3 w) (s4 : st1 PL PL' q4 pl) (e1 : q1 = cm) (e2 : q2 = cm) (e3 : q3 = cm) (e4 : q4 = cm) : PCQ p cm' cA' cB' cW' PL' := by
  intro j x y
  by_cases z : j = cm
  · subst z
    rw [(s1 j x).1 e1.symm, (s2 j x).1 e2.symm, (s3 j x).1 e3.symm, (s4 j x).1 e4.symm]
    exact ⟨ha, hb, hw, hp⟩
  · rw [(s1 j x).2 (by omega), (s2 j x).2 (by omega), (s3 j x).2 (by omega), (s4 j x).2 (by omega)]
    exact h j x (by omega)
/-- distances between neighbours in a layer, in order -/
def PAQ (am lm : Int) (ls lt aA aB aD : Int → Int) (c0 : Int) : Prop := ∃ c : Int → Int, (∀ j, 0 ≤ j → j < am → c j < c0 ∧ ∃ l k, (0 ≤ l ∧ l < lm ∧ 1 ≤ k ∧ k < ls l ∧ c j = 76 * l + k) ∧ aA j = lt (76 * l + k - 1) ∧ aB j = lt (76 * l + k) ∧ 2 ≤ aD j ∧ aD j ≤ 202) ∧ ∀ i j, 0 ≤ i → i < j → j < am → c i < c j
theorem paq_zero {am lm c0 : Int} {ls lt aA aB aD : Int → Int} (h : am ≤ 0) : PAQ am lm ls lt aA aB aD c0 := ⟨fun _ => 0, fun j a b => by omega, fun i j a b c => by omega⟩
theorem paq_less {am lm c0 c1 : Int} {ls lt aA aB aD : Int → Int} (h : PAQ am lm ls lt aA aB aD c0) (hc : c0 ≤ c1) : PAQ am lm ls lt aA aB aD c1 := by
  obtain ⟨c, h1, h2⟩ := h
  exact ⟨c, fun j a b => ⟨by have := (h1 j a b).1; omega, (h1 j a b).2⟩, h2⟩
theorem paq_apart {am am' lm a b d q1 q2 q3 l k c0 c1 : Int} {ls lt aA aA' aB aB' aD aD' : Int → Int} (h : PAQ am lm ls lt aA aB aD c0) (hc : am' = am + 1) (l0 : 0 ≤ l) (l1 : l < lm) (k1 : 1 ≤ k) (k2 : k < ls l) (h0 : c0 = 76 * l + k) (h1 : c1 = c0 + 1) (ha : a = lt (76 * l + k - 1)) (hb : b = lt (76 * l + k)) (hd : 2 ≤ d ∧ d ≤ 202) (s1 : st1 aA aA' q1 a) (s2 : st1 aB aB' q2 b) (s3 : st1 aD aD' q3 d) (e1 : q1 = am) (e2 : q2 = am) (e3 : q3 = am) : PAQ am' lm ls lt aA' aB' aD' c1 := by
  obtain ⟨c, g1, g2⟩ := h
  refine ⟨fun j => if j = am then c0 else c j, fun j x y => ?_, fun i j x y z => ?_⟩
  · (try simp only [])
    by_cases e : j = am
    · subst e
      rw [if_pos rfl, (s1 j x).1 e1.symm, (s2 j x).1 e2.symm, (s3 j x).1 e3.symm]
      exact ⟨by omega, l, k, by omega, ha, hb, hd⟩
    · rw [if_neg e, (s1 j x).2 (by omega), (s2 j x).2 (by omega), (s3 j x).2 (by omega)]
      have := g1 j x (by omega)
      exact ⟨by omega, this.2⟩
  · (try simp only [])
    rw [if_neg (show ¬ i = am by omega)]
    by_cases e : j = am
    · rw [if_pos e]; exact (g1 i x (by omega)).1
    · rw [if_neg e]; exact g2 i j x y (by omega)
theorem pos_un {it lm l k l' k' : Int} {il ls lt : Int → Int} (h : LSB it lm il ls lt) (l0 : 0 ≤ l) (l1 : l < lm) (k0 : 0 ≤ k) (k1 : k < ls l) (l0' : 0 ≤ l') (l1' : l' < lm) (k0' : 0 ≤ k') (k1' : k' < ls l') (e : lt (76 * l + k) = lt (76 * l' + k')) : l = l' ∧ k = k' := by
  have a1 := (h.2 l l0 l1).2.1 k k0 k1
  have a2 := (h.2 l' l0' l1').2.1 k' k0' k1'
  rw [e] at a1
  have el : l = l' := a1.2.symm.trans a2.2
  subst el
  refine ⟨rfl, ?_⟩
  by_cases z : k = k'
  · exact z
  · by_cases y : k < k'
    · exact absurd e ((h.2 l l0 l1).2.2.1 k k' k0 y k1')
    · exact absurd e.symm ((h.2 l l0 l1).2.2.1 k' k k0' (by omega) k1)
theorem paq_am {it lm am c0 : Int} {il ls lt aA aB aD : Int → Int} (hB : LSB it lm il ls lt) (h : PAQ am lm ls lt aA aB aD c0) (it0 : 0 ≤ it) : am ≤ it := by
  obtain ⟨c, h1, h2⟩ := h
  refine pigeon (q := aB) it0 (fun j a b => ?_) (fun i j a b d e => ?_)
  · obtain ⟨_, l, k, w, _, hb, _⟩ := h1 j a b
    rw [hb]; exact ((hB.2 l w.1 w.2.1).2.1 k (by omega) w.2.2.2.1).1
  · obtain ⟨_, l, k, w, _, hb, _⟩ := h1 i a (by omega)
    obtain ⟨_, l', k', w', _, hb', _⟩ := h1 j (by omega) d
    rw [hb, hb'] at e
    have := pos_un hB w.1 w.2.1 (by omega) w.2.2.2.1 w'.1 w'.2.1 (by omega) w'.2.2.2.1 e
    have := h2 i j a b d
    omega
theorem pbr_across {r p it lm li cm am c0 : Int} {A tu il fj la lb ls lt cA cB cW PL aA aB aD : Int → Int} (hA : LSA r it lm li A tu il fj la lb) (hB : LSB it lm il ls lt) (hp : p = it) (hC : PCQ p cm cA cB cW PL) (hc : 0 ≤ cm ∧ cm ≤ 200) (am0 : 0 ≤ am) (hP : PAQ am lm ls lt aA aB aD c0) : PBR p cm am cA cB cW PL aA aB aD := by
  have b := hA.2.1
  have n0 := hA.1.1.1.1
  have ha := paq_am hB hP (by omega)
  subst hp
  have ex : ∀ i, ∃ k, 0 ≤ i → i < p → (0 ≤ k ∧ k < ls (il i) ∧ lt (76 * il i + k) = i) := fun i => by
    by_cases z : 0 ≤ i ∧ i < p
    · have w := hA.2.2.1 i z.1 z.2
      obtain ⟨k, k0, k1, k2⟩ := (hB.2 (il i) w.1 w.2).2.2.2 i z.1 z.2 rfl
      exact ⟨k, fun _ _ => ⟨k0, k1, k2⟩⟩
    · exact ⟨0, fun x y => absurd ⟨x, y⟩ z⟩
  obtain ⟨rk, cs⟩ : ∃ rk : Int → Int, ∀ i, 0 ≤ i → i < p → (0 ≤ rk i ∧ rk i < ls (il i) ∧ lt (76 * il i + rk i) = i) := ⟨fun i => Classical.choose (ex i), fun i => Classical.choose_spec (ex i)⟩
  have rkv : ∀ l k, 0 ≤ l → l < lm → 0 ≤ k → k < ls l → (0 ≤ lt (76 * l + k) ∧ lt (76 * l + k) < p) ∧ rk (lt (76 * l + k)) = k := fun l k l0 l1 k0 k1 => by
    have w := (hB.2 l l0 l1).2.1 k k0 k1
    have q := cs _ w.1.1 w.1.2
    rw [w.2] at q
    have := pos_un hB l0 l1 q.1 q.2.1 l0 l1 k0 k1 q.2.2
    exact ⟨w.1, this.2⟩
  refine ⟨⟨by omega, fun k a b => ⟨(hC k a b).1, (hC k a b).2.1, (hC k a b).2.2.1⟩, fun j a b => ?_⟩, ⟨rk, fun i a b => ?_, fun j a b => ?_⟩, fun k a b z => absurd (hC k a b).2.2.2 z⟩
  · obtain ⟨c, h1, _⟩ := hP
    obtain ⟨_, l, k, w, h2, h3, h4⟩ := h1 j a b
    have w1 := (hB.2 l w.1 w.2.1).2.1 (k - 1) (by omega) (by omega)
    have w2 := (hB.2 l w.1 w.2.1).2.1 k (by omega) (by omega)
    rw [show 76 * l + (k - 1) = 76 * l + k - 1 by omega, ← h2] at w1
    rw [← h3] at w2
    exact ⟨w1.1, w2.1, by omega, by omega⟩
  · have q := cs i a b
    have w := hA.2.2.1 i a b
    have s := (hB.2 (il i) w.1 w.2).1
    have := hB.1
    (try simp only [])
    omega
  · obtain ⟨c, h1, _⟩ := hP
    obtain ⟨_, l, k, w, h2, h3, h4⟩ := h1 j a b
    have w1 := rkv l (k - 1) w.1 w.2.1 (by omega) (by omega)
    have w2 := rkv l k w.1 w.2.1 (by omega) (by omega)
    rw [show 76 * l + (k - 1) = 76 * l + k - 1 by omega, ← h2] at w1
    rw [← h3] at w2
    (try simp only [])
    omega
def PAL1 (am lm : Int) (ls lt aA aB aD : Int → Int) (l : Int) : Prop := PAQ am lm ls lt aA aB aD (76 * l)
def PAL2 (am lm : Int) (ls lt aA aB aD : Int → Int) (l k : Int) : Prop := PAQ am lm ls lt aA aB aD (76 * l + k)
def PAP (am lm : Int) (ls lt aA aB aD : Int → Int) (l k : Int) : Prop := PAQ am lm ls lt aA aB aD (76 * l + k + 1)
def PAN (lm : Int) (ls lt : Int → Int) (l k a b : Int) : Prop := (0 ≤ l ∧ l < lm ∧ 1 ≤ k ∧ k < ls l) ∧ a = lt (76 * l + k - 1) ∧ b = lt (76 * l + k)
def KPU (lt ke : Int → Int) (i : Int) : Prop := ∀ q, 0 ≤ q → q < i → lt q = ke q
theorem kpu_step {i i' q v : Int} {lt lt' ke : Int → Int} (h : KPU lt ke i) (hi : i' = i + 1) (hs : st1 lt lt' q v) (hq : q = i) (hv : v = ke i) : KPU lt' ke i' := by
  intro x a b
  by_cases e : x = i
  · rw [(hs x a).1 (by omega), hv, e]
  · rw [(hs x a).2 (by omega)]; exact h x a (by omega)
theorem lsa_la {r it lm li p x : Int} {A tu il fj la lb : Int → Int} (h : LSA r it lm li A tu il fj la lb) (p0 : 0 ≤ p) (p1 : p < li) (hx : x = la p) : (0 ≤ x) ∧ ((x + 1) ≤ it) := by
  have := (lsa_ln h p0 p1).1; omega
theorem lsa_lb {r it lm li p x : Int} {A tu il fj la lb : Int → Int} (h : LSA r it lm li A tu il fj la lb) (p0 : 0 ≤ p) (p1 : p < li) (hx : x = lb p) : (0 ≤ x) ∧ ((x + 1) ≤ it) := by
  have := (lsa_ln h p0 p1).2.1; omega
theorem plf_of {r it lm li x l k q : Int} {A tu il fj la lb ls lt : Int → Int} (hA : LSA r it lm li A tu il fj la lb) (hB : LSB it lm il ls lt) (h : PLG il lt x l k) (x0 : 0 ≤ x) (x1 : x < it) (k0 : 0 ≤ k) (hq : q = 76 * l + k) (he : lt q = x) : PLF il ls lt x k := by
  have b := plg_bd hA hB h x0 x1 k0
  have e := h.1
  subst e
  exact ⟨⟨k0, b.2.1⟩, by rw [← hq]; exact he⟩
