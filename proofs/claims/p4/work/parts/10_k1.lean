/-! farFrom, parts, tree -/
def fnt (f : Int → Int) (j : Int) : Prop := f j < 1000000
def cfn (f : Int → Int) : Nat → Int
  | 0 => 0
  | k + 1 => cfn f k + if f (k : Int) < 1000000 then 1 else 0
theorem cfn_le (f : Int → Int) (k : Nat) : 0 ≤ cfn f k ∧ cfn f k ≤ k := by
  induction k with
  | zero => simp [cfn]
  | succ k ih => unfold cfn; split <;> (push_cast; omega)
theorem cfn_mono {f g : Int → Int} (k : Nat) (h : ∀ j : Int, 0 ≤ j → j < k → fnt f j → fnt g j) : cfn f k ≤ cfn g k := by
  induction k with
  | zero => simp [cfn]
  | succ k ih =>
    have i1 := ih (fun j a b => h j a (by push_cast; omega))
    unfold cfn
    by_cases q : fnt f (k : Int)
    · rw [if_pos (show f (k : Int) < 1000000 from q), if_pos (show g (k : Int) < 1000000 from h k (by omega) (by push_cast; omega) q)]; omega
    · rw [if_neg (show ¬ f (k : Int) < 1000000 from q)]; split <;> omega
theorem cfn_more {f g : Int → Int} (k : Nat) (h : ∀ j : Int, 0 ≤ j → j < k → fnt f j → fnt g j) {x : Int} (x0 : 0 ≤ x) (x1 : x < k) (n1 : ¬ fnt f x) (n2 : fnt g x) : cfn f k + 1 ≤ cfn g k := by
  induction k with
  | zero => exact absurd x1 (by push_cast; omega)
  | succ k ih =>
    unfold cfn
    by_cases z : x = k
    · rw [z] at n1 n2
      have i1 := cfn_mono (f := f) (g := g) k (fun j a b => h j a (by push_cast; omega))
      rw [if_neg (show ¬ f (k : Int) < 1000000 from n1), if_pos (show g (k : Int) < 1000000 from n2)]; omega
    · have i1 := ih (fun j a b => h j a (by push_cast; omega)) (by push_cast at x1; omega)
      by_cases q : fnt f (k : Int)
      · rw [if_pos (show f (k : Int) < 1000000 from q), if_pos (show g (k : Int) < 1000000 from h k (by omega) (by push_cast; omega) q)]; omega
      · rw [if_neg (show ¬ f (k : Int) < 1000000 from q)]; split <;> omega
theorem cfn_one {f : Int → Int} (k : Nat) {x : Int} (x0 : 0 ≤ x) (x1 : x < k) (n2 : fnt f x) : 1 ≤ cfn f k := by
  have h0 := cfn_more (f := fun _ => 1000000) (g := f) k (fun j _ _ q => absurd q (Int.lt_irrefl 1000000)) x0 x1 (Int.lt_irrefl 1000000) n2
  have := (cfn_le (fun _ => 1000000) k).1
  omega
def ECL (A : Int → Int) (r : Int) (U : Int → Prop) (k : Int) : Prop := ∀ e, 0 ≤ e → e < k → (U (A (r + 267 + e)) ↔ U (A (r + 315 + e)))
def FBB (r : Int) (A f : Int → Int) (s b : Int) : Prop := (∀ v, 0 ≤ v → v < A r → 0 ≤ f v ∧ (f v ≤ b ∨ f v = 1000000)) ∧ fnt f s ∧ ∀ U : Int → Prop, U s → ECL A r U (A (r + 1)) → ∀ v, 0 ≤ v → v < A r → fnt f v → U v
def FCC (r : Int) (A : Int → Int) (s : Int) : Prop := SG A r ∧ 0 ≤ s ∧ s < A r
def cfi (f : Int → Int) (n : Int) : Int := cfn f n.toNat
def FA0 (r : Int) (A f : Int → Int) (s k : Int) : Prop := FCC r A s → ∀ v, 0 ≤ v → v < k → (v = s → f v = 0) ∧ (v ≠ s → f v = 1000000)
def FA1 (r : Int) (A f : Int → Int) (s i : Int) : Prop := FCC r A s → FBB r A f s (96 * i) ∧ (ECL A r (fnt f) (A (r + 1)) ∨ i + 1 ≤ cfi f (A r))
def FA2 (r : Int) (A f : Int → Int) (s i j : Int) : Prop := FCC r A s → FBB r A f s (96 * i + 2 * j) ∧ (ECL A r (fnt f) (A (r + 1)) ∨ i + 2 ≤ cfi f (A r) ∨ (i + 1 ≤ cfi f (A r) ∧ ECL A r (fnt f) j))
def FAP (r : Int) (A f : Int → Int) (s : Int) : Prop := FCC r A s → FBB r A f s 2304 ∧ ECL A r (fnt f) (A (r + 1))
theorem fa0_step {r s k k' p v : Int} {A f f' : Int → Int} (h : FA0 r A f s k) (hs : st1 f f' p v) (hp : p = k) (hk : k' = k + 1) (hv : (p = s → v = 0) ∧ (p ≠ s → v = 1000000)) : FA0 r A f' s k' := by
  intro c x x0 x1
  by_cases q : x = p
  · rw [(hs x x0).1 q, q]; exact hv
  · rw [(hs x x0).2 q]; exact h c x x0 (by omega)
theorem fa1_start {r s k i : Int} {A f : Int → Int} (h : FA0 r A f s k) (hk : A r ≤ k) (hi : i = 0) : FA1 r A f s i := by
  intro c
  have h0 := h c
  obtain ⟨c1, c2, c3⟩ := c
  have fs : fnt f s := by unfold fnt; rw [(h0 s c2 (by omega)).1 rfl]; omega
  refine ⟨⟨fun v a b => ?_, fs, fun U us _ v a b q => ?_⟩, Or.inr ?_⟩
  · have := h0 v a (by omega); by_cases z : v = s
    · have := this.1 z; omega
    · have := this.2 z; omega
  · by_cases z : v = s
    · rw [z]; exact us
    · have := (h0 v a (by omega)).2 z; unfold fnt at q; omega
  · have := cfn_one (f := f) (A r).toNat c2 (by omega) fs
    unfold cfi; omega
theorem fa2_start {r s i j : Int} {A f : Int → Int} (h : FA1 r A f s i) (hj : j = 0) : FA2 r A f s i j := by
  intro c
  obtain ⟨h1, h2⟩ := h c
  rw [hj]
  refine ⟨by rw [show 96 * i + 2 * 0 = 96 * i by omega]; exact h1, ?_⟩
  rcases h2 with q | q
  · exact Or.inl q
  · exact Or.inr (Or.inr ⟨q, fun e a b => absurd b (by omega)⟩)
theorem fbb_more {r s b b' : Int} {A f : Int → Int} (h : FBB r A f s b) (hb : b ≤ b') : FBB r A f s b' := ⟨fun v a c => by have := h.1 v a c; omega, h.2⟩
theorem fa2_end {r s i i' j : Int} {A f : Int → Int} (h : FA2 r A f s i j) (hj : A (r + 1) ≤ j) (hj2 : j ≤ 48) (hi : i' = i + 1) : FA1 r A f s i' := by
  intro c
  obtain ⟨h1, h2⟩ := h c
  refine ⟨fbb_more h1 (by omega), ?_⟩
  rcases h2 with q | q | q
  · exact Or.inl q
  · exact Or.inr (by omega)
  · exact Or.inl (fun e a b => q.2 e a (by omega))
theorem fa1_end {r s i : Int} {A f : Int → Int} (h : FA1 r A f s i) (hi : A r ≤ i) (hi2 : i ≤ 24) : FAP r A f s := by
  intro c
  obtain ⟨h1, h2⟩ := h c
  refine ⟨fbb_more h1 (by omega), ?_⟩
  rcases h2 with q | q
  · exact q
  · have := (cfn_le f (A r).toNat).2
    have := c.2
    unfold cfi at q; omega
theorem ecl_congr {r k : Int} {A f g : Int → Int} (hg : SG A r) (hk : k ≤ A (r + 1)) (h : ∀ v, 0 ≤ v → v < A r → (fnt f v ↔ fnt g v)) (he : ECL A r (fnt f) k) : ECL A r (fnt g) k := by
  intro e a b
  have hh := hg.2.1 e a (by omega)
  have := he e a b
  rw [h _ hh.1 hh.2.1, h _ hh.2.2.1 hh.2.2.2.1] at this
  exact this
theorem fa2_step {r s i j j' t h v w : Int} {A f f1 f2 : Int → Int} (hF : FA2 r A f s i j) (j0 : 0 ≤ j) (j1 : j < A (r + 1)) (hj : j' = j + 1) (i0 : 0 ≤ i) (i1 : i ≤ 24) (ht : t = A (r + 267 + j)) (hh : h = A (r + 315 + j))
    (hs1 : st1 f f1 h v) (v1 : v ≤ f h) (v2 : v ≤ f t + 1) (v3 : v = f h ∨ v = f t + 1) (hs2 : st1 f1 f2 t w) (w1 : w ≤ f1 t) (w2 : w ≤ f1 h + 1) (w3 : w = f1 t ∨ w = f1 h + 1) : FA2 r A f2 s i j' := by
  intro c
  obtain ⟨⟨hb, hs, hu⟩, hd⟩ := hF c
  obtain ⟨c1, c2, c3⟩ := c
  have cr := c1.1
  have e0 := c1.2.1 j j0 j1
  simp only [← ht, ← hh] at e0
  obtain ⟨t0, tn, h0, hn, th⟩ := e0
  have a1 := (hs1 h h0).1 rfl
  have a2 := (hs1 t t0).2 th
  have b1 := (hs2 t t0).1 rfl
  have b2 := (hs2 h h0).2 (fun z => th z.symm)
  have ft := hb t t0 tn
  have fh := hb h h0 hn
  have ot : ∀ x, 0 ≤ x → x ≠ t → x ≠ h → f2 x = f x := fun x x0 z1 z2 => by rw [(hs2 x x0).2 z1, (hs1 x x0).2 z2]
  have m1 : ∀ x, 0 ≤ x → x < A r → fnt f x → fnt f2 x := fun x x0 x1 q => by
    unfold fnt at q ⊢
    by_cases z1 : x = t
    · rw [z1] at q ⊢; omega
    · by_cases z2 : x = h
      · rw [z2] at q ⊢; omega
      · rw [ot x x0 z1 z2]; exact q
  have hbb : FBB r A f2 s (96 * i + 2 * j') := by
    refine ⟨fun x x0 x1 => ?_, m1 s c2 c3 hs, fun U us ue x x0 x1 q => ?_⟩
    · by_cases z1 : x = t
      · rw [z1]; omega
      · by_cases z2 : x = h
        · rw [z2]; omega
        · rw [ot x x0 z1 z2]; have := hb x x0 x1; omega
    · have ue' := ue j j0 j1
      rw [← ht, ← hh] at ue'
      unfold fnt at q
      by_cases z1 : x = t
      · rw [z1] at q ⊢
        by_cases z : f t < 1000000
        · exact hu U us ue t t0 tn z
        · exact ue'.2 (hu U us ue h h0 hn (by unfold fnt; omega))
      · by_cases z2 : x = h
        · rw [z2] at q ⊢
          by_cases z : f h < 1000000
          · exact hu U us ue h h0 hn z
          · exact ue'.1 (hu U us ue t t0 tn (by unfold fnt; omega))
        · rw [ot x x0 z1 z2] at q; exact hu U us ue x x0 x1 q
  refine ⟨hbb, ?_⟩
  by_cases q : fnt f t ↔ fnt f h
  · have sm : ∀ x, 0 ≤ x → x < A r → (fnt f x ↔ fnt f2 x) := fun x x0 x1 => by
      refine ⟨m1 x x0 x1, fun z => ?_⟩
      unfold fnt at z q ⊢
      by_cases z1 : x = t
      · rw [z1] at z ⊢; omega
      · by_cases z2 : x = h
        · rw [z2] at z ⊢; omega
        · rw [ot x x0 z1 z2] at z; exact z
    have cm : cfi f (A r) ≤ cfi f2 (A r) := cfn_mono _ (fun x x0 x1 => m1 x x0 (by omega))
    rcases hd with y | y | y
    · exact Or.inl (ecl_congr c1 (by omega) sm y)
    · exact Or.inr (Or.inl (by omega))
    · refine Or.inr (Or.inr ⟨by omega, ?_⟩)
      refine ecl_congr c1 (by omega) sm (fun e a b => ?_)
      by_cases z : e = j
      · rw [z, ← ht, ← hh]; exact q
      · exact y.2 e a (by omega)
  · have cm : cfi f (A r) + 1 ≤ cfi f2 (A r) := by
      by_cases z : fnt f t
      · have z2 : ¬ fnt f h := fun z2 => q ⟨fun _ => z2, fun _ => z⟩
        exact cfn_more _ (fun x x0 x1 => m1 x x0 (by omega)) h0 (by omega) z2 (by unfold fnt at z ⊢; omega)
      · have z2 : fnt f h := Classical.byContradiction (fun z2 => q ⟨fun y => absurd y z, fun y => absurd y z2⟩)
        exact cfn_more _ (fun x x0 x1 => m1 x x0 (by omega)) t0 (by omega) z (by unfold fnt at z2 ⊢; omega)
    rcases hd with y | y | y
    · have := y j j0 j1; rw [← ht, ← hh] at this; exact absurd this q
    · exact Or.inr (Or.inl (by omega))
    · exact Or.inr (Or.inl (by omega))
theorem fap_same {r s p v : Int} {A f f' : Int → Int} (h : FAP r A f s) (hs : st1 f f' p v) (p0 : 0 ≤ p) (p1 : p < A r) (v1 : v ≤ f p) (v2 : v ≤ 1000000) (v3 : v = f p ∨ v = 1000000) : FAP r A f' s := by
  intro c
  obtain ⟨⟨h1, h2, h3⟩, h4⟩ := h c
  have e : ∀ x, 0 ≤ x → f' x = f x := fun x x0 => by
    by_cases q : x = p
    · have := h1 p p0 p1; rw [(hs x x0).1 q, q]; omega
    · exact (hs x x0).2 q
  have e2 : ∀ x, 0 ≤ x → (fnt f x ↔ fnt f' x) := fun x x0 => by unfold fnt; rw [e x x0]
  refine ⟨⟨fun x a b => by rw [e x a]; exact h1 x a b, (e2 s c.2.1).1 h2, fun U us ue x a b q => h3 U us ue x a b ((e2 x a).2 q)⟩, ?_⟩
  exact ecl_congr c.1 (by omega) (fun x a _ => e2 x a) h4
/-! parts -/
def PT0 (r : Int) (A p : Int → Int) (k : Int) : Prop := ∀ v, 0 ≤ v → v < k → p v = -1
def PT1 (r : Int) (A p : Int → Int) (i c : Int) : Prop := SG A r → (0 ≤ c ∧ ∀ v, 0 ≤ v → v < A r → -1 ≤ p v ∧ p v < c) ∧ (∀ e, 0 ≤ e → e < A (r + 1) → p (A (r + 267 + e)) = p (A (r + 315 + e))) ∧ (∀ v, 0 ≤ v → v < i → 0 ≤ p v) ∧ ∀ d, 0 ≤ d → d < c → ∃ v, 0 ≤ v ∧ v < A r ∧ p v = d
def PT2 (r : Int) (A f p : Int → Int) (i c k : Int) : Prop := SG A r → (0 ≤ i ∧ i < A r) ∧ FAP r A f i ∧ ∃ p0, PT1 r A p0 i c ∧ p0 i < 0 ∧ (∀ v, 0 ≤ v → v < k → v < A r → (fnt f v → p v = c) ∧ (¬ fnt f v → p v = p0 v)) ∧ ∀ v, k ≤ v → v < A r → p v = p0 v
def PTP (r : Int) (A p : Int → Int) (c : Int) : Prop := SG A r → ∀ d, 0 ≤ d → d < c → ∃ v, 0 ≤ v ∧ v < A r ∧ p v = d
theorem pt0_step {r k k' q v : Int} {A p p' : Int → Int} (h : PT0 r A p k) (hs : st1 p p' q v) (hq : q = k) (hv : v = -1) (hk : k' = k + 1) : PT0 r A p' k' := by
  intro x a b
  by_cases z : x = q
  · rw [(hs x a).1 z, hv]
  · rw [(hs x a).2 z]; exact h x a (by omega)
theorem pt1_start {r k i c : Int} {A p : Int → Int} (h : PT0 r A p k) (hk : A r ≤ k) (hi : i = 0) (hc : c = 0) : PT1 r A p i c := by
  intro g
  refine ⟨⟨by omega, fun v a b => by have := h v a (by omega); omega⟩, fun e a b => ?_, fun v a b => by omega, fun d a b => by omega⟩
  have hh := g.2.1 e a b
  rw [h _ hh.1 (by have := hh.2.1; omega), h _ hh.2.2.1 (by have := hh.2.2.2.1; omega)]
theorem pt1_skip {r i i' c : Int} {A p : Int → Int} (h : PT1 r A p i c) (hi : i' = i + 1) (hp : 0 ≤ p i) : PT1 r A p i' c := by
  intro g
  obtain ⟨h1, h2, h3, h4⟩ := h g
  refine ⟨h1, h2, fun v a b => ?_, h4⟩
  by_cases q : v = i
  · rw [q]; exact hp
  · exact h3 v a (by omega)
theorem pt2_start {r i c k : Int} {A f p : Int → Int} (h : PT1 r A p i c) (i0 : 0 ≤ i) (i1 : i < A r) (hp : p i < 0) (hf : FAP r A f i) (hk : k = 0) : PT2 r A f p i c k := fun _ => ⟨⟨i0, i1⟩, hf, p, h, hp, fun v a b => by omega, fun _ _ _ => rfl⟩
theorem pt2_yes {r i c k k' q v : Int} {A f p p' : Int → Int} (h : PT2 r A f p i c k) (k0 : 0 ≤ k) (hk : k' = k + 1) (hf : f k < 1000000) (hs : st1 p p' q v) (hq : q = k) (hv : v = c) : PT2 r A f p' i c k' := by
  intro g
  obtain ⟨h1, h2, p0, h3, h4, h5, h6⟩ := h g
  refine ⟨h1, h2, p0, h3, h4, fun x a b d => ?_, fun x a b => by rw [(hs x (by omega)).2 (by omega)]; exact h6 x (by omega) b⟩
  by_cases z : x = k
  · rw [(hs x a).1 (by omega), z]; exact ⟨fun _ => hv, fun y => absurd hf y⟩
  · rw [(hs x a).2 (by omega)]; exact h5 x a (by omega) d
theorem pt2_no {r i c k k' : Int} {A f p : Int → Int} (h : PT2 r A f p i c k) (hk : k' = k + 1) (hf : 1000000 ≤ f k) : PT2 r A f p i c k' := by
  intro g
  obtain ⟨h1, h2, p0, h3, h4, h5, h6⟩ := h g
  refine ⟨h1, h2, p0, h3, h4, fun x a b d => ?_, fun x a b => h6 x (by omega) b⟩
  by_cases z : x = k
  · rw [z]; exact ⟨fun y => absurd y (by unfold fnt; omega), fun _ => h6 k (by omega) (by omega)⟩
  · exact h5 x a (by omega) d
theorem pt2_end {r i i' c c' k : Int} {A f p : Int → Int} (h : PT2 r A f p i c k) (hk : A r ≤ k) (hi : i' = i + 1) (hc : c' = c + 1) : PT1 r A p i' c' := by
  intro g
  obtain ⟨⟨i0, i1⟩, h2, p0, h3, h4, h5, h6⟩ := h g
  obtain ⟨q1, q2, q3, q4⟩ := h3 g
  obtain ⟨⟨f1, f2, f3⟩, f4⟩ := h2 ⟨g, i0, i1⟩
  have hx : ∀ x, 0 ≤ x → x < A r → (fnt f x → p x = c) ∧ (¬ fnt f x → p x = p0 x) := fun x a b => h5 x a (by omega) b
  have hU := f3 (fun x => p0 x < 0) h4 (fun e a b => by have := q2 e a b; constructor <;> (intro y; simp only at y ⊢; omega))
  refine ⟨⟨by omega, fun v a b => ?_⟩, fun e a b => ?_, fun v a b => ?_, fun d a b => ?_⟩
  · have := hx v a b; have := q1.2 v a b
    by_cases z : fnt f v
    · have := (hx v a b).1 z; omega
    · have := (hx v a b).2 z; omega
  · have hh := g.2.1 e a b
    have e1 := f4 e a b
    have e2 := q2 e a b
    have x1 := hx _ hh.1 hh.2.1
    have x2 := hx _ hh.2.2.1 hh.2.2.2.1
    by_cases z : fnt f (A (r + 267 + e))
    · rw [x1.1 z, x2.1 (e1.1 z)]
    · rw [x1.2 z, x2.2 (fun y => z (e1.2 y))]; exact e2
  · by_cases z : v < A r
    · by_cases y : fnt f v
      · have := (hx v a z).1 y; omega
      · have := (hx v a z).2 y
        by_cases w : v = i
        · exact absurd (w ▸ f2) y
        · have := q3 v a (by omega); omega
    · omega
  · by_cases z : d = c
    · exact ⟨i, i0, i1, by rw [z]; exact (hx i i0 i1).1 f2⟩
    · obtain ⟨v, v0, v1, v2⟩ := q4 d a (by omega)
      refine ⟨v, v0, v1, ?_⟩
      have : ¬ fnt f v := fun y => by have : p0 v < 0 := hU v v0 v1 y; omega
      rw [(hx v v0 v1).2 this]; exact v2
theorem pt1_end {r i c : Int} {A p : Int → Int} (h : PT1 r A p i c) : PTP r A p c := fun g => (h g).2.2.2
/-! tree -/
def RTK (root : Int → Int) (n k : Int) : Prop := ∀ c, 0 ≤ c → c < k → 0 ≤ root c ∧ root c < n
def RTJ (p root : Int → Int) (n i j : Int) : Prop := RTK root n i ∧ ((0 ≤ root i ∧ root i < n) ∨ (root i = -1 ∧ ∀ v, j < v → v < n → p v ≠ i))
theorem rtj_start {p root root' : Int → Int} {n i j q v : Int} (h : RTK root n i) (i0 : 0 ≤ i) (hs : st1 root root' q v) (hq : q = i) (hv : v = -1) (hj : n ≤ j + 1) : RTJ p root' n i j := by
  refine ⟨fun c a b => by rw [(hs c a).2 (by omega)]; exact h c a b, Or.inr ⟨by rw [(hs i i0).1 hq.symm, hv], fun v a b => by omega⟩⟩
theorem rtj_skip {p root : Int → Int} {n i j j' : Int} (h : RTJ p root n i j) (hj : j' = j - 1) (hp : p j ≠ i) : RTJ p root n i j' := by
  refine ⟨h.1, ?_⟩
  rcases h.2 with q | q
  · exact Or.inl q
  · refine Or.inr ⟨q.1, fun v a b => ?_⟩
    by_cases z : v = j
    · rw [z]; exact hp
    · exact q.2 v (by omega) b
theorem rtj_take {p root root' : Int → Int} {n i j j' q v : Int} (h : RTJ p root n i j) (i0 : 0 ≤ i) (hs : st1 root root' q v) (hq : q = i) (v0 : 0 ≤ v) (v1 : v < n) : RTJ p root' n i j' :=
  ⟨fun c a b => by rw [(hs c a).2 (by omega)]; exact h.1 c a b, Or.inl (by rw [(hs i i0).1 hq.symm]; omega)⟩
theorem rtj_end {r : Int} {A p root : Int → Int} {n i i' j c : Int} (h : RTJ p root n i j) (hj : j < 0) (hi : i' = i + 1) (hP : PTP r A p c) (hg : SG A r) (hn : n = A r) (i0 : 0 ≤ i) (ic : i < c) : RTK root n i' := by
  intro d a b
  by_cases z : d = i
  · rw [z]
    rcases h.2 with q | q
    · exact q
    · obtain ⟨v, v0, v1, v2⟩ := hP hg i i0 ic
      exact absurd v2 (q.2 v (by omega) (by omega))
  · exact h.1 d a (by omega)
theorem rtj_end2 {p root root' : Int → Int} {n i i' j q v : Int} (h : RTJ p root n i j) (hi : i' = i + 1) (i0 : 0 ≤ i) (hs : st1 root root' q v) (hq : q = i) (v0 : 0 ≤ v) (v1 : v < n) : RTK root' n i' := by
  intro d a b
  by_cases z : d = i
  · rw [(hs d a).1 (by omega)]; omega
  · rw [(hs d a).2 (by omega)]; exact h.1 d a (by omega)
def ABI (ab lv : Int → Int) (k : Int) : Prop := ∀ v, 0 ≤ v → v < k → ab v = -1 ∧ -1 ≤ lv v ∧ lv v ≤ 0
theorem abi_step {ab ab' lv lv' : Int → Int} {k k' p v q w : Int} (h : ABI ab lv k) (hk : k' = k + 1) (hs : st1 ab ab' p v) (hp : p = k) (hv : v = -1) (ht : st1 lv lv' q w) (hq : q = k) (hw : w = -1) : ABI ab' lv' k' := by
  intro x a b
  by_cases z : x = k
  · rw [(hs x a).1 (by omega), (ht x a).1 (by omega)]; omega
  · rw [(hs x a).2 (by omega), (ht x a).2 (by omega)]; exact h x a (by omega)
theorem abi_root {ab lv lv' : Int → Int} {k q w : Int} (h : ABI ab lv k) (ht : st1 lv lv' q w) (hw : w = 0) : ABI ab lv' k := by
  intro x a b
  have := h x a b
  by_cases z : x = q
  · rw [(ht x a).1 z]; omega
  · rw [(ht x a).2 z]; exact this
