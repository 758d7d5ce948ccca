/-! the route: what the methods want and give -/
def GRX (W T : Int) : Prop := gok W T
def RT0 (W T : Int) (ba co bk bm : Int → Int) (to : Int) : Prop := RTQ W T ba co bk bm to 0
def PIV (co : Int → Int) (t c : Int) : Prop := 0 ≤ t ∧ co t = c
def RJB (W T : Int) (ba co : Int → Int) (to c s v : Int) : Prop := (0 ≤ s ∧ s < 4 * (W * T)) ∧ ba (s / 4) = 0 ∧ wit W T ba co to c s v ∧ c ≤ v ∧ v ≤ c + 3
def BFP (W T : Int) (ba : Int → Int) (s p : Int) : Prop := (0 ≤ s ∧ s < 4 * (W * T)) ∧ nb W T p (s % 4) (s / 4) ∧ (0 ≤ p ∧ p < W * T) ∧ ba p = 0 ∧ ba (s / 4) = 0
theorem reach_b {W T c to s v b q o p m : Int} {ba co co' bk bk' bm bm' : Int → Int} (h : RTQ W T ba co bk bm to c) (hj : RJB W T ba co to c s v) (gt : v < co s) (hs : st1 co co' s v) (hb : b = v % 4) (hm : m = bm b) (hp : p = 24010 * b + m) (ht : st1 bk bk' p s) (hq : q = bm b) (ho : o = q + 1) (hu : st1 bm bm' b o) : RTQ W T ba co' bk' bm' to c := spr_reach h hj.2.2.2.1 hj.2.2.2.2 hj.1.1 hj.1.2 gt hj.2.1 hj.2.2.1 hs hb (by rw [hp, hm]) ht (by rw [ho, hq]) hu
theorem piv_keep {co co' : Int → Int} {t c s v : Int} (h : PIV co t c) (cv : c ≤ v) (gt : v < co s) (hs : st1 co co' s v) : PIV co' t c := ⟨h.1, by rw [(hs t h.1).2 (fun e => by rw [← e] at gt; have := h.2; omega)]; exact h.2⟩
theorem reach_room {W T c to s v b m : Int} {ba co bk bm : Int → Int} (h : RTQ W T ba co bk bm to c) (hj : RJB W T ba co to c s v) (gt : v < co s) (hb : b = v % 4) (hm : m = bm b) : 0 ≤ m ∧ m + 1 ≤ 24000 := by
  have := spr_room h hj.2.2.2.1 hj.2.2.2.2 hj.1.1 hj.1.2 gt
  rw [← hb, ← hm] at this
  have k := (h.2.2.2 b (by omega) (by omega)).1
  omega
theorem rjb_i {W T to s v : Int} {ba co : Int → Int} (s0 : 0 ≤ s) (s1 : s < 4 * (W * T)) (hs : s / 4 = to) (hb : ba to = 0) (hv : v = 0) : RJB W T ba co to 0 s v := ⟨⟨s0, s1⟩, by rw [hs]; exact hb, Or.inl ⟨hv, hs⟩, by omega, by omega⟩
theorem rjb_b {W T to c s p f s' v d : Int} {ba co : Int → Int} (h : BFP W T ba s p) (hp : PIV co s c) (c0 : 0 ≤ c) (f0 : 0 ≤ f) (f3 : f ≤ 3) (hd : d = s % 4) (hs : s' = 4 * p + f) (hv : (f = d ∧ v = c + 1) ∨ (f ≠ d ∧ v = c + 3)) : RJB W T ba co to c s' v := by
  obtain ⟨h1, h2, h3, h4, h5⟩ := h
  have e : s' / 4 = p := by omega
  have e2 : s' % 4 = f := by omega
  have e3 : 4 * (s / 4) + s % 4 = s := by omega
  refine ⟨by omega, by rw [e]; exact h4, Or.inr ⟨s % 4, s / 4, by omega, by rw [e]; exact h2, h5, ?_, ?_, ?_⟩, by omega, by omega⟩
  · rw [e3, hp.2, e2]; unfold cw; rw [← hd]
    rcases hv with ⟨a, b⟩ | ⟨a, b⟩
    · rw [if_pos a]; omega
    · rw [if_neg a]; omega
  · rw [e3, hp.2]; exact c0
  · rw [e3, hp.2]; omega
/-! spread -/
def CF1 (co : Int → Int) (i : Int) : Prop := ∀ s, 0 ≤ s → s < i → co s = 1000000
def CFF (W T : Int) (co : Int → Int) : Prop := CF1 co (4 * (W * T))
def BZ1 (bm : Int → Int) (i : Int) : Prop := ∀ b, 0 ≤ b → b < i → bm b = 0
theorem cf1_step {F F' : Int → Int} {i i' p v : Int} (h : CF1 F i) (hi : i' = i + 1) (hs : st1 F F' p v) (hp : p = i) (hv : v = 1000000) : CF1 F' i' := by
  intro x a b
  by_cases e : x = p
  · rw [(hs x a).1 e, hv]
  · rw [(hs x a).2 e]; exact h x a (by omega)
theorem bz1_step {F F' : Int → Int} {i i' p v : Int} (h : BZ1 F i) (hi : i' = i + 1) (hs : st1 F F' p v) (hp : p = i) (hv : v = 0) : BZ1 F' i' := by
  intro x a b
  by_cases e : x = p
  · rw [(hs x a).1 e, hv]
  · rw [(hs x a).2 e]; exact h x a (by omega)
theorem cff_cok {W T to c : Int} {ba co : Int → Int} (h : CFF W T co) : cok W T ba co to c := fun s a b => by
  rw [h s a b]; exact ⟨by omega, fun z => by omega⟩
theorem rt0_start {W T to i : Int} {ba co bk bm : Int → Int} (g : GRX W T) (h : CFF W T co) (hb : BZ1 bm i) (hi : 4 ≤ i) : RT0 W T ba co bk bm to := by
  refine ⟨g, by omega, cff_cok h, fun b a d => ?_⟩
  have e := hb b a (by omega)
  exact ⟨by omega, fun k x y => by omega, fun j k x y z => by omega, fun z => by omega⟩
theorem rtv_far {W T to : Int} {ba co : Int → Int} (g : GRX W T) (h : CFF W T co) : RTV W T ba co to := ⟨g, 0, cff_cok h⟩
theorem bk_at {W T c to b k s q : Int} {ba co bk bm : Int → Int} (h : RTQ W T ba co bk bm to c) (hb : b = c % 4) (k0 : 0 ≤ k) (k1 : k < bm b) (hq : q = 24010 * b + k) (hs : s = bk q) : (0 ≤ s ∧ s < 4 * (W * T)) ∧ c ≤ 999999 ∧ bm b ≤ 24000 := by
  have x := h.2.2.2 b (by omega) (by omega)
  have g := h.1
  have v := vv_at (c := c) (v := c) (by omega) (by omega) hb
  have wt : 0 ≤ W * T := Int.mul_nonneg (by have := g.1; omega) (by have := g.2.1; omega)
  have l := bkt_len x (by omega)
  have y := (x.2.1 k k0 k1).1
  have z := x.2.2.2 (by omega)
  rw [v] at z
  rw [← hq, ← hs] at y
  exact ⟨y, z, by have := g.2; omega⟩
theorem bm_pos {W T c to b m : Int} {ba co bk bm : Int → Int} (h : RTQ W T ba co bk bm to c) (hb : b = c % 4) (hm : m = bm b) : (0 ≤ m ∧ m ≤ 24000) ∧ (m ≠ 0 → c ≤ 999999) := by
  have x := h.2.2.2 b (by omega) (by omega)
  have g := h.1
  have v := vv_at (c := c) (v := c) (by omega) (by omega) hb
  have wt : 0 ≤ W * T := Int.mul_nonneg (by have := g.1; omega) (by have := g.2.1; omega)
  have l := bkt_len x (by omega)
  have z := x.2.2.2
  rw [v] at z
  have n := x.1
  have := g.2
  exact ⟨by omega, fun w => z (by omega)⟩
/-! walking -/
def STQ (W T : Int) (ba : Int → Int) (p d z : Int) : Prop := -1 ≤ z ∧ (0 ≤ z → nb W T p d z ∧ ba z = 0) ∧ ∀ q, nb W T p d q → ba q = 0 → z = q
def BB1 (W T : Int) (ba co : Int → Int) (p d b f : Int) : Prop := (d = -1 ∧ b = 1000000) ∨ ((0 ≤ d ∧ d < 4) ∧ b < 1000000 ∧ ∃ q, nb W T p d q ∧ ba q = 0 ∧ co (4 * q + d) + 1 = b)
def BB2 (W T : Int) (ba co : Int → Int) (p d t : Int) : Prop := (0 ≤ p ∧ p < W * T) ∧ (0 ≤ d ∧ d < 4) ∧ ba p = 0 ∧ co (4 * p + d) = t ∧ 0 ≤ t ∧ t < 1000000
def mat (W T : Int) (ba co : Int → Int) (p d t f u : Int) : Prop := (0 ≤ f ∧ f < 4) ∧ ∃ q, nb W T p f q ∧ ba q = 0 ∧ co (4 * q + f) = u ∧ u = t - cw d f
def BB3 (W T : Int) (ba co : Int → Int) (p d t n u f : Int) : Prop := (n = -1 ∧ ∀ g, f < g → g < 4 → ¬ ∃ u, mat W T ba co p d t g u) ∨ mat W T ba co p d t n u
theorem bb1_take {W T p d b f f' q v x : Int} {ba co : Int → Int} (hs : STQ W T ba p f q) (q0 : 0 ≤ q) (f0 : 0 ≤ f) (f3 : f < 4) (hx : x = 4 * q + f) (hv : v = co x) (lt : v + 1 < 1000000) : BB1 W T ba co p f (v + 1) f' := Or.inr ⟨⟨f0, f3⟩, lt, q, (hs.2.1 q0).1, (hs.2.1 q0).2, by rw [← hx, ← hv]⟩
theorem bb2_start {W T to p d b f z t : Int} {ba co : Int → Int} (hV : RTV W T ba co to) (h : BB1 W T ba co p d b f) (d0 : 0 ≤ d) (hs : STQ W T ba p d z) (ht : t = b - 1) : BB2 W T ba co z d t := by
  rcases h with h | ⟨h1, h2, q, h3, h4, h5⟩
  · omega
  · have e := hs.2.2 q h3 h4
    subst e
    have n := nb_in h3 hV.1.1
    obtain ⟨g, c, hc⟩ := hV
    have := (hc (4 * z + d) (by omega) (by omega)).1
    exact ⟨n, h1, h4, by omega, by omega, by omega⟩
theorem bb3_start {W T p d t n u f : Int} {ba co : Int → Int} (hn : n = -1) (hf : f = 3) : BB3 W T ba co p d t n u f := Or.inl ⟨hn, fun g a b => by omega⟩
theorem bb3_take {W T p d t n u f f' q v x w : Int} {ba co : Int → Int} (hs : STQ W T ba p f q) (q0 : 0 ≤ q) (f0 : 0 ≤ f) (f3 : f < 4) (hx : x = 4 * q + f) (hv : v = co x) (hw : (f = d ∧ w = 1) ∨ (f ≠ d ∧ w = 3)) (he : v = t - w) (hn : n = f) (hu : u = t - w) : BB3 W T ba co p d t n u f' := by
  right
  rw [hn]
  refine ⟨⟨f0, f3⟩, q, (hs.2.1 q0).1, (hs.2.1 q0).2, by rw [← hx, ← hv]; omega, ?_⟩
  unfold cw
  rcases hw with ⟨a, b⟩ | ⟨a, b⟩
  · rw [if_pos (by omega)]; omega
  · rw [if_neg (by omega)]; omega
theorem bb3_skip {W T p d t n u f f' q v x w : Int} {ba co : Int → Int} (h : BB3 W T ba co p d t n u f) (hf : f' = f - 1) (hs : STQ W T ba p f q) (hw : (f = d ∧ w = 1) ∨ (f ≠ d ∧ w = 3)) (hc : q < 0 ∨ (x = 4 * q + f ∧ v = co x ∧ v ≠ t - w)) : BB3 W T ba co p d t n u f' := by
  rcases h with ⟨h1, h2⟩ | h
  · refine Or.inl ⟨h1, fun g a b => ?_⟩
    by_cases e : g = f
    · subst e
      rintro ⟨u', hm, q', n1, n2, n3, n4⟩
      have eq := hs.2.2 q' n1 n2
      have ec : cw d g = w := by
        unfold cw
        rcases hw with ⟨y, z⟩ | ⟨y, z⟩
        · rw [if_pos (by omega)]; omega
        · rw [if_neg (by omega)]; omega
      rcases hc with z | ⟨z1, z2, z3⟩
      · have : 0 ≤ q' := by
          have c1 := n1.2.2
          have h3 : 0 ≤ (p / W + dyf g) * W := Int.mul_nonneg n1.2.1.1 (by have := n1.1; omega)
          have := n1.1
          omega
        omega
      · subst eq
        rw [z1, n3] at z2
        omega
    · exact h2 g (by omega) b
  · exact Or.inr h
/-- there is a next step -/
theorem bb_next {W T to p d t n u f : Int} {ba co : Int → Int} (hV : RTV W T ba co to) (h2 : BB2 W T ba co p d t) (h3 : BB3 W T ba co p d t n u f) (hf : f < 0) (ne : p ≠ to) : mat W T ba co p d t n u ∧ 0 ≤ u ∧ u + 1 ≤ t := by
  obtain ⟨g, c, hc⟩ := hV
  obtain ⟨p0, d0, b0, e, t0, t1⟩ := h2
  have w := ((hc (4 * p + d) (by omega) (by omega)).2 (by omega)).2
  have ep : (4 * p + d) / 4 = p := by omega
  have ed : (4 * p + d) % 4 = d := by omega
  rw [e] at w
  have m : mat W T ba co p d t n u := by
    rcases h3 with ⟨h1, h2⟩ | h
    · exfalso
      rcases w with w | ⟨d', q, w1, w2, w3, w4, w5, w6⟩
      · rw [ep] at w; exact ne w.2
      · rw [ep] at w2
        rw [ed] at w4
        exact h2 d' (by omega) w1.2 ⟨t - cw d d', w1, q, w2, w3, w4, rfl⟩
    · exact h
  obtain ⟨mf, q, n1, n2, n3, n4⟩ := m
  have qn := nb_in n1 g.1
  have := (hc (4 * q + n) (by omega) (by omega)).1
  have := cw_bd d n
  exact ⟨⟨mf, q, n1, n2, n3, n4⟩, by omega, by omega⟩
theorem bb2_next {W T to p d t n u f z : Int} {ba co : Int → Int} (hV : RTV W T ba co to) (h2 : BB2 W T ba co p d t) (h3 : BB3 W T ba co p d t n u f) (hf : f < 0) (ne : p ≠ to) (hs : STQ W T ba p n z) : BB2 W T ba co z n u := by
  obtain ⟨⟨mf, q, n1, n2, n3, n4⟩, u0, u1⟩ := bb_next hV h2 h3 hf ne
  have e := hs.2.2 q n1 n2
  subst e
  have qn := nb_in n1 hV.1.1
  have := h2.2.2.2.2
  exact ⟨qn, mf, n2, n3, by omega, by omega⟩
def RJ0 (W T : Int) (ba co : Int → Int) (to s v : Int) : Prop := RJB W T ba co to 0 s v
theorem gok_bd {W T : Int} (h : GRX W T) : (1 ≤ W ∧ W ≤ 6000) ∧ 1 ≤ T ∧ T ≤ 6000 := by
  obtain ⟨a, b, c⟩ := h
  have h1 : W * 1 ≤ W * T := Int.mul_le_mul_of_nonneg_left b (by omega)
  have h2 : 1 * T ≤ W * T := Int.mul_le_mul_of_nonneg_right a (by omega)
  omega
theorem stq_none {W T p d x y z : Int} {ba : Int → Int} (hx : x = p % W + dxf d) (hy : y = p / W + dyf d) (ho : ¬ ((0 ≤ x ∧ x < W) ∧ 0 ≤ y ∧ y < T)) (hz : z = -1) : STQ W T ba p d z := ⟨by omega, fun w => by omega, fun q h _ => by
  exfalso; apply ho; rw [hx, hy]; exact ⟨h.1, h.2.1⟩⟩
theorem stq_cell {W T p d x y q r : Int} (hx : x = p % W + dxf d) (hy : y = p / W + dyf d) (hi : (0 ≤ x ∧ x < W) ∧ 0 ≤ y ∧ y < T) (hr : r = y * W) (hq : q = r + x) : nb W T p d q := ⟨by rw [← hx]; exact hi.1, by rw [← hy]; exact hi.2, by rw [hq, hr, hx, hy]⟩
theorem stq_ok {W T p d q v z : Int} {ba : Int → Int} (h : nb W T p d q) (w : 1 ≤ W) (hv : v = ba q) (v0 : v = 0) (hz : z = q) : STQ W T ba p d z := by
  have := nb_in h w
  exact ⟨by omega, fun _ => by rw [hz]; exact ⟨h, by rw [← hv]; exact v0⟩, fun q' h' _ => by rw [hz]; exact nb_un h h'⟩
theorem stq_bar {W T p d q v z : Int} {ba : Int → Int} (h : nb W T p d q) (hv : v = ba q) (v0 : v ≠ 0) (hz : z = -1) : STQ W T ba p d z := ⟨by omega, fun w => by omega, fun q' h' b => by
  have := nb_un h h'
  exfalso; rw [← this, ← hv] at b; exact v0 b⟩
theorem rtq_bar {W T to c s : Int} {ba co bk bm : Int → Int} (h : RTQ W T ba co bk bm to c) (hp : PIV co s c) (s1 : s < 4 * (W * T)) (c9 : c ≤ 999999) : ba (s / 4) = 0 := ((h.2.2.1 s hp.1 s1).2 (by rw [hp.2]; omega)).1
theorem cff_of {W T i n m w t : Int} {co : Int → Int} (h : CF1 co i) (hw : w = W) (ht : t = T) (hm : m = 4 * w) (hn : n = m * t) (hi : n ≤ i) : CFF W T co := fun s a b => h s a (by
  have : n = 4 * (W * T) := by rw [hn, hm, hw, ht, Int.mul_assoc]
  omega)
theorem four_n {W T n m w t : Int} (hw : w = W) (ht : t = T) (hm : m = 4 * w) (hn : n = m * t) : n = 4 * (W * T) := by rw [hn, hm, hw, ht, Int.mul_assoc]
