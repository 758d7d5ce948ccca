-- the class's trees: every node is in the order, parents ahead; what is placed lies in a stretch that at most doubles with each shift
def TQP0 (or' pr lv : Int → Int) (i : Int) : Prop := (0 ≤ lv (or' i) ∧ lv (or' i) ≤ i) ∧ ((pr (or' i) = -1 ∧ lv (or' i) = 0) ∨ ∃ k, 0 ≤ k ∧ k < i ∧ pr (or' i) = or' k ∧ lv (or' i) = lv (or' k) + 1)
def TQB (n : Int) (or' : Int → Int) (pr : Int → Int) (lv : Int → Int) (pt : Int → Int) (s : Int) (p : Int) : Prop := (∀ i, 0 ≤ i → i < s → 0 ≤ or' i ∧ or' i < n) ∧ (∀ v, 0 ≤ v → v < n → pt v < p → ∃ i, 0 ≤ i ∧ i < s ∧ or' i = v) ∧ ∀ i, 0 ≤ i → i < s → TQP0 or' pr lv i
def TQA (n : Int) (or' : Int → Int) (pr : Int → Int) (lv : Int → Int) (pt : Int → Int) (s : Int) (p : Int) : Prop := TQB n or' pr lv pt s (p + 1)
def TQI (n : Int) (or' : Int → Int) (pr : Int → Int) (lv : Int → Int) (nr : Int → Int) (pt : Int → Int) (sn : Int) (s : Int) (en : Int) (p : Int) (k : Int) (w : Int) : Prop := k ≤ en ∧ (∀ i, 0 ≤ i → i < en → 0 ≤ or' i ∧ or' i < n) ∧ (∀ v, 0 ≤ v → v < n → pt v < p → ∃ i, 0 ≤ i ∧ i < s ∧ or' i = v) ∧ (∀ i, 0 ≤ i → i < en → TQP0 or' pr lv i) ∧ (∀ b, 0 ≤ b → b < n → bit sn b → ∃ i, s ≤ i ∧ i < en ∧ or' i = b) ∧ (24 ≤ en ∨ ((∀ i, s ≤ i → i < k → ∀ b, 0 ≤ b → b < n → bit (nr (or' i)) b → bit sn b) ∧ ∀ b, 0 ≤ b → b < w → b < n → bit (nr (or' k)) b → bit sn b))
def TQH (n : Int) (or' : Int → Int) (pr : Int → Int) (lv : Int → Int) (nr : Int → Int) (pt : Int → Int) (sn : Int) (s : Int) (en : Int) (p : Int) (k : Int) : Prop := TQI n or' pr lv nr pt sn s en p k 0
theorem tqp_congr {or' or2 pr pr2 lv lv2 : Int → Int} {i : Int} (h : TQP0 or' pr lv i) (i0 : 0 ≤ i) (ho : ∀ j, 0 ≤ j → j ≤ i → or2 j = or' j) (hp : pr2 (or' i) = pr (or' i)) (hl : ∀ j, 0 ≤ j → j ≤ i → lv2 (or' j) = lv (or' j)) : TQP0 or2 pr2 lv2 i := by
  unfold TQP0
  rw [ho i i0 (by omega), hp, hl i i0 (by omega)]
  refine ⟨h.1, ?_⟩
  rcases h.2 with q | ⟨k, k0, k1, k2, k3⟩
  · exact Or.inl q
  · exact Or.inr ⟨k, k0, k1, by rw [ho k k0 (by omega)]; exact k2, by rw [ho k k0 (by omega), hl k k0 (by omega)]; exact k3⟩
theorem tqb_start {or' pr lv pt : Int → Int} {s p n : Int} (hs : s = 0) (hp : p = 0) (h : ∀ v, 0 ≤ v → v < n → 0 ≤ pt v) : TQB n or' pr lv pt s p := ⟨fun i a b => by omega, fun v a b c => by have := h v a b; omega, fun i a b => by omega⟩
theorem tqi_start {or' or2 pr pr2 lv lv2 pt nr : Int → Int} {n sn s en p k r q x pv lq : Int} (h : TQB n or' pr lv pt s p) (hw : WTB or' pt s p) (r0 : 0 ≤ r) (r1 : r < n) (n24 : n ≤ 24) (hr : RTP pt r p) (hs : st1 or' or2 q x) (hq : q = s) (hx : x = r) (hp : st1 pr pr2 r pv) (hpv : pv = -1) (hl : st1 lv lv2 r lq) (hlq : lq = 0) (hsn : bvp sn = bvp 1 <<< r.toNat) (he : en = s + 1) (hk : k = s) : TQH n or2 pr2 lv2 nr pt sn s en p k := by
  obtain ⟨h1, h2, h3⟩ := h
  have s0 := hw.1
  have os : or2 s = r := by rw [(hs s s0).1 (by omega)]; exact hx
  have oo : ∀ i, 0 ≤ i → i < s → or2 i = or' i := fun i a b => (hs i a).2 (by omega)
  have nr' : ∀ i, 0 ≤ i → i < s → or' i ≠ r := fun i a b e => by
    have := (hw.2.2 i a b).2.2
    rw [e, hr] at this; omega
  refine ⟨by omega, fun i a b => ?_, fun v a b c => ?_, fun i a b => ?_, fun b b0 b1 z => ?_, Or.inr ⟨fun i a b => by omega, fun b a c => by omega⟩⟩
  · by_cases e : i = s
    · rw [e, os]; exact ⟨r0, r1⟩
    · rw [oo i a (by omega)]; exact h1 i a (by omega)
  · obtain ⟨i, i0, i1, i2⟩ := h2 v a b c
    exact ⟨i, i0, i1, by rw [oo i i0 i1]; exact i2⟩
  · by_cases e : i = s
    · have l0 : lv2 (or2 i) = 0 := by rw [e, os, (hl r r0).1 rfl]; exact hlq
      have p0 : pr2 (or2 i) = -1 := by rw [e, os, (hp r r0).1 rfl]; exact hpv
      exact ⟨by omega, Or.inl ⟨p0, l0⟩⟩
    · exact tqp_congr (h3 i a (by omega)) a (fun j j0 j1 => oo j j0 (by omega)) ((hp _ (h1 i a (by omega)).1).2 (nr' i a (by omega))) (fun j j0 j1 => (hl _ (h1 j j0 (by omega)).1).2 (nr' j j0 (by omega)))
  · rw [bit_shl hsn rfl r0 b0 (by omega)] at z
    exact ⟨s, by omega, by omega, by rw [os, z]⟩
theorem tqi_of {or' pr lv pt nr : Int → Int} {n sn s en p k w : Int} (h : TQH n or' pr lv nr pt sn s en p k) (hk : k < en) (hw : w = 0) : TQI n or' pr lv nr pt sn s en p k w := by rw [hw]; exact h
theorem tqi_skip {or' pr lv pt nr : Int → Int} {n sn s en p k w w' v : Int} (h : TQI n or' pr lv nr pt sn s en p k w) (hv : v = or' k) (hb : ¬ bit (nr v) w ∨ bit sn w) (hw : w' = w + 1) : TQI n or' pr lv nr pt sn s en p k w' := by
  obtain ⟨h0, h1, h2, h3, h4, h5⟩ := h
  refine ⟨h0, h1, h2, h3, h4, ?_⟩
  rcases h5 with q | ⟨q, r⟩
  · exact Or.inl q
  · refine Or.inr ⟨q, fun b a c d z => ?_⟩
    by_cases e : b = w
    · rcases hb with y | y
      · rw [e, ← hv] at z; exact absurd z y
      · rw [e]; exact y
    · exact r b a (by omega) d z
theorem tqi_step {or' or2 pr pr2 lv lv2 pt nr : Int → Int} {n sn sn' s en en' p k v w w' q x o pv l0 l1 : Int} (h : TQI n or' pr lv nr pt sn s en p k w) (hi : WTI n or' pt sn s en p k) (hk : k < en) (e24 : en < 24) (hc : PNC n nr pt) (hv : v = or' k) (w0 : 0 ≤ w) (w1 : w < n) (n24 : n ≤ 24) (hb : bit (nr v) w) (hn : ¬ bit sn w) (hs : st1 or' or2 q x) (hq : q = en) (hx : x = w) (hp : st1 pr pr2 w pv) (hpv : pv = v) (hl : st1 lv lv2 w l1) (hl0 : l0 = lv v) (hl1 : l1 = l0 + 1) (ho : bvp o = bvp 1 <<< w.toNat) (hsn : bvp sn' = bvp sn ||| bvp o) (he : en' = en + 1) (hw : w' = w + 1) : TQI n or2 pr2 lv2 nr pt sn' s en' p k w' := by
  obtain ⟨h0, h1, h2, h3, h4, h5⟩ := h
  obtain ⟨s0, se, sk, _, i5, i6, i7⟩ := hi
  have k0 : 0 ≤ k := by omega
  have oe : or2 en = w := by rw [(hs en (by omega)).1 (by omega)]; exact hx
  have oo : ∀ i, 0 ≤ i → i < en → or2 i = or' i := fun i a b => (hs i a).2 (by omega)
  have vk := i7 k sk hk
  rw [← hv] at vk
  have pw : pt w = p := by rw [hc.1 v w vk.1 vk.2.1 w0 w1 hb]; exact vk.2.2.1
  have nw : ∀ i, 0 ≤ i → i < en → or' i ≠ w := fun i a b e => by
    by_cases c : i < s
    · have := (i6 i a c).2.2
      rw [e, pw] at this; omega
    · have := (i7 i (by omega) b).2.2.2
      rw [e] at this; exact hn this
  have bn : ∀ b, bit sn b → bit sn' b := fun b z => (bit_or hsn b).mpr (Or.inl z)
  have bw : bit sn' w := (bit_or hsn w).mpr (Or.inr (by rw [bit_shl ho rfl w0 w0 (by omega)]))
  refine ⟨by omega, fun i a b => ?_, fun v a b c => ?_, fun i a b => ?_, fun b b0 b1 z => ?_, ?_⟩
  · by_cases e : i = en
    · rw [e, oe]; exact ⟨w0, w1⟩
    · rw [oo i a (by omega)]; exact h1 i a (by omega)
  · obtain ⟨i, i0, i1, i2⟩ := h2 v a b c
    exact ⟨i, i0, i1, by rw [oo i i0 (by omega)]; exact i2⟩
  · by_cases e : i = en
    · have kv : or2 k = v := by rw [oo k k0 hk, hv]
      have lv' : lv2 v = lv v := (hl v vk.1).2 (by rw [hv]; exact nw k k0 hk)
      have lw : lv2 w = lv v + 1 := by rw [(hl w w0).1 rfl, hl1, hl0]
      have pk : pr2 w = v := by rw [(hp w w0).1 rfl]; exact hpv
      have hk3 := (h3 k k0 hk).1
      rw [← hv] at hk3
      unfold TQP0
      rw [e, oe, lw, pk]
      exact ⟨by omega, Or.inr ⟨k, k0, hk, kv.symm, by rw [kv, lv']⟩⟩
    · exact tqp_congr (h3 i a (by omega)) a (fun j j0 j1 => oo j j0 (by omega)) ((hp _ (h1 i a (by omega)).1).2 (nw i a (by omega))) (fun j j0 j1 => (hl _ (h1 j j0 (by omega)).1).2 (nw j j0 (by omega)))
  · rcases (bit_or hsn b).mp z with y | y
    · obtain ⟨i, i0, i1, i2⟩ := h4 b b0 b1 y
      exact ⟨i, i0, by omega, by rw [oo i (by omega) i1]; exact i2⟩
    · rw [bit_shl ho rfl w0 b0 (by omega)] at y
      exact ⟨en, by omega, by omega, by rw [oe, y]⟩
  · rcases h5 with y | ⟨y, r⟩
    · omega
    · refine Or.inr ⟨fun i a b c d f z => ?_, fun b a c d z => ?_⟩
      · rw [oo i (by omega) (by omega)] at z; exact bn c (y i a b c d f z)
      · rw [oo k k0 hk] at z
        by_cases e : b = w
        · rw [e]; exact bw
        · exact bn b (r b a (by omega) d z)
theorem tqi_next {or' pr lv pt nr : Int → Int} {n sn s en p k k' w : Int} (h : TQI n or' pr lv nr pt sn s en p k w) (hk : k < en) (hw : n ≤ w ∨ 24 ≤ en) (hk' : k' = k + 1) : TQH n or' pr lv nr pt sn s en p k' := by
  obtain ⟨h0, h1, h2, h3, h4, h5⟩ := h
  refine ⟨by omega, h1, h2, h3, h4, ?_⟩
  rcases hw with hw | hw
  · rcases h5 with q | ⟨q, r⟩
    · exact Or.inl q
    · refine Or.inr ⟨fun i a b c d f z => ?_, fun b a c => by omega⟩
      by_cases e : i = k
      · rw [e] at z; exact r c d (by omega) f z
      · exact q i a (by omega) c d f z
  · exact Or.inl hw
theorem tq_sur {or' : Int → Int} {n en v : Int} (h1 : ∀ i, 0 ≤ i → i < en → 0 ≤ or' i ∧ or' i < n) (h5 : ∀ i j, 0 ≤ i → i < j → j < en → or' i ≠ or' j) (n24 : n ≤ 24) (e24 : 24 ≤ en) (v0 : 0 ≤ v) (v1 : v < n) : ∃ i, 0 ≤ i ∧ i < en ∧ or' i = v := by
  refine Classical.byContradiction (fun ne => ?_)
  have nn : ∀ i, 0 ≤ i → i < en → or' i ≠ v := fun i a b e => ne ⟨i, a, b, e⟩
  have := php 25 24 (fun i => ((fun j : Int => if j < 24 then or' j else v) (i : Int)).toNat) (fun i hi => by
    show (if (i : Int) < 24 then or' i else v).toNat < 24
    split
    · have := h1 i (by omega) (by omega); omega
    · omega) (fun i j hi hj e => by
    have e : (if (i : Int) < 24 then or' i else v).toNat = (if (j : Int) < 24 then or' j else v).toNat := e
    by_cases a : (i : Int) < 24
    · have ha := h1 i (by omega) (by omega)
      rw [if_pos a] at e
      by_cases b : (j : Int) < 24
      · have hb := h1 j (by omega) (by omega)
        rw [if_pos b] at e
        by_cases c : i < j
        · exact absurd (by omega) (h5 i j (by omega) (by omega) (by omega))
        · by_cases d : j < i
          · exact absurd (by omega) (h5 j i (by omega) (by omega) (by omega))
          · omega
      · rw [if_neg b] at e
        exact absurd (by omega) (nn i (by omega) (by omega))
    · rw [if_neg a] at e
      by_cases b : (j : Int) < 24
      · have hb := h1 j (by omega) (by omega)
        rw [if_pos b] at e
        exact absurd (by omega) (nn j (by omega) (by omega))
      · omega)
  omega
theorem tqa_of {or' pr lv pt nr : Int → Int} {n sn s en p k an : Int} (h : TQH n or' pr lv nr pt sn s en p k) (hi : WTI n or' pt sn s en p k) (hc : PNC n nr pt) (hk : en ≤ k) (n24 : n ≤ 24) (ha : an = en) : TQA n or' pr lv pt an p := by
  obtain ⟨h0, h1, h2, h3, h4, h5⟩ := h
  obtain ⟨s0, se, sk, _, i5, i6, i7⟩ := hi
  subst ha
  refine ⟨h1, fun v a b c => ?_, h3⟩
  by_cases e : pt v < p
  · obtain ⟨i, i0, i1, i2⟩ := h2 v a b e
    exact ⟨i, i0, by omega, i2⟩
  · rcases h5 with q | ⟨q, _⟩
    · exact tq_sur h1 i5 n24 q a b
    · have r := i7 s (by omega) se
      have := hc.2 (fun b => bit sn b) (fun u w u0 u1 w0 w1 hu z => by
        obtain ⟨i, i0, i1, i2⟩ := h4 u u0 u1 hu
        rw [← i2] at z
        exact q i i0 (by omega) w w0 w1 z) (or' s) v r.1 r.2.1 a b (by omega) r.2.2.2
      obtain ⟨i, i0, i1, i2⟩ := h4 v a b this
      exact ⟨i, by omega, i1, i2⟩
/-- the order has every node once, parents ahead -/
def TQD (n : Int) (or' : Int → Int) (pr : Int → Int) (lv : Int → Int) (s : Int) : Prop := (0 ≤ s ∧ s ≤ 24) ∧ (∀ i, 0 ≤ i → i < s → 0 ≤ or' i ∧ or' i < n) ∧ (∀ v, 0 ≤ v → v < n → ∃ i, 0 ≤ i ∧ i < s ∧ or' i = v) ∧ (∀ i, 0 ≤ i → i < s → TQP0 or' pr lv i) ∧ ∀ i j, 0 ≤ i → i < s → 0 ≤ j → j < s → or' i = or' j → i = j
theorem tqd_of {or' pr lv pt : Int → Int} {s p n ps : Int} (h : TQB n or' pr lv pt s p) (hw : WTB or' pt s p) (hf : FPA n ps pt) (hp : ps ≤ p) (s24 : s ≤ 24) : TQD n or' pr lv s := by
  obtain ⟨h1, h2, h3⟩ := h
  refine ⟨⟨hw.1, s24⟩, h1, fun v a b => h2 v a b (by have := hf.2 v a b; omega), h3, fun i j i0 i1 j0 j1 e => ?_⟩
  by_cases c : i < j
  · exact absurd e (hw.2.1 i j i0 c j1)
  · by_cases d : j < i
    · exact absurd e.symm (hw.2.1 j i j0 d i1)
    · omega
/-- the nodes whose parent has been placed, counted -/
noncomputable def tqc (or' pr : Int → Int) (s k n : Int) : Int := pxs (fun c => @ite _ (∃ q, k ≤ q ∧ q < s ∧ pr c = or' q) (Classical.propDecidable _) 1 0) n
theorem tqc_0 {or' pr : Int → Int} {s k n : Int} : 0 ≤ tqc or' pr s k n := by
  refine pxs_lb n (fun c => ?_)
  by_cases r : ∃ q, k ≤ q ∧ q < s ∧ pr c = or' q
  · rw [if_pos r]; omega
  · rw [if_neg r]; omega
theorem tqc_ub {or' pr : Int → Int} {s k n : Int} (n0 : 0 ≤ n) : tqc or' pr s k n ≤ n := by
  refine pxs_ub n n0 (fun c => ?_)
  by_cases r : ∃ q, k ≤ q ∧ q < s ∧ pr c = or' q
  · rw [if_pos r]; omega
  · rw [if_neg r]; omega
theorem tqc_step {or' pr lv : Int → Int} {s k k' n v : Int} (h : TQD n or' pr lv s) (k0 : 0 ≤ k) (k1 : k < s) (hv : v = or' k) (hk : k' = k + 1) : tqc or' pr s k n = tqc or' pr s k' n + pxs (kid pr v) n := by
  refine pxs_add n (fun c a b => ?_)
  unfold kid
  by_cases q : pr c = v
  · rw [if_pos q, if_pos ⟨k, by omega, k1, by rw [q, hv]⟩, if_neg (fun ⟨q', a1, a2, a3⟩ => by
      have := h.2.2.2.2 k q' k0 k1 (by omega) a2 (by rw [← hv, ← q, a3]); omega)]
    omega
  · rw [if_neg q]
    by_cases r : ∃ q, k' ≤ q ∧ q < s ∧ pr c = or' q
    · obtain ⟨q', a1, a2, a3⟩ := r
      rw [if_pos ⟨q', by omega, a2, a3⟩, if_pos ⟨q', a1, a2, a3⟩]; omega
    · rw [if_neg r, if_neg (fun ⟨q', a1, a2, a3⟩ => by
        by_cases e : q' = k
        · rw [e, ← hv] at a3; exact q a3
        · exact r ⟨q', by omega, a2, a3⟩)]
      omega
/-- from where on nodes are placed -/
def tql (s k : Int) : Int := if s ≤ k then 0 else k + 1
theorem tql_0 {s k : Int} (k0 : -1 ≤ k) : 0 ≤ tql s k := by
  unfold tql
  by_cases c : s ≤ k
  · rw [if_pos c]; omega
  · rw [if_neg c]; omega
theorem tql_lt {s k : Int} (h : k < s) : tql s k = k + 1 := by unfold tql; rw [if_neg (by omega)]
theorem tql_ge {s k : Int} (h : s ≤ k) : tql s k = 0 := by unfold tql; rw [if_pos h]
/-- the stretch -/
def TQX (or' x : Int → Int) (s k t : Int) : Prop := 0 ≤ t ∧ ∃ lo hi : Int, (lo ≤ 0 ∧ 0 ≤ hi) ∧ hi - lo ≤ 4 * 2 ^ t.toNat - 4 ∧ ∀ q, k ≤ q → q < s → lo ≤ x (or' q) ∧ x (or' q) ≤ hi
theorem tqx_le {or' x : Int → Int} {s k t t' : Int} (h : TQX or' x s k t) (ht : t ≤ t') : TQX or' x s k t' := by
  obtain ⟨t0, lo, hi, a, b, c⟩ := h
  refine ⟨by omega, lo, hi, a, ?_, c⟩
  have := pow_le2 (a := t.toNat) (b := t'.toNat) (by omega)
  omega
theorem tqx_bd {or' x : Int → Int} {s k t q : Int} (h : TQX or' x s k t) (ht : t ≤ 23) (q0 : k ≤ q) (q1 : q < s) : -33554432 ≤ x (or' q) ∧ x (or' q) ≤ 33554432 := by
  obtain ⟨t0, lo, hi, p, b, c⟩ := h
  have := pow_le2 (a := t.toNat) (b := 23) (by omega)
  have := c q q0 q1
  have : (2 : Int) ^ 23 = 8388608 := by decide
  omega
/-- what is under placed nodes is placed -/
def TQU (n : Int) (or' : Int → Int) (un : Int → Int) (s : Int) (k : Int) : Prop := ∀ q, tql s k ≤ q → q < s → bit (un (or' q)) (or' q) ∧ ∀ b, 0 ≤ b → b < n → bit (un (or' q)) b → ∃ q', tql s k ≤ q' ∧ q' < s ∧ or' q' = b
/-- kids are placed, on one level -/
def TQK (or' lv kd : Int → Int) (ct s k : Int) : Prop := ∀ j, 0 ≤ j → j < ct → (∃ q, tql s k ≤ q ∧ q < s ∧ or' q = kd j) ∧ lv (kd j) = lv (kd 0) ∧ 0 ≤ lv (kd j) ∧ lv (kd j) < 24
/-- there is room -/
def TQC (n : Int) (or' : Int → Int) (pr : Int → Int) (ct : Int) (s : Int) (k : Int) : Prop := tqc or' pr s (tql s k) n + ct ≤ 24
/-- what of the kids' trees is side by side -/
def TQP (n : Int) (or' : Int → Int) (kd : Int → Int) (pl : Int) (ct : Int) (s : Int) (k : Int) : Prop := (1 ≤ ct → bit pl (kd 0)) ∧ ∀ b, 0 ≤ b → b < n → bit pl b → ∃ q, tql s k ≤ q ∧ q < s ∧ or' q = b
def TQ1 (n : Int) (or' : Int → Int) (pr : Int → Int) (x : Int → Int) (s : Int) (k : Int) (j : Int) : Prop := 1 ≤ j ∧ TQX or' x s (tql s k) (tqc or' pr s (tql s k) n + j - 1)
def TQ0 (n : Int) (or' : Int → Int) (pr : Int → Int) (x : Int → Int) (s : Int) (k : Int) : Prop := TQX or' x s (tql s k) (tqc or' pr s (tql s k) n)
def TQ2 (n : Int) (or' : Int → Int) (pr : Int → Int) (x : Int → Int) (ct : Int) (s : Int) (k : Int) : Prop := TQX or' x s (tql s k) (tqc or' pr s (tql s k) n + if ct ≤ 1 then 0 else ct - 1)
/-- the edge of a level -/
def TQF (lv : Int → Int) (x : Int → Int) (st : Int) (l : Int) (an : Int) (v : Int) : Prop := (an = -2147483648 ∧ ∀ u, 0 ≤ u → u < v → bit st u → lv u ≠ l) ∨ ∃ u, 0 ≤ u ∧ u < v ∧ bit st u ∧ lv u = l ∧ an = x u
def TQE (n : Int) (lv : Int → Int) (x : Int → Int) (st : Int) (l : Int) (an : Int) : Prop := TQF lv x st l an n
theorem tqf_start {lv x : Int → Int} {st l an v : Int} (ha : an = -2147483648) (hv : v = 0) : TQF lv x st l an v := Or.inl ⟨ha, fun u a b => by omega⟩
theorem tqf_skip {lv x : Int → Int} {st l an v v' : Int} (h : TQF lv x st l an v) (hb : ¬ bit st v ∨ lv v ≠ l) (hv : v' = v + 1) : TQF lv x st l an v' := by
  rcases h with ⟨a, b⟩ | ⟨u, u0, u1, u2⟩
  · refine Or.inl ⟨a, fun u u0 u1 u2 => ?_⟩
    by_cases e : u = v
    · rcases hb with q | q
      · rw [e] at u2; exact absurd u2 q
      · rw [e]; exact q
    · exact b u u0 (by omega) u2
  · exact Or.inr ⟨u, u0, by omega, u2⟩
theorem tqf_keep {lv x : Int → Int} {st l an v v' : Int} (h : TQF lv x st l an v) (ha : an ≠ -2147483648) (hv : v' = v + 1) : TQF lv x st l an v' := by
  rcases h with ⟨a, b⟩ | ⟨u, u0, u1, u2⟩
  · exact absurd a ha
  · exact Or.inr ⟨u, u0, by omega, u2⟩
theorem tqf_take {lv x : Int → Int} {st l an v v' : Int} (v0 : 0 ≤ v) (hb : bit st v) (hl : lv v = l) (ha : an = x v) (hv : v' = v + 1) : TQF lv x st l an v' := Or.inr ⟨v, v0, by omega, hb, hl, ha⟩
theorem tqe_of {lv x : Int → Int} {st l an v n : Int} (h : TQF lv x st l an v) (hv : v = n) : TQE n lv x st l an := by rw [← hv]; exact h
/-- a kid's tree -/
def TQT (un kd : Int → Int) (tr j : Int) : Prop := tr = un (kd j)
/-- a shift that has been found; the shift up to a level -/
def TQG (or' x : Int → Int) (s k d : Int) : Prop := ∃ a b, (k ≤ a ∧ a < s) ∧ (k ≤ b ∧ b < s) ∧ (d = x (or' a) + 4 - x (or' b) ∨ (d = -1000000 ∧ 1000000 ≤ x (or' b) - x (or' a) - 4))
def TQS (or' : Int → Int) (lv : Int → Int) (kd : Int → Int) (x : Int → Int) (d : Int) (l : Int) (s : Int) (k : Int) : Prop := (d = -1000000 ∧ l ≤ lv (kd 0)) ∨ TQG or' x s (tql s k) d
theorem tqs_start {or' lv kd x : Int → Int} {d l s k ct : Int} (hd : d = -1000000) (hl : l = 0) (h : TQK or' lv kd ct s k) (hc : 1 ≤ ct) : TQS or' lv kd x d l s k := Or.inl ⟨hd, by have := h 0 (by omega) (by omega); omega⟩
theorem tqs_step {or' lv kd x pr un : Int → Int} {d d' l l' s k ct j r e f pl tr n : Int} (h : TQS or' lv kd x d l s k) (hp : TQP n or' kd pl ct s k) (hu : TQU n or' un s k) (hk : TQK or' lv kd ct s k) (j1 : 1 ≤ j) (jc : j < ct) (htr : tr = un (kd j)) (hr : TQE n lv x pl l r) (he : TQE n lv x tr l e) (hN : r ≠ -2147483648) (hN2 : e ≠ -2147483648) (hf : f = r + 4 - e) (hm : (d' = d ∨ d' = f) ∧ d ≤ d' ∧ f ≤ d') (hl : l' = l + 1) (_ : pr = pr) : TQS or' lv kd x d' l' s k := by
  rcases hr with ⟨q, _⟩ | ⟨u, u0, u1, u2, u3, u4⟩
  · exact absurd q hN
  rcases he with ⟨q, _⟩ | ⟨w, w0, w1, w2, w3, w4⟩
  · exact absurd q hN2
  obtain ⟨a, a0, a1, a2⟩ := hp.2 u u0 u1 u2
  obtain ⟨⟨q, q0, q1, q2⟩, _⟩ := hk j (by omega) jc
  obtain ⟨b, b0, b1, b2⟩ := (hu q q0 q1).2 w w0 w1 (by rw [q2, ← htr]; exact w2)
  rw [u4, w4] at hf
  right
  rcases hm.1 with c | c
  · rcases h with ⟨y, y2⟩ | ⟨a', b', y⟩
    · exact ⟨a, b, ⟨a0, a1⟩, ⟨b0, b1⟩, by rw [a2, b2]; omega⟩
    · exact ⟨a', b', by rw [c]; exact y⟩
  · exact ⟨a, b, ⟨a0, a1⟩, ⟨b0, b1⟩, by rw [a2, b2]; omega⟩
theorem tqs_skip {or' lv kd x pr un : Int → Int} {d l l' s k ct j r e pl tr n : Int} (h : TQS or' lv kd x d l s k) (hx : TQ1 n or' pr x s k j) (hc : TQC n or' pr ct s k) (hp : TQP n or' kd pl ct s k) (hu : TQU n or' un s k) (hk : TQK or' lv kd ct s k) (hd : TQD n or' pr lv s) (k0 : 0 ≤ k) (j1 : 1 ≤ j) (jc : j < ct) (htr : tr = un (kd j)) (hr : TQE n lv x pl l r) (he : TQE n lv x tr l e) (hN : r = -2147483648 ∨ e = -2147483648) (hl : l' = l + 1) : TQS or' lv kd x d l' s k := by
  rcases h with ⟨y, y2⟩ | y
  · by_cases z : l = lv (kd 0)
    · exfalso
      have t23 : tqc or' pr s (tql s k) n + j - 1 ≤ 23 := by unfold TQC at hc; omega
      have bd : ∀ q, tql s k ≤ q → q < s → x (or' q) ≠ -2147483648 := fun q a b c => by
        have := tqx_bd hx.2 t23 a b; omega
      have rn : ∀ q, tql s k ≤ q → q < s → 0 ≤ or' q ∧ or' q < n := fun q a b => hd.2.1 q (by have := tql_0 (s := s) (k := k) (by omega); omega) b
      obtain ⟨⟨q0, p1, p2, p3⟩, p4⟩ := hk 0 (by omega) (by omega)
      obtain ⟨⟨q1, r1, r2, r3⟩, r4, r5⟩ := hk j (by omega) jc
      have n0 := rn q0 p1 p2
      have n1 := rn q1 r1 r2
      rw [p3] at n0
      rw [r3] at n1
      have ub := (hu q1 r1 r2).1
      rw [r3, ← htr] at ub
      rcases hN with c | c
      · rcases hr with ⟨_, g⟩ | ⟨u, u0, u1, u2, u3, u4⟩
        · exact g (kd 0) n0.1 n0.2 (hp.1 (by omega)) z.symm
        · obtain ⟨a, a0, a1, a2⟩ := hp.2 u u0 u1 u2
          exact bd a a0 a1 (by rw [a2, ← u4]; exact c)
      · rcases he with ⟨_, g⟩ | ⟨u, u0, u1, u2, u3, u4⟩
        · exact g (kd j) n1.1 n1.2 ub (by rw [r4]; exact z.symm)
        · obtain ⟨a, a0, a1, a2⟩ := (hu q1 r1 r2).2 u u0 u1 (by rw [r3, ← htr]; exact u2)
          exact bd a a0 a1 (by rw [a2, ← u4]; exact c)
    · exact Or.inl ⟨y, by omega⟩
  · exact Or.inr y
theorem tqe_val {or' pr lv kd x : Int → Int} {l s k ct j r pl n : Int} (hx : TQ1 n or' pr x s k j) (hc : TQC n or' pr ct s k) (hp : TQP n or' kd pl ct s k) (jc : j < ct) (hr : TQE n lv x pl l r) (hN : r ≠ -2147483648) : -33554432 ≤ r ∧ r ≤ 33554432 := by
  have t23 : tqc or' pr s (tql s k) n + j - 1 ≤ 23 := by unfold TQC at hc; omega
  rcases hr with ⟨q, _⟩ | ⟨u, u0, u1, u2, u3, u4⟩
  · exact absurd q hN
  · obtain ⟨a, a0, a1, a2⟩ := hp.2 u u0 u1 u2
    have := tqx_bd hx.2 t23 a0 a1
    rw [a2, ← u4] at this; exact this
theorem tqe_val2 {or' pr lv kd x un : Int → Int} {l s k ct j r tr n : Int} (hx : TQ1 n or' pr x s k j) (hc : TQC n or' pr ct s k) (hu : TQU n or' un s k) (hk : TQK or' lv kd ct s k) (j1 : 1 ≤ j) (jc : j < ct) (htr : tr = un (kd j)) (hr : TQE n lv x tr l r) (hN : r ≠ -2147483648) : -33554432 ≤ r ∧ r ≤ 33554432 := by
  have t23 : tqc or' pr s (tql s k) n + j - 1 ≤ 23 := by unfold TQC at hc; omega
  rcases hr with ⟨q, _⟩ | ⟨u, u0, u1, u2, u3, u4⟩
  · exact absurd q hN
  · obtain ⟨⟨q1, r1, r2, r3⟩, _⟩ := hk j (by omega) jc
    obtain ⟨a, a0, a1, a2⟩ := (hu q1 r1 r2).2 u u0 u1 (by rw [r3, ← htr]; exact u2)
    have := tqx_bd hx.2 t23 a0 a1
    rw [a2, ← u4] at this; exact this
theorem tqx_shift {or' x x' : Int → Int} {s k t t' d : Int} (h : TQX or' x s k t) (hd : TQG or' x s k d) (hs : ∀ q, k ≤ q → q < s → x' (or' q) = x (or' q) ∨ x' (or' q) = x (or' q) + d) (ht : t' = t + 1) : TQX or' x' s k t' := by
  obtain ⟨t0, lo, hi, ⟨a0, a1⟩, b, c⟩ := h
  have e2 : (2 : Int) ^ t'.toNat = 2 * 2 ^ t.toNat := by
    rw [show t'.toNat = t.toNat + 1 by omega, Int.pow_succ]; omega
  have key : d ≤ hi - lo + 4 ∧ lo - hi ≤ d := by
    obtain ⟨a, b, ⟨p, q⟩, ⟨r, s⟩, e⟩ := hd
    have := c a p q
    have := c b r s
    omega
  rcases Int.le_total 0 d with g | g
  · refine ⟨by omega, lo, hi + d, ⟨a0, by omega⟩, by omega, fun j j0 j1 => ?_⟩
    have := c j j0 j1
    have := hs j j0 j1
    omega
  · refine ⟨by omega, lo + d, hi, ⟨by omega, a1⟩, by omega, fun j j0 j1 => ?_⟩
    have := c j j0 j1
    have := hs j j0 j1
    omega
/-- a tree is being shifted -/
def TQV (n : Int) (or' : Int → Int) (pr : Int → Int) (x : Int → Int) (d : Int) (tr : Int) (s : Int) (k : Int) (j : Int) (v : Int) : Prop := 1 ≤ j ∧ ∃ x0 : Int → Int, TQX or' x0 s (tql s k) (tqc or' pr s (tql s k) n + j - 1) ∧ TQG or' x0 s (tql s k) d ∧ (∀ i, 0 ≤ i → i < v → bit tr i → x i = x0 i + d) ∧ ∀ i, 0 ≤ i → ¬ (i < v ∧ bit tr i) → x i = x0 i
theorem tqv_start {or' pr lv kd x : Int → Int} {d l tr s k j v n ct : Int} (h : TQ1 n or' pr x s k j) (hs : TQS or' lv kd x d l s k) (hk : TQK or' lv kd ct s k) (hc : 1 ≤ ct) (hl : 24 ≤ l) (hv : v = 0) : TQV n or' pr x d tr s k j v := by
  refine ⟨h.1, x, h.2, ?_, fun i a b => by omega, fun i _ _ => rfl⟩
  rcases hs with ⟨_, q⟩ | q
  · have := hk 0 (by omega) (by omega); omega
  · exact q
theorem tqv_skip {or' pr x : Int → Int} {d tr s k j v v' n : Int} (h : TQV n or' pr x d tr s k j v) (hb : ¬ bit tr v) (hv : v' = v + 1) : TQV n or' pr x d tr s k j v' := by
  obtain ⟨h0, x0, h1, h2, h3, h4⟩ := h
  refine ⟨h0, x0, h1, h2, fun i a b c => h3 i a (by by_cases e : i = v; rw [e] at c; exact absurd c hb; omega) c, fun i a b => h4 i a (fun z => b ⟨by omega, z.2⟩)⟩
theorem tqv_step {or' pr x x' : Int → Int} {d tr s k j v v' n a p y : Int} (h : TQV n or' pr x d tr s k j v) (v0 : 0 ≤ v) (hb : bit tr v) (ha : a = x v) (hy : y = a + d) (hs : st1 x x' p y) (hp : p = v) (hv : v' = v + 1) : TQV n or' pr x' d tr s k j v' := by
  obtain ⟨h0, x0, h1, h2, h3, h4⟩ := h
  refine ⟨h0, x0, h1, h2, fun i a b c => ?_, fun i a b => ?_⟩
  · by_cases e : i = v
    · rw [(hs i a).1 (by omega), hy, ha, e, h4 v v0 (by omega)]
    · rw [(hs i a).2 (by omega)]; exact h3 i a (by omega) c
  · rw [(hs i a).2 (fun e => b ⟨by omega, by rw [e, hp]; exact hb⟩)]; exact h4 i a (fun z => b ⟨by omega, z.2⟩)
theorem tqv_val {or' pr lv kd un x : Int → Int} {d tr s k j v n ct a y : Int} (h : TQV n or' pr x d tr s k j v) (hc : TQC n or' pr ct s k) (hu : TQU n or' un s k) (hk : TQK or' lv kd ct s k) (jc : j < ct) (htr : tr = un (kd j)) (v0 : 0 ≤ v) (v1 : v < n) (hb : bit tr v) (ha : a = x v) (hy : y = a + d) : -33554432 ≤ y ∧ y ≤ 33554432 := by
  obtain ⟨h0, x0, h1, h2, h3, h4⟩ := h
  have t23 : tqc or' pr s (tql s k) n + j ≤ 23 := by unfold TQC at hc; omega
  obtain ⟨⟨q1, r1, r2, r3⟩, _⟩ := hk j (by omega) jc
  obtain ⟨b, b0, b1, b2⟩ := (hu q1 r1 r2).2 v v0 v1 (by rw [r3, ← htr]; exact hb)
  have := tqx_bd (tqx_shift (x' := fun i => x0 i + d) h1 h2 (fun q _ _ => Or.inr rfl) (t' := tqc or' pr s (tql s k) n + j) (by omega)) t23 b0 b1
  have e := h4 v v0 (by omega)
  simp only [b2] at this
  rw [hy, ha, e]; exact this
theorem tqv_end {or' pr x : Int → Int} {d tr s k j j' v n : Int} (h : TQV n or' pr x d tr s k j v) (hd : ∀ q, tql s k ≤ q → q < s → 0 ≤ or' q) (hj : j' = j + 1) : TQ1 n or' pr x s k j' := by
  obtain ⟨h0, x0, h1, h2, h3, h4⟩ := h
  refine ⟨by omega, tqx_shift h1 h2 (fun q a b => ?_) (by omega)⟩
  by_cases c : or' q < v ∧ bit tr (or' q)
  · exact Or.inr (h3 _ (hd q a b) c.1 c.2)
  · exact Or.inl (h4 _ (hd q a b) c)
theorem tqd_lo {or' pr lv : Int → Int} {s k n : Int} (h : TQD n or' pr lv s) (k0 : -1 ≤ k) : ∀ q, tql s k ≤ q → q < s → 0 ≤ or' q := fun q a b => (h.2.1 q (by have := tql_0 (s := s) k0; omega) b).1
theorem tq1_start {or' pr x : Int → Int} {s k j n : Int} (h : TQ0 n or' pr x s k) (hj : j = 1) : TQ1 n or' pr x s k j := ⟨by omega, by rw [show tqc or' pr s (tql s k) n + j - 1 = tqc or' pr s (tql s k) n by omega]; exact h⟩
theorem tq2_of {or' pr x : Int → Int} {s k j n ct : Int} (h : TQ1 n or' pr x s k j) (hj : j ≤ ct ∨ j ≤ 1) : TQ2 n or' pr x ct s k := by
  refine tqx_le h.2 ?_
  by_cases c : ct ≤ 1
  · rw [if_pos c]; omega
  · rw [if_neg c]; omega
theorem tqp_0 {or' kd : Int → Int} {pl ct s k n : Int} (hp : pl = 0) (hc : ct = 0) : TQP n or' kd pl ct s k := ⟨fun h => by omega, fun b _ _ z => absurd (hp ▸ z) (bit_zero b)⟩
theorem tqp_start {or' lv kd un : Int → Int} {pl ct s k n : Int} (hu : TQU n or' un s k) (hk : TQK or' lv kd ct s k) (hc : 1 ≤ ct) (hp : pl = un (kd 0)) : TQP n or' kd pl ct s k := by
  obtain ⟨⟨q, a, b, c⟩, _⟩ := hk 0 (by omega) (by omega)
  have := hu q a b
  rw [c, ← hp] at this
  exact ⟨fun _ => this.1, this.2⟩
theorem tqp_step {or' lv kd un : Int → Int} {pl pl' tr ct s k n j : Int} (h : TQP n or' kd pl ct s k) (hu : TQU n or' un s k) (hk : TQK or' lv kd ct s k) (j0 : 0 ≤ j) (jc : j < ct) (htr : tr = un (kd j)) (ho : bvp pl' = bvp pl ||| bvp tr) : TQP n or' kd pl' ct s k := by
  obtain ⟨⟨q, a, b, c⟩, _⟩ := hk j j0 jc
  have := hu q a b
  rw [c, ← htr] at this
  refine ⟨fun z => (bit_or ho _).mpr (Or.inl (h.1 z)), fun b b0 b1 z => ?_⟩
  rcases (bit_or ho b).mp z with y | y
  · exact h.2 b b0 b1 y
  · exact this.2 b b0 b1 y
/-- the kids of a node -/
def TQL (pr kd : Int → Int) (v ct w : Int) : Prop := (∀ j, 0 ≤ j → j < ct → 0 ≤ kd j ∧ kd j < w ∧ pr (kd j) = v) ∧ ct = pxs (kid pr v) w ∧ ct ≤ w
theorem tql_start {pr kd : Int → Int} {v ct w : Int} (hc : ct = 0) (hw : w = 0) : TQL pr kd v ct w := ⟨fun j a b => by omega, by rw [hw, hc]; exact (pxs_0 (by omega)).symm, by omega⟩
theorem tql_skip {pr kd : Int → Int} {v ct w w' x : Int} (h : TQL pr kd v ct w) (w0 : 0 ≤ w) (hx : x = pr w) (hn : x ≠ v) (hw : w' = w + 1) : TQL pr kd v ct w' := by
  refine ⟨fun j a b => by have := h.1 j a b; exact ⟨this.1, by omega, this.2.2⟩, ?_, by have := h.2.2; omega⟩
  rw [pxs_succ w0 hw, ← h.2.1]
  unfold kid
  rw [if_neg (by rw [← hx]; exact hn)]; omega
theorem tql_step {pr kd kd' : Int → Int} {v ct ct' w w' x p y : Int} (h : TQL pr kd v ct w) (w0 : 0 ≤ w) (hx : x = pr w) (hn : x = v) (hs : st1 kd kd' p y) (hp : p = ct) (hy : y = w) (hc : ct' = ct + 1) (hw : w' = w + 1) : TQL pr kd' v ct' w' := by
  refine ⟨fun j a b => ?_, ?_, by have := h.2.2; omega⟩
  · by_cases e : j = ct
    · rw [(hs j a).1 (by omega), hy, ← hx]; exact ⟨w0, by omega, hn⟩
    · rw [(hs j a).2 (by omega)]
      have := h.1 j a (by omega); exact ⟨this.1, by omega, this.2.2⟩
  · rw [pxs_succ w0 hw, ← h.2.1]
    unfold kid
    rw [if_pos (by rw [← hx]; exact hn)]; omega
theorem tqk_of {or' pr lv kd : Int → Int} {v ct w s k n : Int} (h : TQL pr kd v ct w) (hw : w = n) (hd : TQD n or' pr lv s) (k0 : 0 ≤ k) (k1 : k < s) (hv : v = or' k) : TQK or' lv kd ct s k := by
  have key : ∀ j, 0 ≤ j → j < ct → (∃ q, tql s k ≤ q ∧ q < s ∧ or' q = kd j) ∧ lv (kd j) = lv v + 1 ∧ 0 ≤ lv (kd j) ∧ lv (kd j) < 24 := fun j a b => by
    obtain ⟨c0, c1, c2⟩ := h.1 j a b
    obtain ⟨q, q0, q1, q2⟩ := hd.2.2.1 (kd j) c0 (by omega)
    obtain ⟨l1, l2⟩ := hd.2.2.2.1 q q0 q1
    rw [q2] at l1 l2
    have v0 := (hd.2.1 k k0 k1).1
    rw [← hv] at v0
    rcases l2 with ⟨z, _⟩ | ⟨k', y0, y1, y2, y3⟩
    · omega
    · have e := hd.2.2.2.2 k k' k0 k1 y0 (by omega) (by rw [← hv, ← c2, y2])
      rw [← e, ← hv] at y3
      exact ⟨⟨q, by rw [tql_lt k1]; omega, q1, q2⟩, y3, l1.1, by have := hd.1; omega⟩
  intro j a b
  have h1 := key j a b
  have h0 := key 0 (by omega) (by omega)
  exact ⟨h1.1, by rw [h1.2.1, h0.2.1], h1.2.2⟩
theorem tqc_of {or' pr lv kd : Int → Int} {v ct w s k n : Int} (h : TQL pr kd v ct w) (hw : w = n) (hd : TQD n or' pr lv s) (k0 : 0 ≤ k) (k1 : k < s) (hv : v = or' k) (n0 : 0 ≤ n) (n24 : n ≤ 24) : TQC n or' pr ct s k := by
  unfold TQC
  rw [tql_lt k1, h.2.1, hw, ← tqc_step hd k0 k1 hv rfl]
  have := tqc_ub (or' := or') (pr := pr) (s := s) (k := k) n0
  omega
/-- a node has been placed over its kids -/
def TQN (n : Int) (or' : Int → Int) (pr : Int → Int) (x : Int → Int) (s : Int) (k : Int) : Prop := TQX or' x s k (tqc or' pr s k n)
def TQM (n : Int) (or' : Int → Int) (un : Int → Int) (s : Int) (k : Int) : Prop := ∀ q, k ≤ q → q < s → bit (un (or' q)) (or' q) ∧ ∀ b, 0 ≤ b → b < n → bit (un (or' q)) b → ∃ q', k ≤ q' ∧ q' < s ∧ or' q' = b
theorem tqn_of {or' pr lv kd x x' : Int → Int} {v ct w s k n p y : Int} (h : TQ2 n or' pr x ct s k) (hl : TQL pr kd v ct w) (hk : TQK or' lv kd ct s k) (hw : w = n) (hd : TQD n or' pr lv s) (k0 : 0 ≤ k) (k1 : k < s) (hv : v = or' k) (hs : st1 x x' p y) (hp : p = v) (hy : y = 0 ∨ (1 ≤ ct ∧ 2 * y ≤ x (kd 0) + x (kd (ct - 1)) ∧ x (kd 0) + x (kd (ct - 1)) ≤ 2 * y + 1)) : TQN n or' pr x' s k := by
  have e := tqc_step hd k0 k1 hv (k' := k + 1) rfl
  rw [← hw, ← hl.2.1, hw] at e
  have hc : 0 ≤ ct := by rw [hl.2.1]; exact kid_0
  unfold TQ2 at h
  rw [tql_lt k1] at h
  obtain ⟨t0, lo, hi, a, b, c⟩ := tqx_le h (t' := tqc or' pr s k n) (by
    by_cases z : ct ≤ 1
    · rw [if_pos z]; omega
    · rw [if_neg z]; omega)
  refine ⟨t0, lo, hi, a, b, fun q q0 q1 => ?_⟩
  have oq := (hd.2.1 q (by omega) q1).1
  by_cases z : q = k
  · rw [z, ← hv, (hs v (by rw [hv, ← z]; exact oq)).1 hp.symm]
    rcases hy with g | ⟨g, g1, g2⟩
    · omega
    · obtain ⟨⟨i, i0, i1, i2⟩, _⟩ := hk 0 (by omega) (by omega)
      obtain ⟨⟨j, j0, j1, j2⟩, _⟩ := hk (ct - 1) (by omega) (by omega)
      rw [tql_lt k1] at i0 j0
      have u1 := c i i0 i1
      have u2 := c j j0 j1
      rw [i2] at u1
      rw [j2] at u2
      omega
  · rw [(hs _ oq).2 (fun g => z (hd.2.2.2.2 q k (by omega) q1 k0 k1 (by rw [g, hp, hv])))]
    exact c q (by omega) q1
theorem tqm_of {or' pr lv un un' kd : Int → Int} {v s k n ct an o p y : Int} (h : TQU n or' un s k) (hd : TQD n or' pr lv s) (k0 : 0 ≤ k) (k1 : k < s) (hv : v = or' k) (v0 : 0 ≤ v) (v1 : v < 24) (n24 : n ≤ 24) (ha : TQP n or' kd an ct s k) (ho : bvp o = bvp 1 <<< v.toNat) (hy : bvp y = bvp o ||| bvp an) (hs : st1 un un' p y) (hp : p = v) : TQM n or' un' s k := by
  intro q q0 q1
  have oq := (hd.2.1 q (by omega) q1).1
  by_cases z : q = k
  · rw [z, ← hv, (hs v v0).1 hp.symm]
    refine ⟨(bit_or hy v).mpr (Or.inl (by rw [bit_shl ho rfl v0 v0 (by omega)])), fun b b0 b1 g => ?_⟩
    rcases (bit_or hy b).mp g with f | f
    · rw [bit_shl ho rfl v0 b0 (by omega)] at f
      exact ⟨k, by omega, k1, by rw [f, hv]⟩
    · obtain ⟨q', a1, a2, a3⟩ := ha.2 b b0 b1 f
      rw [tql_lt k1] at a1
      exact ⟨q', by omega, a2, a3⟩
  · rw [(hs _ oq).2 (fun g => z (hd.2.2.2.2 q k (by omega) q1 k0 k1 (by rw [g, hp, hv])))]
    have := h q (by rw [tql_lt k1]; omega) q1
    refine ⟨this.1, fun b b0 b1 g => ?_⟩
    obtain ⟨q', a1, a2, a3⟩ := this.2 b b0 b1 g
    rw [tql_lt k1] at a1
    exact ⟨q', by omega, a2, a3⟩
theorem tqn_val {or' pr lv kd x : Int → Int} {ct s k n y : Int} (h : TQ2 n or' pr x ct s k) (hc : TQC n or' pr ct s k) (hk : TQK or' lv kd ct s k) (c1 : 1 ≤ ct) (h1 : 2 * y ≤ x (kd 0) + x (kd (ct - 1))) (h2 : x (kd 0) + x (kd (ct - 1)) ≤ 2 * y + 1) : -33554432 ≤ y ∧ y ≤ 33554432 := by
  have t23 : (tqc or' pr s (tql s k) n + if ct ≤ 1 then 0 else ct - 1) ≤ 23 := by
    unfold TQC at hc
    by_cases z : ct ≤ 1
    · rw [if_pos z]; omega
    · rw [if_neg z]; omega
  obtain ⟨⟨i, i0, i1, i2⟩, _⟩ := hk 0 (by omega) (by omega)
  obtain ⟨⟨j, j0, j1, j2⟩, _⟩ := hk (ct - 1) (by omega) (by omega)
  have u1 := tqx_bd h t23 i0 i1
  have u2 := tqx_bd h t23 j0 j1
  rw [i2] at u1
  rw [j2] at u2
  omega
/-- from the last to the first -/
theorem tq0_start {or' pr x : Int → Int} {s k n : Int} (hk : k = s - 1) : TQ0 n or' pr x s k := by
  refine ⟨tqc_0, 0, 0, by omega, ?_, fun q a b => ?_⟩
  · have := pow_le2 (a := 0) (b := (tqc or' pr s (tql s k) n).toNat) (by omega)
    have e : (2 : Int) ^ 0 = 1 := rfl
    omega
  · rw [tql_lt (by omega)] at a; omega
theorem tqu_start {or' un : Int → Int} {s k n : Int} (hk : k = s - 1) : TQU n or' un s k := fun q a b => by rw [tql_lt (by omega)] at a; omega
theorem tq0_next {or' pr x : Int → Int} {s k k' n : Int} (h : TQN n or' pr x s k) (hk : k' = k - 1) (k1 : k < s) : TQ0 n or' pr x s k' := by
  unfold TQ0
  rw [tql_lt (by omega), show k' + 1 = k by omega]; exact h
theorem tqu_next {or' un : Int → Int} {s k k' n : Int} (h : TQM n or' un s k) (hk : k' = k - 1) (k1 : k < s) : TQU n or' un s k' := by
  intro q
  rw [tql_lt (by omega), show k' + 1 = k by omega]; exact h q
theorem tq0_all {or' pr x : Int → Int} {s k k' n : Int} (h : TQ0 n or' pr x s k) (hk : k = -1) (s0 : 0 ≤ s) (hk' : s ≤ k') : TQ0 n or' pr x s k' := by
  unfold TQ0 at *
  rw [tql_lt (by omega), show k + 1 = 0 by omega] at h
  rw [tql_ge hk']; exact h
theorem tqu_all {or' un : Int → Int} {s k k' n : Int} (h : TQU n or' un s k) (hk : k = -1) (s0 : 0 ≤ s) (hk' : s ≤ k') : TQU n or' un s k' := by
  intro q
  have h := h q
  rw [tql_lt (by omega), show k + 1 = 0 by omega] at h
  rw [tql_ge hk']; exact h
/-- the roots -/
noncomputable def tqr (or' pr : Int → Int) (q n : Int) : Int := pxs (fun c => @ite _ (pr c = -1 ∧ ∃ i, 0 ≤ i ∧ i < q ∧ or' i = c) (Classical.propDecidable _) 1 0) n
def TQR (n : Int) (or' : Int → Int) (pr : Int → Int) (kd : Int → Int) (ct : Int) (q : Int) : Prop := (∀ j, 0 ≤ j → j < ct → ∃ i, 0 ≤ i ∧ i < q ∧ or' i = kd j ∧ pr (kd j) = -1) ∧ ct ≤ tqr or' pr q n ∧ 0 ≤ ct ∧ ct ≤ q
theorem tqr_mono {or' pr : Int → Int} {q q' n : Int} (h : q ≤ q') : tqr or' pr q n ≤ tqr or' pr q' n := by
  refine pxs_mono n (fun c a b => ?_)
  by_cases r : pr c = -1 ∧ ∃ i, 0 ≤ i ∧ i < q ∧ or' i = c
  · obtain ⟨r1, i, i0, i1, i2⟩ := r
    rw [if_pos ⟨r1, i, i0, i1, i2⟩, if_pos ⟨r1, i, i0, by omega, i2⟩]; omega
  · rw [if_neg r]
    by_cases r : pr c = -1 ∧ ∃ i, 0 ≤ i ∧ i < q' ∧ or' i = c
    · rw [if_pos r]; omega
    · rw [if_neg r]; omega
theorem tqr_start {or' pr kd : Int → Int} {ct q n : Int} (hc : ct = 0) (hq : q = 0) : TQR n or' pr kd ct q := by
  refine ⟨fun j a b => by omega, ?_, by omega, by omega⟩
  rw [hc]
  refine pxs_lb n (fun c => ?_)
  by_cases r : pr c = -1 ∧ ∃ i, 0 ≤ i ∧ i < q ∧ or' i = c
  · rw [if_pos r]; omega
  · rw [if_neg r]; omega
theorem tqr_skip {or' pr kd : Int → Int} {ct q q' n : Int} (h : TQR n or' pr kd ct q) (hq : q' = q + 1) : TQR n or' pr kd ct q' := by
  refine ⟨fun j a b => ?_, ?_, h.2.2.1, by have := h.2.2.2; omega⟩
  · obtain ⟨i, i0, i1, i2⟩ := h.1 j a b
    exact ⟨i, i0, by omega, i2⟩
  · have := tqr_mono (or' := or') (pr := pr) (q := q) (q' := q') (n := n) (by omega)
    have := h.2.1
    omega
theorem tqr_step {or' pr lv kd kd' : Int → Int} {ct ct' q q' n s p y : Int} (h : TQR n or' pr kd ct q) (hd : TQD n or' pr lv s) (q0 : 0 ≤ q) (q1 : q < s) (hr : pr (or' q) = -1) (hs : st1 kd kd' p y) (hp : p = ct) (hy : y = or' q) (hc : ct' = ct + 1) (hq : q' = q + 1) : TQR n or' pr kd' ct' q' := by
  have oq := hd.2.1 q q0 q1
  refine ⟨fun j a b => ?_, ?_, by have := h.2.2.1; omega, by have := h.2.2.2; omega⟩
  · by_cases e : j = ct
    · rw [(hs j a).1 (by omega), hy]; exact ⟨q, q0, by omega, rfl, hr⟩
    · rw [(hs j a).2 (by omega)]
      obtain ⟨i, i0, i1, i2⟩ := h.1 j a (by omega)
      exact ⟨i, i0, by omega, i2⟩
  · have : tqr or' pr q' n = tqr or' pr q n + 1 := by
      refine pxs_one (x := or' q) n (fun c a b z => ?_) oq.1 oq.2 ?_
      · by_cases r : pr c = -1 ∧ ∃ i, 0 ≤ i ∧ i < q ∧ or' i = c
        · obtain ⟨r1, i, i0, i1, i2⟩ := r
          rw [if_pos ⟨r1, i, i0, by omega, i2⟩, if_pos ⟨r1, i, i0, i1, i2⟩]
        · rw [if_neg r, if_neg (fun ⟨r1, i, i0, i1, i2⟩ => by
            by_cases e : i = q
            · rw [e] at i2; exact z i2.symm
            · exact r ⟨r1, i, i0, by omega, i2⟩)]
      · rw [if_pos ⟨hr, q, q0, by omega, rfl⟩, if_neg (fun ⟨r1, i, i0, i1, i2⟩ => by
          have := hd.2.2.2.2 i q i0 (by omega) q0 q1 i2; omega)]
        omega
    have := h.2.1
    omega
theorem tqr_k {or' pr lv kd : Int → Int} {ct q s k n : Int} (h : TQR n or' pr kd ct q) (hd : TQD n or' pr lv s) (hq : q ≤ s) (hk : s ≤ k) : TQK or' lv kd ct s k := by
  have key : ∀ j, 0 ≤ j → j < ct → (∃ q, tql s k ≤ q ∧ q < s ∧ or' q = kd j) ∧ lv (kd j) = 0 := fun j a b => by
    obtain ⟨i, i0, i1, i2, i3⟩ := h.1 j a b
    refine ⟨⟨i, by rw [tql_ge hk]; exact i0, by omega, i2⟩, ?_⟩
    obtain ⟨l1, l2⟩ := hd.2.2.2.1 i i0 (by omega)
    rw [i2] at l1 l2
    rcases l2 with ⟨_, z⟩ | ⟨k', y0, y1, y2, y3⟩
    · exact z
    · have := (hd.2.1 k' y0 (by omega)).1
      omega
  intro j a b
  have h1 := key j a b
  have h0 := key 0 (by omega) (by omega)
  exact ⟨h1.1, by rw [h1.2, h0.2], by omega⟩
theorem tqr_c {or' pr lv kd : Int → Int} {ct q s k n : Int} (h : TQR n or' pr kd ct q) (hd : TQD n or' pr lv s) (hk : s ≤ k) (n0 : 0 ≤ n) (n24 : n ≤ 24) : TQC n or' pr ct s k := by
  unfold TQC
  rw [tql_ge hk]
  have e : pxs (fun c => (@ite _ (∃ q, 0 ≤ q ∧ q < s ∧ pr c = or' q) (Classical.propDecidable _) (1 : Int) 0) + @ite _ (pr c = -1 ∧ ∃ i, 0 ≤ i ∧ i < q ∧ or' i = c) (Classical.propDecidable _) 1 0) n = tqc or' pr s 0 n + tqr or' pr q n := pxs_add n (fun c _ _ => rfl)
  have u := pxs_ub (f := fun c => (@ite _ (∃ q, 0 ≤ q ∧ q < s ∧ pr c = or' q) (Classical.propDecidable _) (1 : Int) 0) + @ite _ (pr c = -1 ∧ ∃ i, 0 ≤ i ∧ i < q ∧ or' i = c) (Classical.propDecidable _) 1 0) n n0 (fun c => by
    by_cases r : ∃ q, 0 ≤ q ∧ q < s ∧ pr c = or' q
    · obtain ⟨q', a0, a1, a2⟩ := r
      have := (hd.2.1 q' a0 a1).1
      rw [if_pos ⟨q', a0, a1, a2⟩, if_neg (fun z => by have := z.1; omega)]; omega
    · rw [if_neg r]
      by_cases g : pr c = -1 ∧ ∃ i, 0 ≤ i ∧ i < q ∧ or' i = c
      · rw [if_pos g]; omega
      · rw [if_neg g]; omega)
  have := h.2.1
  omega
/-- the least -/
def TQ3 (n : Int) (x : Int → Int) : Prop := ∃ lo hi : Int, hi - lo ≤ 67108864 ∧ ∀ v, 0 ≤ v → v < n → lo ≤ x v ∧ x v ≤ hi
theorem tq3_of {or' pr lv x : Int → Int} {ct s k n : Int} (h : TQ2 n or' pr x ct s k) (hc : TQC n or' pr ct s k) (c0 : 0 ≤ ct) (hd : TQD n or' pr lv s) (hk : s ≤ k) : TQ3 n x := by
  obtain ⟨t0, lo, hi, a, b, c⟩ := tqx_le h (t' := 24) (by
    unfold TQC at hc
    by_cases z : ct ≤ 1
    · rw [if_pos z]; omega
    · rw [if_neg z]; omega)
  refine ⟨lo, hi, ?_, fun v v0 v1 => ?_⟩
  · have : (2 : Int) ^ (24 : Int).toNat = 16777216 := by decide
    omega
  · obtain ⟨i, i0, i1, i2⟩ := hd.2.2.1 v v0 v1
    have := c i (by rw [tql_ge hk]; exact i0) i1
    rw [i2] at this; exact this
def TQ4 (n : Int) (x : Int → Int) (le : Int) (v : Int) : Prop := 1 ≤ v ∧ ∃ lo hi : Int, hi - lo ≤ 67108864 ∧ (n ≤ 0 ∨ lo ≤ le) ∧ (∀ v, 0 ≤ v → v < n → lo ≤ x v ∧ x v ≤ hi) ∧ ∀ j, 0 ≤ j → j < v → j < n → le ≤ x j
theorem tq4_start {le v n : Int} {x : Int → Int} (h : TQ3 n x) (hl : le = x 0) (hv : v = 1) : TQ4 n x le v := by
  obtain ⟨lo, hi, a, b⟩ := h
  refine ⟨by omega, lo, hi, a, ?_, b, fun j j0 j1 _ => by rw [show j = 0 by omega]; omega⟩
  by_cases c : n ≤ 0
  · exact Or.inl c
  · have := b 0 (by omega) (by omega); omega
theorem tq4_step {le le' v v' n a : Int} {x : Int → Int} (h : TQ4 n x le v) (v1 : v < n) (ha : a = x v) (hm : (le' = le ∨ le' = a) ∧ le' ≤ le ∧ le' ≤ a) (hv : v' = v + 1) : TQ4 n x le' v' := by
  obtain ⟨v0, lo, hi, p, q, b, c⟩ := h
  refine ⟨by omega, lo, hi, p, ?_, b, fun j j0 j1 j2 => ?_⟩
  · have := b v (by omega) v1
    omega
  · by_cases e : j = v
    · rw [e]; omega
    · have := c j j0 (by omega) j2; omega
def TQ5 (n : Int) (x : Int → Int) (le : Int) (v : Int) : Prop := 0 ≤ v ∧ ∀ j, v ≤ j → j < n → le ≤ x j ∧ x j ≤ le + 67108864
theorem tq5_start {le v w n : Int} {x : Int → Int} (h : TQ4 n x le w) (hw : n ≤ w) (hv : v = 0) : TQ5 n x le v := by
  obtain ⟨v0, lo, hi, p, q, b, c⟩ := h
  refine ⟨by omega, fun j j0 j1 => ?_⟩
  have := b j (by omega) j1
  have := c j (by omega) (by omega) j1
  omega
theorem tq5_step {le v v' n p y : Int} {x x' : Int → Int} (h : TQ5 n x le v) (hs : st1 x x' p y) (hp : p = v) (hv : v' = v + 1) : TQ5 n x' le v' := by
  refine ⟨by have := h.1; omega, fun j j0 j1 => ?_⟩
  rw [(hs j (by have := h.1; omega)).2 (by omega)]
  exact h.2 j (by omega) j1
/-- a node's bit -/
def TQO (o v : Int) : Prop := bvp o = bvp 1 <<< v.toNat
theorem tqo_of {o v q : Int} (h : bvp o = bvp q <<< v.toNat) (hq : q = 1) : TQO o v := by rw [hq] at h; exact h
theorem tqk_val {or' pr lv kd x : Int → Int} {ct s k n j : Int} (h : TQ2 n or' pr x ct s k) (hc : TQC n or' pr ct s k) (hk : TQK or' lv kd ct s k) (j0 : 0 ≤ j) (j1 : j < ct) : -33554432 ≤ x (kd j) ∧ x (kd j) ≤ 33554432 := by
  have t23 : (tqc or' pr s (tql s k) n + if ct ≤ 1 then 0 else ct - 1) ≤ 23 := by
    unfold TQC at hc
    by_cases z : ct ≤ 1
    · rw [if_pos z]; omega
    · rw [if_neg z]; omega
  obtain ⟨⟨i, i0, i1, i2⟩, _⟩ := hk j j0 j1
  have u1 := tqx_bd h t23 i0 i1
  rw [i2] at u1; exact u1
