section
-- the class's trees: every node is in the order, parents ahead; what is placed lies in a stretch that at most doubles with each shift
def TQP0 (or_zq pr lv : Int → Int) (i : Int) : Prop := (0 ≤ lv (or_zq i) ∧ lv (or_zq i) ≤ i) ∧ ((pr (or_zq i) = -1 ∧ lv (or_zq i) = 0) ∨ ∃ k, 0 ≤ k ∧ k < i ∧ pr (or_zq i) = or_zq k ∧ lv (or_zq i) = lv (or_zq k) + 1)
def TQB (n : Int) (or_zq : Int → Int) (pr : Int → Int) (lv : Int → Int) (pt : Int → Int) (s : Int) (p : Int) : Prop := (∀ i, 0 ≤ i → i < s → 0 ≤ or_zq i ∧ or_zq i < n) ∧ (∀ v, 0 ≤ v → v < n → pt v < p → ∃ i, 0 ≤ i ∧ i < s ∧ or_zq i = v) ∧ ∀ i, 0 ≤ i → i < s → TQP0 or_zq pr lv i
def TQA (n : Int) (or_zq : Int → Int) (pr : Int → Int) (lv : Int → Int) (pt : Int → Int) (s : Int) (p : Int) : Prop := TQB n or_zq pr lv pt s (p + 1)
def TQI (n : Int) (or_zq : Int → Int) (pr : Int → Int) (lv : Int → Int) (nr : Int → Int) (pt : Int → Int) (sn : Int) (s : Int) (en : Int) (p : Int) (k : Int) (w : Int) : Prop := k ≤ en ∧ (∀ i, 0 ≤ i → i < en → 0 ≤ or_zq i ∧ or_zq i < n) ∧ (∀ v, 0 ≤ v → v < n → pt v < p → ∃ i, 0 ≤ i ∧ i < s ∧ or_zq i = v) ∧ (∀ i, 0 ≤ i → i < en → TQP0 or_zq pr lv i) ∧ (∀ b, 0 ≤ b → b < n → bit sn b → ∃ i, s ≤ i ∧ i < en ∧ or_zq i = b) ∧ (24 ≤ en ∨ ((∀ i, s ≤ i → i < k → ∀ b, 0 ≤ b → b < n → bit (nr (or_zq i)) b → bit sn b) ∧ ∀ b, 0 ≤ b → b < w → b < n → bit (nr (or_zq k)) b → bit sn b))
def TQH (n : Int) (or_zq : Int → Int) (pr : Int → Int) (lv : Int → Int) (nr : Int → Int) (pt : Int → Int) (sn : Int) (s : Int) (en : Int) (p : Int) (k : Int) : Prop := TQI n or_zq pr lv nr pt sn s en p k 0
theorem tqp_congr {or_zq or2 pr pr2 lv lv2 : Int → Int} {i : Int} (h : TQP0 or_zq pr lv i) (i0 : 0 ≤ i) (ho : ∀ j, 0 ≤ j → j ≤ i → or2 j = or_zq j) (hp : pr2 (or_zq i) = pr (or_zq i)) (hl : ∀ j, 0 ≤ j → j ≤ i → lv2 (or_zq j) = lv (or_zq j)) : TQP0 or2 pr2 lv2 i := by
  unfold TQP0
  rw [ho i i0 (by omega), hp, hl i i0 (by omega)]
  refine ⟨h.1, ?_⟩
  rcases h.2 with q | ⟨k, k0, k1, k2, k3⟩
  · exact Or.inl q
  · exact Or.inr ⟨k, k0, k1, by rw [ho k k0 (by omega)]; exact k2, by rw [ho k k0 (by omega), hl k k0 (by omega)]; exact k3⟩
theorem tqb_start {or_zq pr lv pt : Int → Int} {s p n : Int} (hs : s = 0) (hp : p = 0) (h : ∀ v, 0 ≤ v → v < n → 0 ≤ pt v) : TQB n or_zq pr lv pt s p := ⟨fun i a b => by omega, fun v a b c => by have := h v a b; omega, fun i a b => by omega⟩
theorem tqi_start {or_zq or2 pr pr2 lv lv2 pt nr : Int → Int} {n sn s en p k r q x pv lq : Int} (h : TQB n or_zq pr lv pt s p) (hw : WTB or_zq pt s p) (r0 : 0 ≤ r) (r1 : r < n) (n24 : n ≤ 24) (hr : RTP pt r p) (hs : st1 or_zq or2 q x) (hq : q = s) (hx : x = r) (hp : st1 pr pr2 r pv) (hpv : pv = -1) (hl : st1 lv lv2 r lq) (hlq : lq = 0) (hsn : bvp sn = bvp 1 <<< r.toNat) (he : en = s + 1) (hk : k = s) : TQH n or2 pr2 lv2 nr pt sn s en p k := by
  obtain ⟨h1, h2, h3⟩ := h
  have s0 := hw.1
  have os : or2 s = r := by rw [(hs s s0).1 (by omega)]; exact hx
  have oo : ∀ i, 0 ≤ i → i < s → or2 i = or_zq i := fun i a b => (hs i a).2 (by omega)
  have nr_zq : ∀ i, 0 ≤ i → i < s → or_zq i ≠ r := fun i a b e => by
    have := (hw.2.2 i a b).2.2
    rw [e, hr] at this; omega
  refine ⟨by omega, fun i a b => ?_, fun v a b c => ?_, fun i a b => ?_, fun b b0 b1 z => ?_, Or.inr ⟨fun i a b => by omega, fun b a c => by omega⟩⟩
  · by_cases e : i = s
    · rw [e, os]; exact ⟨r0, r1⟩
    · rw [oo i a (by omega)]; exact h1 i a (by omega)
  · obtain ⟨i, i0, i1, i2⟩ := h2 v a b c
    exact ⟨i, i0, i1, by rw [oo i i0 i1]; exact i2⟩
  · by_cases e : i = s
    · have l0 : lv2 (or2 i) = 0 := by rw [e, os, (hl r r0).1 rfl]; exact hlq
      have p0 : pr2 (or2 i) = -1 := by rw [e, os, (hp r r0).1 rfl]; exact hpv
      exact ⟨by omega, Or.inl ⟨p0, l0⟩⟩
    · exact tqp_congr (h3 i a (by omega)) a (fun j j0 j1 => oo j j0 (by omega)) ((hp _ (h1 i a (by omega)).1).2 (nr_zq i a (by omega))) (fun j j0 j1 => (hl _ (h1 j j0 (by omega)).1).2 (nr_zq j j0 (by omega)))
  · rw [bit_shl hsn rfl r0 b0 (by omega)] at z
    exact ⟨s, by omega, by omega, by rw [os, z]⟩
theorem tqi_of {or_zq pr lv pt nr : Int → Int} {n sn s en p k w : Int} (h : TQH n or_zq pr lv nr pt sn s en p k) (hk : k < en) (hw : w = 0) : TQI n or_zq pr lv nr pt sn s en p k w := by rw [hw]; exact h
theorem tqi_skip {or_zq pr lv pt nr : Int → Int} {n sn s en p k w w_zq v : Int} (h : TQI n or_zq pr lv nr pt sn s en p k w) (hv : v = or_zq k) (hb : ¬ bit (nr v) w ∨ bit sn w) (hw : w_zq = w + 1) : TQI n or_zq pr lv nr pt sn s en p k w_zq := by
  obtain ⟨h0, h1, h2, h3, h4, h5⟩ := h
  refine ⟨h0, h1, h2, h3, h4, ?_⟩
  rcases h5 with q | ⟨q, r⟩
  · exact Or.inl q
  · refine Or.inr ⟨q, fun b a c d z => ?_⟩
    by_cases e : b = w
    · rcases hb with y | y
      · rw [e, ← hv] at z; exact absurd z y
      · rw [e]; exact y
    · exact r b a (by omega) d z
theorem tqi_step {or_zq or2 pr pr2 lv lv2 pt nr : Int → Int} {n sn sn_zq s en en_zq p k v w w_zq q x o pv l0 l1 : Int} (h : TQI n or_zq pr lv nr pt sn s en p k w) (hi : WTI n or_zq pt sn s en p k) (hk : k < en) (e24 : en < 24) (hc : PNC n nr pt) (hv : v = or_zq k) (w0 : 0 ≤ w) (w1 : w < n) (n24 : n ≤ 24) (hb : bit (nr v) w) (hn : ¬ bit sn w) (hs : st1 or_zq or2 q x) (hq : q = en) (hx : x = w) (hp : st1 pr pr2 w pv) (hpv : pv = v) (hl : st1 lv lv2 w l1) (hl0 : l0 = lv v) (hl1 : l1 = l0 + 1) (ho : bvp o = bvp 1 <<< w.toNat) (hsn : bvp sn_zq = bvp sn ||| bvp o) (he : en_zq = en + 1) (hw : w_zq = w + 1) : TQI n or2 pr2 lv2 nr pt sn_zq s en_zq p k w_zq := by
  obtain ⟨h0, h1, h2, h3, h4, h5⟩ := h
  obtain ⟨s0, se, sk, _, i5, i6, i7⟩ := hi
  have k0 : 0 ≤ k := by omega
  have oe : or2 en = w := by rw [(hs en (by omega)).1 (by omega)]; exact hx
  have oo : ∀ i, 0 ≤ i → i < en → or2 i = or_zq i := fun i a b => (hs i a).2 (by omega)
  have vk := i7 k sk hk
  rw [← hv] at vk
  have pw : pt w = p := by rw [hc.1 v w vk.1 vk.2.1 w0 w1 hb]; exact vk.2.2.1
  have nw : ∀ i, 0 ≤ i → i < en → or_zq i ≠ w := fun i a b e => by
    by_cases c : i < s
    · have := (i6 i a c).2.2
      rw [e, pw] at this; omega
    · have := (i7 i (by omega) b).2.2.2
      rw [e] at this; exact hn this
  have bn : ∀ b, bit sn b → bit sn_zq b := fun b z => (bit_or hsn b).mpr (Or.inl z)
  have bw : bit sn_zq w := (bit_or hsn w).mpr (Or.inr (by rw [bit_shl ho rfl w0 w0 (by omega)]))
  refine ⟨by omega, fun i a b => ?_, fun v a b c => ?_, fun i a b => ?_, fun b b0 b1 z => ?_, ?_⟩
  · by_cases e : i = en
    · rw [e, oe]; exact ⟨w0, w1⟩
    · rw [oo i a (by omega)]; exact h1 i a (by omega)
  · obtain ⟨i, i0, i1, i2⟩ := h2 v a b c
    exact ⟨i, i0, i1, by rw [oo i i0 (by omega)]; exact i2⟩
  · by_cases e : i = en
    · have kv : or2 k = v := by rw [oo k k0 hk, hv]
      have lv' : lv2 v = lv v := (hl v vk.1).2 (by rw [hv]; exact nw k k0 hk)
      have lw : lv2 w = lv v + 1 := by rw [(hl w w0).1 rfl, hl1, hl0]
      have pk : pr2 w = v := by rw [(hp w w0).1 rfl]; exact hpv
      have hk3 := (h3 k k0 hk).1
      rw [← hv] at hk3
      unfold TQP0
      rw [e, oe, lw, pk]
      exact ⟨by omega, Or.inr ⟨k, k0, hk, kv.symm, by rw [kv, lv']⟩⟩
    · exact tqp_congr (h3 i a (by omega)) a (fun j j0 j1 => oo j j0 (by omega)) ((hp _ (h1 i a (by omega)).1).2 (nw i a (by omega))) (fun j j0 j1 => (hl _ (h1 j j0 (by omega)).1).2 (nw j j0 (by omega)))
  · rcases (bit_or hsn b).mp z with y | y
    · obtain ⟨i, i0, i1, i2⟩ := h4 b b0 b1 y
      exact ⟨i, i0, by omega, by rw [oo i (by omega) i1]; exact i2⟩
    · rw [bit_shl ho rfl w0 b0 (by omega)] at y
      exact ⟨en, by omega, by omega, by rw [oe, y]⟩
  · rcases h5 with y | ⟨y, r⟩
    · omega
    · refine Or.inr ⟨fun i a b c d f z => ?_, fun b a c d z => ?_⟩
      · rw [oo i (by omega) (by omega)] at z; exact bn c (y i a b c d f z)
      · rw [oo k k0 hk] at z
        by_cases e : b = w
        · rw [e]; exact bw
        · exact bn b (r b a (by omega) d z)
theorem tqi_next {or_zq pr lv pt nr : Int → Int} {n sn s en p k k_zq w : Int} (h : TQI n or_zq pr lv nr pt sn s en p k w) (hk : k < en) (hw : n ≤ w ∨ 24 ≤ en) (hk_zq : k_zq = k + 1) : TQH n or_zq pr lv nr pt sn s en p k_zq := by
  obtain ⟨h0, h1, h2, h3, h4, h5⟩ := h
  refine ⟨by omega, h1, h2, h3, h4, ?_⟩
  rcases hw with hw | hw
  · rcases h5 with q | ⟨q, r⟩
    · exact Or.inl q
    · refine Or.inr ⟨fun i a b c d f z => ?_, fun b a c => by omega⟩
      by_cases e : i = k
      · rw [e] at z; exact r c d (by omega) f z
      · exact q i a (by omega) c d f z
  · exact Or.inl hw
theorem tq_sur {or_zq : Int → Int} {n en v : Int} (h1 : ∀ i, 0 ≤ i → i < en → 0 ≤ or_zq i ∧ or_zq i < n) (h5 : ∀ i j, 0 ≤ i → i < j → j < en → or_zq i ≠ or_zq j) (n24 : n ≤ 24) (e24 : 24 ≤ en) (v0 : 0 ≤ v) (v1 : v < n) : ∃ i, 0 ≤ i ∧ i < en ∧ or_zq i = v := by
  refine Classical.byContradiction (fun ne => ?_)
  have nn : ∀ i, 0 ≤ i → i < en → or_zq i ≠ v := fun i a b e => ne ⟨i, a, b, e⟩
  have := php 25 24 (fun i => ((fun j : Int => if j < 24 then or_zq j else v) (i : Int)).toNat) (fun i hi => by
    show (if (i : Int) < 24 then or_zq i else v).toNat < 24
    split
    · have := h1 i (by omega) (by omega); omega
    · omega) (fun i j hi hj e => by
    have e : (if (i : Int) < 24 then or_zq i else v).toNat = (if (j : Int) < 24 then or_zq j else v).toNat := e
    by_cases a : (i : Int) < 24
    · have ha := h1 i (by omega) (by omega)
      rw [if_pos a] at e
      by_cases b : (j : Int) < 24
      · have hb := h1 j (by omega) (by omega)
        rw [if_pos b] at e
        by_cases c : i < j
        · exact absurd (by omega) (h5 i j (by omega) (by omega) (by omega))
        · by_cases d : j < i
          · exact absurd (by omega) (h5 j i (by omega) (by omega) (by omega))
          · omega
      · rw [if_neg b] at e
        exact absurd (by omega) (nn i (by omega) (by omega))
    · rw [if_neg a] at e
      by_cases b : (j : Int) < 24
      · have hb := h1 j (by omega) (by omega)
        rw [if_pos b] at e
        exact absurd (by omega) (nn j (by omega) (by omega))
      · omega)
  omega
theorem tqa_of {or_zq pr lv pt nr : Int → Int} {n sn s en p k an : Int} (h : TQH n or_zq pr lv nr pt sn s en p k) (hi : WTI n or_zq pt sn s en p k) (hc : PNC n nr pt) (hk : en ≤ k) (n24 : n ≤ 24) (ha : an = en) : TQA n or_zq pr lv pt an p := by
  obtain ⟨h0, h1, h2, h3, h4, h5⟩ := h
  obtain ⟨s0, se, sk, _, i5, i6, i7⟩ := hi
  subst ha
  refine ⟨h1, fun v a b c => ?_, h3⟩
  by_cases e : pt v < p
  · obtain ⟨i, i0, i1, i2⟩ := h2 v a b e
    exact ⟨i, i0, by omega, i2⟩
  · rcases h5 with q | ⟨q, _⟩
    · exact tq_sur h1 i5 n24 q a b
    · have r := i7 s (by omega) se
      have := hc.2 (fun b => bit sn b) (fun u w u0 u1 w0 w1 hu z => by
        obtain ⟨i, i0, i1, i2⟩ := h4 u u0 u1 hu
        rw [← i2] at z
        exact q i i0 (by omega) w w0 w1 z) (or_zq s) v r.1 r.2.1 a b (by omega) r.2.2.2
      obtain ⟨i, i0, i1, i2⟩ := h4 v a b this
      exact ⟨i, by omega, i1, i2⟩
/-- the order has every node once, parents ahead -/
def TQD (n : Int) (or_zq : Int → Int) (pr : Int → Int) (lv : Int → Int) (s : Int) : Prop := (0 ≤ s ∧ s ≤ 24) ∧ (∀ i, 0 ≤ i → i < s → 0 ≤ or_zq i ∧ or_zq i < n) ∧ (∀ v, 0 ≤ v → v < n → ∃ i, 0 ≤ i ∧ i < s ∧ or_zq i = v) ∧ (∀ i, 0 ≤ i → i < s → TQP0 or_zq pr lv i) ∧ ∀ i j, 0 ≤ i → i < s → 0 ≤ j → j < s → or_zq i = or_zq j → i = j
theorem tqd_of {or_zq pr lv pt : Int → Int} {s p n ps : Int} (h : TQB n or_zq pr lv pt s p) (hw : WTB or_zq pt s p) (hf : FPA n ps pt) (hp : ps ≤ p) (s24 : s ≤ 24) : TQD n or_zq pr lv s := by
  obtain ⟨h1, h2, h3⟩ := h
  refine ⟨⟨hw.1, s24⟩, h1, fun v a b => h2 v a b (by have := hf.2 v a b; omega), h3, fun i j i0 i1 j0 j1 e => ?_⟩
  by_cases c : i < j
  · exact absurd e (hw.2.1 i j i0 c j1)
  · by_cases d : j < i
    · exact absurd e.symm (hw.2.1 j i j0 d i1)
    · omega
/-- the nodes whose parent has been placed, counted -/
noncomputable def tqc (or_zq pr : Int → Int) (s k n : Int) : Int := pxs (fun c => @ite _ (∃ q, k ≤ q ∧ q < s ∧ pr c = or_zq q) (Classical.propDecidable _) 1 0) n
theorem tqc_0 {or_zq pr : Int → Int} {s k n : Int} : 0 ≤ tqc or_zq pr s k n := by
  refine pxs_lb n (fun c => ?_)
  by_cases r : ∃ q, k ≤ q ∧ q < s ∧ pr c = or_zq q
  · rw [if_pos r]; omega
  · rw [if_neg r]; omega
theorem tqc_ub {or_zq pr : Int → Int} {s k n : Int} (n0 : 0 ≤ n) : tqc or_zq pr s k n ≤ n := by
  refine pxs_ub n n0 (fun c => ?_)
  by_cases r : ∃ q, k ≤ q ∧ q < s ∧ pr c = or_zq q
  · rw [if_pos r]; omega
  · rw [if_neg r]; omega
theorem tqc_step {or_zq pr lv : Int → Int} {s k k_zq n v : Int} (h : TQD n or_zq pr lv s) (k0 : 0 ≤ k) (k1 : k < s) (hv : v = or_zq k) (hk : k_zq = k + 1) : tqc or_zq pr s k n = tqc or_zq pr s k_zq n + pxs (kid pr v) n := by
  refine pxs_add n (fun c a b => ?_)
  unfold kid
  by_cases q : pr c = v
  · rw [if_pos q, if_pos ⟨k, by omega, k1, by rw [q, hv]⟩, if_neg (fun ⟨q_zq, a1, a2, a3⟩ => by
      have := h.2.2.2.2 k q_zq k0 k1 (by omega) a2 (by rw [← hv, ← q, a3]); omega)]
    omega
  · rw [if_neg q]
    by_cases r : ∃ q, k_zq ≤ q ∧ q < s ∧ pr c = or_zq q
    · obtain ⟨q_zq, a1, a2, a3⟩ := r
      rw [if_pos ⟨q_zq, by omega, a2, a3⟩, if_pos ⟨q_zq, a1, a2, a3⟩]; omega
    · rw [if_neg r, if_neg (fun ⟨q_zq, a1, a2, a3⟩ => by
        by_cases e : q_zq = k
        · rw [e, ← hv] at a3; exact q a3
        · exact r ⟨q_zq, by omega, a2, a3⟩)]
      omega
/-- from where on nodes are placed -/
def tql (s k : Int) : Int := if s ≤ k then 0 else k + 1
theorem tql_0 {s k : Int} (k0 : -1 ≤ k) : 0 ≤ tql s k := by
  unfold tql
  by_cases c : s ≤ k
  · rw [if_pos c]; omega
  · rw [if_neg c]; omega
theorem tql_lt {s k : Int} (h : k < s) : tql s k = k + 1 := by unfold tql; rw [if_neg (by omega)]
theorem tql_ge {s k : Int} (h : s ≤ k) : tql s k = 0 := by unfold tql; rw [if_pos h]
/-- the stretch -/
def TQX (or_zq x : Int → Int) (s k t : Int) : Prop := 0 ≤ t ∧ ∃ lo hi : Int, (lo ≤ 0 ∧ 0 ≤ hi) ∧ hi - lo ≤ 4 * 2 ^ t.toNat - 4 ∧ ∀ q, k ≤ q → q < s → lo ≤ x (or_zq q) ∧ x (or_zq q) ≤ hi
theorem tqx_le {or_zq x : Int → Int} {s k t t_zq : Int} (h : TQX or_zq x s k t) (ht : t ≤ t_zq) : TQX or_zq x s k t_zq := by
  obtain ⟨t0, lo, hi, a, b, c⟩ := h
  refine ⟨by omega, lo, hi, a, ?_, c⟩
  have := pow_le2 (a := t.toNat) (b := t_zq.toNat) (by omega)
  omega
theorem tqx_bd {or_zq x : Int → Int} {s k t q : Int} (h : TQX or_zq x s k t) (ht : t ≤ 23) (q0 : k ≤ q) (q1 : q < s) : -33554432 ≤ x (or_zq q) ∧ x (or_zq q) ≤ 33554432 := by
  obtain ⟨t0, lo, hi, p, b, c⟩ := h
  have := pow_le2 (a := t.toNat) (b := 23) (by omega)
  have := c q q0 q1
  have : (2 : Int) ^ 23 = 8388608 := by decide
  omega
/-- what is under placed nodes is placed -/
def TQU (n : Int) (or_zq : Int → Int) (un : Int → Int) (s : Int) (k : Int) : Prop := ∀ q, tql s k ≤ q → q < s → bit (un (or_zq q)) (or_zq q) ∧ ∀ b, 0 ≤ b → b < n → bit (un (or_zq q)) b → ∃ q_zq, tql s k ≤ q_zq ∧ q_zq < s ∧ or_zq q_zq = b
/-- kids are placed, on one level -/
def TQK (or_zq lv kd : Int → Int) (ct s k : Int) : Prop := ∀ j, 0 ≤ j → j < ct → (∃ q, tql s k ≤ q ∧ q < s ∧ or_zq q = kd j) ∧ lv (kd j) = lv (kd 0) ∧ 0 ≤ lv (kd j) ∧ lv (kd j) < 24
/-- there is room -/
def TQC (n : Int) (or_zq : Int → Int) (pr : Int → Int) (ct : Int) (s : Int) (k : Int) : Prop := tqc or_zq pr s (tql s k) n + ct ≤ 24
/-- what of the kids_zq trees is side by side -/
def TQP (n : Int) (or_zq : Int → Int) (kd : Int → Int) (pl : Int) (ct : Int) (s : Int) (k : Int) : Prop := (1 ≤ ct → bit pl (kd 0)) ∧ ∀ b, 0 ≤ b → b < n → bit pl b → ∃ q, tql s k ≤ q ∧ q < s ∧ or_zq q = b
def TQ1 (n : Int) (or_zq : Int → Int) (pr : Int → Int) (x : Int → Int) (s : Int) (k : Int) (j : Int) : Prop := 1 ≤ j ∧ TQX or_zq x s (tql s k) (tqc or_zq pr s (tql s k) n + j - 1)
def TQ0 (n : Int) (or_zq : Int → Int) (pr : Int → Int) (x : Int → Int) (s : Int) (k : Int) : Prop := TQX or_zq x s (tql s k) (tqc or_zq pr s (tql s k) n)
def TQ2 (n : Int) (or_zq : Int → Int) (pr : Int → Int) (x : Int → Int) (ct : Int) (s : Int) (k : Int) : Prop := TQX or_zq x s (tql s k) (tqc or_zq pr s (tql s k) n + if ct ≤ 1 then 0 else ct - 1)
/-- the edge of a level -/
def TQF (lv : Int → Int) (x : Int → Int) (st : Int) (l : Int) (an : Int) (v : Int) : Prop := (an = -2147483648 ∧ ∀ u, 0 ≤ u → u < v → bit st u → lv u ≠ l) ∨ ∃ u, 0 ≤ u ∧ u < v ∧ bit st u ∧ lv u = l ∧ an = x u
def TQE (n : Int) (lv : Int → Int) (x : Int → Int) (st : Int) (l : Int) (an : Int) : Prop := TQF lv x st l an n
theorem tqf_start {lv x : Int → Int} {st l an v : Int} (ha : an = -2147483648) (hv : v = 0) : TQF lv x st l an v := Or.inl ⟨ha, fun u a b => by omega⟩
theorem tqf_skip {lv x : Int → Int} {st l an v v_zq : Int} (h : TQF lv x st l an v) (hb : ¬ bit st v ∨ lv v ≠ l) (hv : v_zq = v + 1) : TQF lv x st l an v_zq := by
  rcases h with ⟨a, b⟩ | ⟨u, u0, u1, u2⟩
  · refine Or.inl ⟨a, fun u u0 u1 u2 => ?_⟩
    by_cases e : u = v
    · rcases hb with q | q
      · rw [e] at u2; exact absurd u2 q
      · rw [e]; exact q
    · exact b u u0 (by omega) u2
  · exact Or.inr ⟨u, u0, by omega, u2⟩
theorem tqf_keep {lv x : Int → Int} {st l an v v_zq : Int} (h : TQF lv x st l an v) (ha : an ≠ -2147483648) (hv : v_zq = v + 1) : TQF lv x st l an v_zq := by
  rcases h with ⟨a, b⟩ | ⟨u, u0, u1, u2⟩
  · exact absurd a ha
  · exact Or.inr ⟨u, u0, by omega, u2⟩
theorem tqf_take {lv x : Int → Int} {st l an v v_zq : Int} (v0 : 0 ≤ v) (hb : bit st v) (hl : lv v = l) (ha : an = x v) (hv : v_zq = v + 1) : TQF lv x st l an v_zq := Or.inr ⟨v, v0, by omega, hb, hl, ha⟩
theorem tqe_of {lv x : Int → Int} {st l an v n : Int} (h : TQF lv x st l an v) (hv : v = n) : TQE n lv x st l an := by rw [← hv]; exact h
/-- a kid's tree -/
def TQT (un kd : Int → Int) (tr j : Int) : Prop := tr = un (kd j)
/-- a shift that has been found; the shift up to a level -/
def TQG (or_zq x : Int → Int) (s k d : Int) : Prop := ∃ a b, (k ≤ a ∧ a < s) ∧ (k ≤ b ∧ b < s) ∧ (d = x (or_zq a) + 4 - x (or_zq b) ∨ (d = -1000000 ∧ 1000000 ≤ x (or_zq b) - x (or_zq a) - 4))
def TQS (or_zq : Int → Int) (lv : Int → Int) (kd : Int → Int) (x : Int → Int) (d : Int) (l : Int) (s : Int) (k : Int) : Prop := (d = -1000000 ∧ l ≤ lv (kd 0)) ∨ TQG or_zq x s (tql s k) d
theorem tqs_start {or_zq lv kd x : Int → Int} {d l s k ct : Int} (hd : d = -1000000) (hl : l = 0) (h : TQK or_zq lv kd ct s k) (hc : 1 ≤ ct) : TQS or_zq lv kd x d l s k := Or.inl ⟨hd, by have := h 0 (by omega) (by omega); omega⟩
theorem tqs_step {or_zq lv kd x pr un : Int → Int} {d d_zq l l_zq s k ct j r e f pl tr n : Int} (h : TQS or_zq lv kd x d l s k) (hp : TQP n or_zq kd pl ct s k) (hu : TQU n or_zq un s k) (hk : TQK or_zq lv kd ct s k) (j1 : 1 ≤ j) (jc : j < ct) (htr : tr = un (kd j)) (hr : TQE n lv x pl l r) (he : TQE n lv x tr l e) (hN : r ≠ -2147483648) (hN2 : e ≠ -2147483648) (hf : f = r + 4 - e) (hm : (d_zq = d ∨ d_zq = f) ∧ d ≤ d_zq ∧ f ≤ d_zq) (hl : l_zq = l + 1) (_ : pr = pr) : TQS or_zq lv kd x d_zq l_zq s k := by
  rcases hr with ⟨q, _⟩ | ⟨u, u0, u1, u2, u3, u4⟩
  · exact absurd q hN
  rcases he with ⟨q, _⟩ | ⟨w, w0, w1, w2, w3, w4⟩
  · exact absurd q hN2
  obtain ⟨a, a0, a1, a2⟩ := hp.2 u u0 u1 u2
  obtain ⟨⟨q, q0, q1, q2⟩, _⟩ := hk j (by omega) jc
  obtain ⟨b, b0, b1, b2⟩ := (hu q q0 q1).2 w w0 w1 (by rw [q2, ← htr]; exact w2)
  rw [u4, w4] at hf
  right
  rcases hm.1 with c | c
  · rcases h with ⟨y, y2⟩ | ⟨a_zq, b_zq, y⟩
    · exact ⟨a, b, ⟨a0, a1⟩, ⟨b0, b1⟩, by rw [a2, b2]; omega⟩
    · exact ⟨a_zq, b_zq, by rw [c]; exact y⟩
  · exact ⟨a, b, ⟨a0, a1⟩, ⟨b0, b1⟩, by rw [a2, b2]; omega⟩
theorem tqs_skip {or_zq lv kd x pr un : Int → Int} {d l l_zq s k ct j r e pl tr n : Int} (h : TQS or_zq lv kd x d l s k) (hx : TQ1 n or_zq pr x s k j) (hc : TQC n or_zq pr ct s k) (hp : TQP n or_zq kd pl ct s k) (hu : TQU n or_zq un s k) (hk : TQK or_zq lv kd ct s k) (hd : TQD n or_zq pr lv s) (k0 : 0 ≤ k) (j1 : 1 ≤ j) (jc : j < ct) (htr : tr = un (kd j)) (hr : TQE n lv x pl l r) (he : TQE n lv x tr l e) (hN : r = -2147483648 ∨ e = -2147483648) (hl : l_zq = l + 1) : TQS or_zq lv kd x d l_zq s k := by
  rcases h with ⟨y, y2⟩ | y
  · by_cases z : l = lv (kd 0)
    · exfalso
      have t23 : tqc or_zq pr s (tql s k) n + j - 1 ≤ 23 := by unfold TQC at hc; omega
      have bd : ∀ q, tql s k ≤ q → q < s → x (or_zq q) ≠ -2147483648 := fun q a b c => by
        have := tqx_bd hx.2 t23 a b; omega
      have rn : ∀ q, tql s k ≤ q → q < s → 0 ≤ or_zq q ∧ or_zq q < n := fun q a b => hd.2.1 q (by have := tql_0 (s := s) (k := k) (by omega); omega) b
      obtain ⟨⟨q0, p1, p2, p3⟩, p4⟩ := hk 0 (by omega) (by omega)
      obtain ⟨⟨q1, r1, r2, r3⟩, r4, r5⟩ := hk j (by omega) jc
      have n0 := rn q0 p1 p2
      have n1 := rn q1 r1 r2
      rw [p3] at n0
      rw [r3] at n1
      have ub := (hu q1 r1 r2).1
      rw [r3, ← htr] at ub
      rcases hN with c | c
      · rcases hr with ⟨_, g⟩ | ⟨u, u0, u1, u2, u3, u4⟩
        · exact g (kd 0) n0.1 n0.2 (hp.1 (by omega)) z.symm
        · obtain ⟨a, a0, a1, a2⟩ := hp.2 u u0 u1 u2
          exact bd a a0 a1 (by rw [a2, ← u4]; exact c)
      · rcases he with ⟨_, g⟩ | ⟨u, u0, u1, u2, u3, u4⟩
        · exact g (kd j) n1.1 n1.2 ub (by rw [r4]; exact z.symm)
        · obtain ⟨a, a0, a1, a2⟩ := (hu q1 r1 r2).2 u u0 u1 (by rw [r3, ← htr]; exact u2)
          exact bd a a0 a1 (by rw [a2, ← u4]; exact c)
    · exact Or.inl ⟨y, by omega⟩
  · exact Or.inr y
theorem tqe_val {or_zq pr lv kd x : Int → Int} {l s k ct j r pl n : Int} (hx : TQ1 n or_zq pr x s k j) (hc : TQC n or_zq pr ct s k) (hp : TQP n or_zq kd pl ct s k) (jc : j < ct) (hr : TQE n lv x pl l r) (hN : r ≠ -2147483648) : -33554432 ≤ r ∧ r ≤ 33554432 := by
  have t23 : tqc or_zq pr s (tql s k) n + j - 1 ≤ 23 := by unfold TQC at hc; omega
  rcases hr with ⟨q, _⟩ | ⟨u, u0, u1, u2, u3, u4⟩
  · exact absurd q hN
  · obtain ⟨a, a0, a1, a2⟩ := hp.2 u u0 u1 u2
    have := tqx_bd hx.2 t23 a0 a1
    rw [a2, ← u4] at this; exact this
theorem tqe_val2 {or_zq pr lv kd x un : Int → Int} {l s k ct j r tr n : Int} (hx : TQ1 n or_zq pr x s k j) (hc : TQC n or_zq pr ct s k) (hu : TQU n or_zq un s k) (hk : TQK or_zq lv kd ct s k) (j1 : 1 ≤ j) (jc : j < ct) (htr : tr = un (kd j)) (hr : TQE n lv x tr l r) (hN : r ≠ -2147483648) : -33554432 ≤ r ∧ r ≤ 33554432 := by
  have t23 : tqc or_zq pr s (tql s k) n + j - 1 ≤ 23 := by unfold TQC at hc; omega
  rcases hr with ⟨q, _⟩ | ⟨u, u0, u1, u2, u3, u4⟩
  · exact absurd q hN
  · obtain ⟨⟨q1, r1, r2, r3⟩, _⟩ := hk j (by omega) jc
    obtain ⟨a, a0, a1, a2⟩ := (hu q1 r1 r2).2 u u0 u1 (by rw [r3, ← htr]; exact u2)
    have := tqx_bd hx.2 t23 a0 a1
    rw [a2, ← u4] at this; exact this
theorem tqx_shift {or_zq x x_zq : Int → Int} {s k t t_zq d : Int} (h : TQX or_zq x s k t) (hd : TQG or_zq x s k d) (hs : ∀ q, k ≤ q → q < s → x_zq (or_zq q) = x (or_zq q) ∨ x_zq (or_zq q) = x (or_zq q) + d) (ht : t_zq = t + 1) : TQX or_zq x_zq s k t_zq := by
  obtain ⟨t0, lo, hi, ⟨a0, a1⟩, b, c⟩ := h
  have e2 : (2 : Int) ^ t_zq.toNat = 2 * 2 ^ t.toNat := by
    rw [show t_zq.toNat = t.toNat + 1 by omega, Int.pow_succ]; omega
  have key : d ≤ hi - lo + 4 ∧ lo - hi ≤ d := by
    obtain ⟨a, b, ⟨p, q⟩, ⟨r, s⟩, e⟩ := hd
    have := c a p q
    have := c b r s
    omega
  rcases Int.le_total 0 d with g | g
  · refine ⟨by omega, lo, hi + d, ⟨a0, by omega⟩, by omega, fun j j0 j1 => ?_⟩
    have := c j j0 j1
    have := hs j j0 j1
    omega
  · refine ⟨by omega, lo + d, hi, ⟨by omega, a1⟩, by omega, fun j j0 j1 => ?_⟩
    have := c j j0 j1
    have := hs j j0 j1
    omega
/-- a tree is being shifted -/
def TQV (n : Int) (or_zq : Int → Int) (pr : Int → Int) (x : Int → Int) (d : Int) (tr : Int) (s : Int) (k : Int) (j : Int) (v : Int) : Prop := 1 ≤ j ∧ ∃ x0 : Int → Int, TQX or_zq x0 s (tql s k) (tqc or_zq pr s (tql s k) n + j - 1) ∧ TQG or_zq x0 s (tql s k) d ∧ (∀ i, 0 ≤ i → i < v → bit tr i → x i = x0 i + d) ∧ ∀ i, 0 ≤ i → ¬ (i < v ∧ bit tr i) → x i = x0 i
theorem tqv_start {or_zq pr lv kd x : Int → Int} {d l tr s k j v n ct : Int} (h : TQ1 n or_zq pr x s k j) (hs : TQS or_zq lv kd x d l s k) (hk : TQK or_zq lv kd ct s k) (hc : 1 ≤ ct) (hl : 24 ≤ l) (hv : v = 0) : TQV n or_zq pr x d tr s k j v := by
  refine ⟨h.1, x, h.2, ?_, fun i a b => by omega, fun i _ _ => rfl⟩
  rcases hs with ⟨_, q⟩ | q
  · have := hk 0 (by omega) (by omega); omega
  · exact q
theorem tqv_skip {or_zq pr x : Int → Int} {d tr s k j v v_zq n : Int} (h : TQV n or_zq pr x d tr s k j v) (hb : ¬ bit tr v) (hv : v_zq = v + 1) : TQV n or_zq pr x d tr s k j v_zq := by
  obtain ⟨h0, x0, h1, h2, h3, h4⟩ := h
  refine ⟨h0, x0, h1, h2, fun i a b c => h3 i a (by by_cases e : i = v; rw [e] at c; exact absurd c hb; omega) c, fun i a b => h4 i a (fun z => b ⟨by omega, z.2⟩)⟩
theorem tqv_step {or_zq pr x x_zq : Int → Int} {d tr s k j v v_zq n a p y : Int} (h : TQV n or_zq pr x d tr s k j v) (v0 : 0 ≤ v) (hb : bit tr v) (ha : a = x v) (hy : y = a + d) (hs : st1 x x_zq p y) (hp : p = v) (hv : v_zq = v + 1) : TQV n or_zq pr x_zq d tr s k j v_zq := by
  obtain ⟨h0, x0, h1, h2, h3, h4⟩ := h
  refine ⟨h0, x0, h1, h2, fun i a b c => ?_, fun i a b => ?_⟩
  · by_cases e : i = v
    · rw [(hs i a).1 (by omega), hy, ha, e, h4 v v0 (by omega)]
    · rw [(hs i a).2 (by omega)]; exact h3 i a (by omega) c
  · rw [(hs i a).2 (fun e => b ⟨by omega, by rw [e, hp]; exact hb⟩)]; exact h4 i a (fun z => b ⟨by omega, z.2⟩)
theorem tqv_val {or_zq pr lv kd un x : Int → Int} {d tr s k j v n ct a y : Int} (h : TQV n or_zq pr x d tr s k j v) (hc : TQC n or_zq pr ct s k) (hu : TQU n or_zq un s k) (hk : TQK or_zq lv kd ct s k) (jc : j < ct) (htr : tr = un (kd j)) (v0 : 0 ≤ v) (v1 : v < n) (hb : bit tr v) (ha : a = x v) (hy : y = a + d) : -33554432 ≤ y ∧ y ≤ 33554432 := by
  obtain ⟨h0, x0, h1, h2, h3, h4⟩ := h
  have t23 : tqc or_zq pr s (tql s k) n + j ≤ 23 := by unfold TQC at hc; omega
  obtain ⟨⟨q1, r1, r2, r3⟩, _⟩ := hk j (by omega) jc
  obtain ⟨b, b0, b1, b2⟩ := (hu q1 r1 r2).2 v v0 v1 (by rw [r3, ← htr]; exact hb)
  have := tqx_bd (tqx_shift (x_zq := fun i => x0 i + d) h1 h2 (fun q _ _ => Or.inr rfl) (t_zq := tqc or_zq pr s (tql s k) n + j) (by omega)) t23 b0 b1
  have e := h4 v v0 (by omega)
  simp only [b2] at this
  rw [hy, ha, e]; exact this
theorem tqv_end {or_zq pr x : Int → Int} {d tr s k j j_zq v n : Int} (h : TQV n or_zq pr x d tr s k j v) (hd : ∀ q, tql s k ≤ q → q < s → 0 ≤ or_zq q) (hj : j_zq = j + 1) : TQ1 n or_zq pr x s k j_zq := by
  obtain ⟨h0, x0, h1, h2, h3, h4⟩ := h
  refine ⟨by omega, tqx_shift h1 h2 (fun q a b => ?_) (by omega)⟩
  by_cases c : or_zq q < v ∧ bit tr (or_zq q)
  · exact Or.inr (h3 _ (hd q a b) c.1 c.2)
  · exact Or.inl (h4 _ (hd q a b) c)
theorem tqd_lo {or_zq pr lv : Int → Int} {s k n : Int} (h : TQD n or_zq pr lv s) (k0 : -1 ≤ k) : ∀ q, tql s k ≤ q → q < s → 0 ≤ or_zq q := fun q a b => (h.2.1 q (by have := tql_0 (s := s) k0; omega) b).1
theorem tq1_start {or_zq pr x : Int → Int} {s k j n : Int} (h : TQ0 n or_zq pr x s k) (hj : j = 1) : TQ1 n or_zq pr x s k j := ⟨by omega, by rw [show tqc or_zq pr s (tql s k) n + j - 1 = tqc or_zq pr s (tql s k) n by omega]; exact h⟩
theorem tq2_of {or_zq pr x : Int → Int} {s k j n ct : Int} (h : TQ1 n or_zq pr x s k j) (hj : j ≤ ct ∨ j ≤ 1) : TQ2 n or_zq pr x ct s k := by
  refine tqx_le h.2 ?_
  by_cases c : ct ≤ 1
  · rw [if_pos c]; omega
  · rw [if_neg c]; omega
theorem tqp_0 {or_zq kd : Int → Int} {pl ct s k n : Int} (hp : pl = 0) (hc : ct = 0) : TQP n or_zq kd pl ct s k := ⟨fun h => by omega, fun b _ _ z => absurd (hp ▸ z) (bit_zero b)⟩
theorem tqp_start {or_zq lv kd un : Int → Int} {pl ct s k n : Int} (hu : TQU n or_zq un s k) (hk : TQK or_zq lv kd ct s k) (hc : 1 ≤ ct) (hp : pl = un (kd 0)) : TQP n or_zq kd pl ct s k := by
  obtain ⟨⟨q, a, b, c⟩, _⟩ := hk 0 (by omega) (by omega)
  have := hu q a b
  rw [c, ← hp] at this
  exact ⟨fun _ => this.1, this.2⟩
theorem tqp_step {or_zq lv kd un : Int → Int} {pl pl_zq tr ct s k n j : Int} (h : TQP n or_zq kd pl ct s k) (hu : TQU n or_zq un s k) (hk : TQK or_zq lv kd ct s k) (j0 : 0 ≤ j) (jc : j < ct) (htr : tr = un (kd j)) (ho : bvp pl_zq = bvp pl ||| bvp tr) : TQP n or_zq kd pl_zq ct s k := by
  obtain ⟨⟨q, a, b, c⟩, _⟩ := hk j j0 jc
  have := hu q a b
  rw [c, ← htr] at this
  refine ⟨fun z => (bit_or ho _).mpr (Or.inl (h.1 z)), fun b b0 b1 z => ?_⟩
  rcases (bit_or ho b).mp z with y | y
  · exact h.2 b b0 b1 y
  · exact this.2 b b0 b1 y
/-- the kids of a node -/
def TQL (pr kd : Int → Int) (v ct w : Int) : Prop := (∀ j, 0 ≤ j → j < ct → 0 ≤ kd j ∧ kd j < w ∧ pr (kd j) = v) ∧ ct = pxs (kid pr v) w ∧ ct ≤ w
theorem tql_start {pr kd : Int → Int} {v ct w : Int} (hc : ct = 0) (hw : w = 0) : TQL pr kd v ct w := ⟨fun j a b => by omega, by rw [hw, hc]; exact (pxs_0 (by omega)).symm, by omega⟩
theorem tql_skip {pr kd : Int → Int} {v ct w w_zq x : Int} (h : TQL pr kd v ct w) (w0 : 0 ≤ w) (hx : x = pr w) (hn : x ≠ v) (hw : w_zq = w + 1) : TQL pr kd v ct w_zq := by
  refine ⟨fun j a b => by have := h.1 j a b; exact ⟨this.1, by omega, this.2.2⟩, ?_, by have := h.2.2; omega⟩
  rw [pxs_succ w0 hw, ← h.2.1]
  unfold kid
  rw [if_neg (by rw [← hx]; exact hn)]; omega
theorem tql_step {pr kd kd_zq : Int → Int} {v ct ct_zq w w_zq x p y : Int} (h : TQL pr kd v ct w) (w0 : 0 ≤ w) (hx : x = pr w) (hn : x = v) (hs : st1 kd kd_zq p y) (hp : p = ct) (hy : y = w) (hc : ct_zq = ct + 1) (hw : w_zq = w + 1) : TQL pr kd_zq v ct_zq w_zq := by
  refine ⟨fun j a b => ?_, ?_, by have := h.2.2; omega⟩
  · by_cases e : j = ct
    · rw [(hs j a).1 (by omega), hy, ← hx]; exact ⟨w0, by omega, hn⟩
    · rw [(hs j a).2 (by omega)]
      have := h.1 j a (by omega); exact ⟨this.1, by omega, this.2.2⟩
  · rw [pxs_succ w0 hw, ← h.2.1]
    unfold kid
    rw [if_pos (by rw [← hx]; exact hn)]; omega
theorem tqk_of {or_zq pr lv kd : Int → Int} {v ct w s k n : Int} (h : TQL pr kd v ct w) (hw : w = n) (hd : TQD n or_zq pr lv s) (k0 : 0 ≤ k) (k1 : k < s) (hv : v = or_zq k) : TQK or_zq lv kd ct s k := by
  have key : ∀ j, 0 ≤ j → j < ct → (∃ q, tql s k ≤ q ∧ q < s ∧ or_zq q = kd j) ∧ lv (kd j) = lv v + 1 ∧ 0 ≤ lv (kd j) ∧ lv (kd j) < 24 := fun j a b => by
    obtain ⟨c0, c1, c2⟩ := h.1 j a b
    obtain ⟨q, q0, q1, q2⟩ := hd.2.2.1 (kd j) c0 (by omega)
    obtain ⟨l1, l2⟩ := hd.2.2.2.1 q q0 q1
    rw [q2] at l1 l2
    have v0 := (hd.2.1 k k0 k1).1
    rw [← hv] at v0
    rcases l2 with ⟨z, _⟩ | ⟨k_zq, y0, y1, y2, y3⟩
    · omega
    · have e := hd.2.2.2.2 k k_zq k0 k1 y0 (by omega) (by rw [← hv, ← c2, y2])
      rw [← e, ← hv] at y3
      exact ⟨⟨q, by rw [tql_lt k1]; omega, q1, q2⟩, y3, l1.1, by have := hd.1; omega⟩
  intro j a b
  have h1 := key j a b
  have h0 := key 0 (by omega) (by omega)
  exact ⟨h1.1, by rw [h1.2.1, h0.2.1], h1.2.2⟩
theorem tqc_of {or_zq pr lv kd : Int → Int} {v ct w s k n : Int} (h : TQL pr kd v ct w) (hw : w = n) (hd : TQD n or_zq pr lv s) (k0 : 0 ≤ k) (k1 : k < s) (hv : v = or_zq k) (n0 : 0 ≤ n) (n24 : n ≤ 24) : TQC n or_zq pr ct s k := by
  unfold TQC
  rw [tql_lt k1, h.2.1, hw, ← tqc_step hd k0 k1 hv rfl]
  have := tqc_ub (or_zq := or_zq) (pr := pr) (s := s) (k := k) n0
  omega
/-- a node has been placed over its kids -/
def TQN (n : Int) (or_zq : Int → Int) (pr : Int → Int) (x : Int → Int) (s : Int) (k : Int) : Prop := TQX or_zq x s k (tqc or_zq pr s k n)
def TQM (n : Int) (or_zq : Int → Int) (un : Int → Int) (s : Int) (k : Int) : Prop := ∀ q, k ≤ q → q < s → bit (un (or_zq q)) (or_zq q) ∧ ∀ b, 0 ≤ b → b < n → bit (un (or_zq q)) b → ∃ q_zq, k ≤ q_zq ∧ q_zq < s ∧ or_zq q_zq = b
theorem tqn_of {or_zq pr lv kd x x_zq : Int → Int} {v ct w s k n p y : Int} (h : TQ2 n or_zq pr x ct s k) (hl : TQL pr kd v ct w) (hk : TQK or_zq lv kd ct s k) (hw : w = n) (hd : TQD n or_zq pr lv s) (k0 : 0 ≤ k) (k1 : k < s) (hv : v = or_zq k) (hs : st1 x x_zq p y) (hp : p = v) (hy : y = 0 ∨ (1 ≤ ct ∧ 2 * y ≤ x (kd 0) + x (kd (ct - 1)) ∧ x (kd 0) + x (kd (ct - 1)) ≤ 2 * y + 1)) : TQN n or_zq pr x_zq s k := by
  have e := tqc_step hd k0 k1 hv (k_zq := k + 1) rfl
  rw [← hw, ← hl.2.1, hw] at e
  have hc : 0 ≤ ct := by rw [hl.2.1]; exact kid_0
  unfold TQ2 at h
  rw [tql_lt k1] at h
  obtain ⟨t0, lo, hi, a, b, c⟩ := tqx_le h (t_zq := tqc or_zq pr s k n) (by
    by_cases z : ct ≤ 1
    · rw [if_pos z]; omega
    · rw [if_neg z]; omega)
  refine ⟨t0, lo, hi, a, b, fun q q0 q1 => ?_⟩
  have oq := (hd.2.1 q (by omega) q1).1
  by_cases z : q = k
  · rw [z, ← hv, (hs v (by rw [hv, ← z]; exact oq)).1 hp.symm]
    rcases hy with g | ⟨g, g1, g2⟩
    · omega
    · obtain ⟨⟨i, i0, i1, i2⟩, _⟩ := hk 0 (by omega) (by omega)
      obtain ⟨⟨j, j0, j1, j2⟩, _⟩ := hk (ct - 1) (by omega) (by omega)
      rw [tql_lt k1] at i0 j0
      have u1 := c i i0 i1
      have u2 := c j j0 j1
      rw [i2] at u1
      rw [j2] at u2
      omega
  · rw [(hs _ oq).2 (fun g => z (hd.2.2.2.2 q k (by omega) q1 k0 k1 (by rw [g, hp, hv])))]
    exact c q (by omega) q1
theorem tqm_of {or_zq pr lv un un_zq kd : Int → Int} {v s k n ct an o p y : Int} (h : TQU n or_zq un s k) (hd : TQD n or_zq pr lv s) (k0 : 0 ≤ k) (k1 : k < s) (hv : v = or_zq k) (v0 : 0 ≤ v) (v1 : v < 24) (n24 : n ≤ 24) (ha : TQP n or_zq kd an ct s k) (ho : bvp o = bvp 1 <<< v.toNat) (hy : bvp y = bvp o ||| bvp an) (hs : st1 un un_zq p y) (hp : p = v) : TQM n or_zq un_zq s k := by
  intro q q0 q1
  have oq := (hd.2.1 q (by omega) q1).1
  by_cases z : q = k
  · rw [z, ← hv, (hs v v0).1 hp.symm]
    refine ⟨(bit_or hy v).mpr (Or.inl (by rw [bit_shl ho rfl v0 v0 (by omega)])), fun b b0 b1 g => ?_⟩
    rcases (bit_or hy b).mp g with f | f
    · rw [bit_shl ho rfl v0 b0 (by omega)] at f
      exact ⟨k, by omega, k1, by rw [f, hv]⟩
    · obtain ⟨q_zq, a1, a2, a3⟩ := ha.2 b b0 b1 f
      rw [tql_lt k1] at a1
      exact ⟨q_zq, by omega, a2, a3⟩
  · rw [(hs _ oq).2 (fun g => z (hd.2.2.2.2 q k (by omega) q1 k0 k1 (by rw [g, hp, hv])))]
    have := h q (by rw [tql_lt k1]; omega) q1
    refine ⟨this.1, fun b b0 b1 g => ?_⟩
    obtain ⟨q_zq, a1, a2, a3⟩ := this.2 b b0 b1 g
    rw [tql_lt k1] at a1
    exact ⟨q_zq, by omega, a2, a3⟩
theorem tqn_val {or_zq pr lv kd x : Int → Int} {ct s k n y : Int} (h : TQ2 n or_zq pr x ct s k) (hc : TQC n or_zq pr ct s k) (hk : TQK or_zq lv kd ct s k) (c1 : 1 ≤ ct) (h1 : 2 * y ≤ x (kd 0) + x (kd (ct - 1))) (h2 : x (kd 0) + x (kd (ct - 1)) ≤ 2 * y + 1) : -33554432 ≤ y ∧ y ≤ 33554432 := by
  have t23 : (tqc or_zq pr s (tql s k) n + if ct ≤ 1 then 0 else ct - 1) ≤ 23 := by
    unfold TQC at hc
    by_cases z : ct ≤ 1
    · rw [if_pos z]; omega
    · rw [if_neg z]; omega
  obtain ⟨⟨i, i0, i1, i2⟩, _⟩ := hk 0 (by omega) (by omega)
  obtain ⟨⟨j, j0, j1, j2⟩, _⟩ := hk (ct - 1) (by omega) (by omega)
  have u1 := tqx_bd h t23 i0 i1
  have u2 := tqx_bd h t23 j0 j1
  rw [i2] at u1
  rw [j2] at u2
  omega
/-- from the last to the first -/
theorem tq0_start {or_zq pr x : Int → Int} {s k n : Int} (hk : k = s - 1) : TQ0 n or_zq pr x s k := by
  refine ⟨tqc_0, 0, 0, by omega, ?_, fun q a b => ?_⟩
  · have := pow_le2 (a := 0) (b := (tqc or_zq pr s (tql s k) n).toNat) (by omega)
    have e : (2 : Int) ^ 0 = 1 := rfl
    omega
  · rw [tql_lt (by omega)] at a; omega
theorem tqu_start {or_zq un : Int → Int} {s k n : Int} (hk : k = s - 1) : TQU n or_zq un s k := fun q a b => by rw [tql_lt (by omega)] at a; omega
theorem tq0_next {or_zq pr x : Int → Int} {s k k_zq n : Int} (h : TQN n or_zq pr x s k) (hk : k_zq = k - 1) (k1 : k < s) : TQ0 n or_zq pr x s k_zq := by
  unfold TQ0
  rw [tql_lt (by omega), show k_zq + 1 = k by omega]; exact h
theorem tqu_next {or_zq un : Int → Int} {s k k_zq n : Int} (h : TQM n or_zq un s k) (hk : k_zq = k - 1) (k1 : k < s) : TQU n or_zq un s k_zq := by
  intro q
  rw [tql_lt (by omega), show k_zq + 1 = k by omega]; exact h q
theorem tq0_all {or_zq pr x : Int → Int} {s k k_zq n : Int} (h : TQ0 n or_zq pr x s k) (hk : k = -1) (s0 : 0 ≤ s) (hk_zq : s ≤ k_zq) : TQ0 n or_zq pr x s k_zq := by
  unfold TQ0 at *
  rw [tql_lt (by omega), show k + 1 = 0 by omega] at h
  rw [tql_ge hk_zq]; exact h
theorem tqu_all {or_zq un : Int → Int} {s k k_zq n : Int} (h : TQU n or_zq un s k) (hk : k = -1) (s0 : 0 ≤ s) (hk_zq : s ≤ k_zq) : TQU n or_zq un s k_zq := by
  intro q
  have h := h q
  rw [tql_lt (by omega), show k + 1 = 0 by omega] at h
  rw [tql_ge hk_zq]; exact h
/-- the roots -/
noncomputable def tqr (or_zq pr : Int → Int) (q n : Int) : Int := pxs (fun c => @ite _ (pr c = -1 ∧ ∃ i, 0 ≤ i ∧ i < q ∧ or_zq i = c) (Classical.propDecidable _) 1 0) n
def TQR (n : Int) (or_zq : Int → Int) (pr : Int → Int) (kd : Int → Int) (ct : Int) (q : Int) : Prop := (∀ j, 0 ≤ j → j < ct → ∃ i, 0 ≤ i ∧ i < q ∧ or_zq i = kd j ∧ pr (kd j) = -1) ∧ ct ≤ tqr or_zq pr q n ∧ 0 ≤ ct ∧ ct ≤ q
theorem tqr_mono {or_zq pr : Int → Int} {q q_zq n : Int} (h : q ≤ q_zq) : tqr or_zq pr q n ≤ tqr or_zq pr q_zq n := by
  refine pxs_mono n (fun c a b => ?_)
  by_cases r : pr c = -1 ∧ ∃ i, 0 ≤ i ∧ i < q ∧ or_zq i = c
  · obtain ⟨r1, i, i0, i1, i2⟩ := r
    rw [if_pos ⟨r1, i, i0, i1, i2⟩, if_pos ⟨r1, i, i0, by omega, i2⟩]; omega
  · rw [if_neg r]
    by_cases r : pr c = -1 ∧ ∃ i, 0 ≤ i ∧ i < q_zq ∧ or_zq i = c
    · rw [if_pos r]; omega
    · rw [if_neg r]; omega
theorem tqr_start {or_zq pr kd : Int → Int} {ct q n : Int} (hc : ct = 0) (hq : q = 0) : TQR n or_zq pr kd ct q := by
  refine ⟨fun j a b => by omega, ?_, by omega, by omega⟩
  rw [hc]
  refine pxs_lb n (fun c => ?_)
  by_cases r : pr c = -1 ∧ ∃ i, 0 ≤ i ∧ i < q ∧ or_zq i = c
  · rw [if_pos r]; omega
  · rw [if_neg r]; omega
theorem tqr_skip {or_zq pr kd : Int → Int} {ct q q_zq n : Int} (h : TQR n or_zq pr kd ct q) (hq : q_zq = q + 1) : TQR n or_zq pr kd ct q_zq := by
  refine ⟨fun j a b => ?_, ?_, h.2.2.1, by have := h.2.2.2; omega⟩
  · obtain ⟨i, i0, i1, i2⟩ := h.1 j a b
    exact ⟨i, i0, by omega, i2⟩
  · have := tqr_mono (or_zq := or_zq) (pr := pr) (q := q) (q_zq := q_zq) (n := n) (by omega)
    have := h.2.1
    omega
theorem tqr_step {or_zq pr lv kd kd_zq : Int → Int} {ct ct_zq q q_zq n s p y : Int} (h : TQR n or_zq pr kd ct q) (hd : TQD n or_zq pr lv s) (q0 : 0 ≤ q) (q1 : q < s) (hr : pr (or_zq q) = -1) (hs : st1 kd kd_zq p y) (hp : p = ct) (hy : y = or_zq q) (hc : ct_zq = ct + 1) (hq : q_zq = q + 1) : TQR n or_zq pr kd_zq ct_zq q_zq := by
  have oq := hd.2.1 q q0 q1
  refine ⟨fun j a b => ?_, ?_, by have := h.2.2.1; omega, by have := h.2.2.2; omega⟩
  · by_cases e : j = ct
    · rw [(hs j a).1 (by omega), hy]; exact ⟨q, q0, by omega, rfl, hr⟩
    · rw [(hs j a).2 (by omega)]
      obtain ⟨i, i0, i1, i2⟩ := h.1 j a (by omega)
      exact ⟨i, i0, by omega, i2⟩
  · have : tqr or_zq pr q_zq n = tqr or_zq pr q n + 1 := by
      refine pxs_one (x := or_zq q) n (fun c a b z => ?_) oq.1 oq.2 ?_
      · by_cases r : pr c = -1 ∧ ∃ i, 0 ≤ i ∧ i < q ∧ or_zq i = c
        · obtain ⟨r1, i, i0, i1, i2⟩ := r
          rw [if_pos ⟨r1, i, i0, by omega, i2⟩, if_pos ⟨r1, i, i0, i1, i2⟩]
        · rw [if_neg r, if_neg (fun ⟨r1, i, i0, i1, i2⟩ => by
            by_cases e : i = q
            · rw [e] at i2; exact z i2.symm
            · exact r ⟨r1, i, i0, by omega, i2⟩)]
      · rw [if_pos ⟨hr, q, q0, by omega, rfl⟩, if_neg (fun ⟨r1, i, i0, i1, i2⟩ => by
          have := hd.2.2.2.2 i q i0 (by omega) q0 q1 i2; omega)]
        omega
    have := h.2.1
    omega
theorem tqr_k {or_zq pr lv kd : Int → Int} {ct q s k n : Int} (h : TQR n or_zq pr kd ct q) (hd : TQD n or_zq pr lv s) (hq : q ≤ s) (hk : s ≤ k) : TQK or_zq lv kd ct s k := by
  have key : ∀ j, 0 ≤ j → j < ct → (∃ q, tql s k ≤ q ∧ q < s ∧ or_zq q = kd j) ∧ lv (kd j) = 0 := fun j a b => by
    obtain ⟨i, i0, i1, i2, i3⟩ := h.1 j a b
    refine ⟨⟨i, by rw [tql_ge hk]; exact i0, by omega, i2⟩, ?_⟩
    obtain ⟨l1, l2⟩ := hd.2.2.2.1 i i0 (by omega)
    rw [i2] at l1 l2
    rcases l2 with ⟨_, z⟩ | ⟨k_zq, y0, y1, y2, y3⟩
    · exact z
    · have := (hd.2.1 k_zq y0 (by omega)).1
      omega
  intro j a b
  have h1 := key j a b
  have h0 := key 0 (by omega) (by omega)
  exact ⟨h1.1, by rw [h1.2, h0.2], by omega⟩
theorem tqr_c {or_zq pr lv kd : Int → Int} {ct q s k n : Int} (h : TQR n or_zq pr kd ct q) (hd : TQD n or_zq pr lv s) (hk : s ≤ k) (n0 : 0 ≤ n) (n24 : n ≤ 24) : TQC n or_zq pr ct s k := by
  unfold TQC
  rw [tql_ge hk]
  have e : pxs (fun c => (@ite _ (∃ q, 0 ≤ q ∧ q < s ∧ pr c = or_zq q) (Classical.propDecidable _) (1 : Int) 0) + @ite _ (pr c = -1 ∧ ∃ i, 0 ≤ i ∧ i < q ∧ or_zq i = c) (Classical.propDecidable _) 1 0) n = tqc or_zq pr s 0 n + tqr or_zq pr q n := pxs_add n (fun c _ _ => rfl)
  have u := pxs_ub (f := fun c => (@ite _ (∃ q, 0 ≤ q ∧ q < s ∧ pr c = or_zq q) (Classical.propDecidable _) (1 : Int) 0) + @ite _ (pr c = -1 ∧ ∃ i, 0 ≤ i ∧ i < q ∧ or_zq i = c) (Classical.propDecidable _) 1 0) n n0 (fun c => by
    by_cases r : ∃ q, 0 ≤ q ∧ q < s ∧ pr c = or_zq q
    · obtain ⟨q_zq, a0, a1, a2⟩ := r
      have := (hd.2.1 q_zq a0 a1).1
      rw [if_pos ⟨q_zq, a0, a1, a2⟩, if_neg (fun z => by have := z.1; omega)]; omega
    · rw [if_neg r]
      by_cases g : pr c = -1 ∧ ∃ i, 0 ≤ i ∧ i < q ∧ or_zq i = c
      · rw [if_pos g]; omega
      · rw [if_neg g]; omega)
  have := h.2.1
  omega
/-- the least -/
def TQ3 (n : Int) (x : Int → Int) : Prop := ∃ lo hi : Int, hi - lo ≤ 67108864 ∧ ∀ v, 0 ≤ v → v < n → lo ≤ x v ∧ x v ≤ hi
theorem tq3_of {or_zq pr lv x : Int → Int} {ct s k n : Int} (h : TQ2 n or_zq pr x ct s k) (hc : TQC n or_zq pr ct s k) (c0 : 0 ≤ ct) (hd : TQD n or_zq pr lv s) (hk : s ≤ k) : TQ3 n x := by
  obtain ⟨t0, lo, hi, a, b, c⟩ := tqx_le h (t_zq := 24) (by
    unfold TQC at hc
    by_cases z : ct ≤ 1
    · rw [if_pos z]; omega
    · rw [if_neg z]; omega)
  refine ⟨lo, hi, ?_, fun v v0 v1 => ?_⟩
  · have : (2 : Int) ^ (24 : Int).toNat = 16777216 := by decide
    omega
  · obtain ⟨i, i0, i1, i2⟩ := hd.2.2.1 v v0 v1
    have := c i (by rw [tql_ge hk]; exact i0) i1
    rw [i2] at this; exact this
def TQ4 (n : Int) (x : Int → Int) (le : Int) (v : Int) : Prop := 1 ≤ v ∧ ∃ lo hi : Int, hi - lo ≤ 67108864 ∧ (n ≤ 0 ∨ lo ≤ le) ∧ (∀ v, 0 ≤ v → v < n → lo ≤ x v ∧ x v ≤ hi) ∧ ∀ j, 0 ≤ j → j < v → j < n → le ≤ x j
theorem tq4_start {le v n : Int} {x : Int → Int} (h : TQ3 n x) (hl : le = x 0) (hv : v = 1) : TQ4 n x le v := by
  obtain ⟨lo, hi, a, b⟩ := h
  refine ⟨by omega, lo, hi, a, ?_, b, fun j j0 j1 _ => by rw [show j = 0 by omega]; omega⟩
  by_cases c : n ≤ 0
  · exact Or.inl c
  · have := b 0 (by omega) (by omega); omega
theorem tq4_step {le le_zq v v_zq n a : Int} {x : Int → Int} (h : TQ4 n x le v) (v1 : v < n) (ha : a = x v) (hm : (le_zq = le ∨ le_zq = a) ∧ le_zq ≤ le ∧ le_zq ≤ a) (hv : v_zq = v + 1) : TQ4 n x le_zq v_zq := by
  obtain ⟨v0, lo, hi, p, q, b, c⟩ := h
  refine ⟨by omega, lo, hi, p, ?_, b, fun j j0 j1 j2 => ?_⟩
  · have := b v (by omega) v1
    omega
  · by_cases e : j = v
    · rw [e]; omega
    · have := c j j0 (by omega) j2; omega
def TQ5 (n : Int) (x : Int → Int) (le : Int) (v : Int) : Prop := 0 ≤ v ∧ ∀ j, v ≤ j → j < n → le ≤ x j ∧ x j ≤ le + 67108864
theorem tq5_start {le v w n : Int} {x : Int → Int} (h : TQ4 n x le w) (hw : n ≤ w) (hv : v = 0) : TQ5 n x le v := by
  obtain ⟨v0, lo, hi, p, q, b, c⟩ := h
  refine ⟨by omega, fun j j0 j1 => ?_⟩
  have := b j (by omega) j1
  have := c j (by omega) (by omega) j1
  omega
theorem tq5_step {le v v_zq n p y : Int} {x x_zq : Int → Int} (h : TQ5 n x le v) (hs : st1 x x_zq p y) (hp : p = v) (hv : v_zq = v + 1) : TQ5 n x_zq le v_zq := by
  refine ⟨by have := h.1; omega, fun j j0 j1 => ?_⟩
  rw [(hs j (by have := h.1; omega)).2 (by omega)]
  exact h.2 j (by omega) j1
/-- a node's bit -/
def TQO (o v : Int) : Prop := bvp o = bvp 1 <<< v.toNat
theorem tqo_of {o v q : Int} (h : bvp o = bvp q <<< v.toNat) (hq : q = 1) : TQO o v := by rw [hq] at h; exact h
theorem tqk_val {or_zq pr lv kd x : Int → Int} {ct s k n j : Int} (h : TQ2 n or_zq pr x ct s k) (hc : TQC n or_zq pr ct s k) (hk : TQK or_zq lv kd ct s k) (j0 : 0 ≤ j) (j1 : j < ct) : -33554432 ≤ x (kd j) ∧ x (kd j) ≤ 33554432 := by
  have t23 : (tqc or_zq pr s (tql s k) n + if ct ≤ 1 then 0 else ct - 1) ≤ 23 := by
    unfold TQC at hc
    by_cases z : ct ≤ 1
    · rw [if_pos z]; omega
    · rw [if_neg z]; omega
  obtain ⟨⟨i, i0, i1, i2⟩, _⟩ := hk j j0 j1
  have u1 := tqx_bd h t23 i0 i1
  rw [i2] at u1; exact u1
end
section
-- blocks: labels do not mix what lies on two sides of a cut
/-- a set of nodes that hangs together with the rest at one node alone, by neighbours and by edges -/
def CUT2 (n m : Int) (tl hd nr : Int → Int) (w0 : Int) (S : Int → Prop) : Prop := ¬ S w0 ∧ (∀ u w, 0 ≤ u → u < n → 0 ≤ w → w < 32 → u ≠ w0 → w ≠ w0 → bit (nr u) w → (S u ↔ S w)) ∧ ∀ e, 0 ≤ e → e < m → tl e ≠ w0 → hd e ≠ w0 → (S (tl e) ↔ S (hd e))
def sdr (n m : Int) (tl hd nr : Int → Int) (e f : Int) : Prop := ∀ (w0 : Int) (S : Int → Prop), CUT2 n m tl hd nr w0 S → ((S (tl e) ∨ S (hd e)) ↔ (S (tl f) ∨ S (hd f)))
theorem sdr_rfl {n m e : Int} {tl hd nr : Int → Int} : sdr n m tl hd nr e e := fun _ _ _ => Iff.rfl
theorem sdr_symm {n m e f : Int} {tl hd nr : Int → Int} (h : sdr n m tl hd nr e f) : sdr n m tl hd nr f e := fun w S c => (h w S c).symm
theorem sdr_trans {n m e f g : Int} {tl hd nr : Int → Int} (h : sdr n m tl hd nr e f) (h2 : sdr n m tl hd nr f g) : sdr n m tl hd nr e g := fun w S c => (h w S c).trans (h2 w S c)
def BCU (bl tl hd nr : Int → Int) (n m : Int) : Prop := ∀ e f, 0 ≤ e → e < m → 0 ≤ f → f < m → bl e = bl f → sdr n m tl hd nr e f
theorem bcu_start {bl tl hd nr : Int → Int} {n m e : Int} (h : BL0 bl e) (he : m ≤ e) : BCU bl tl hd nr n m := fun i j i0 i1 j0 j1 q => by
  rw [h i i0 (by omega), h j j0 (by omega)] at q
  rw [q]; exact sdr_rfl
/-- the edges at a node with their other ends in a set -/
def ats (tl hd : Int → Int) (v sd e : Int) : Prop := (tl e = v ∧ (0 ≤ hd e ∧ hd e < 32) ∧ bit sd (hd e)) ∨ (hd e = v ∧ (0 ≤ tl e ∧ tl e < 32) ∧ bit sd (tl e))
def USD (tl hd nr : Int → Int) (n m v sd : Int) : Prop := ∀ e f, 0 ≤ e → e < m → 0 ≤ f → f < m → ats tl hd v sd e → ats tl hd v sd f → sdr n m tl hd nr e f
theorem usd_of {tl hd nr : Int → Int} {n m v sd q al w : Int} (hS : SPZ nr n q al sd) (hq : bvp q = bvp 1 <<< w.toNat) (w0 : 0 ≤ w) (w1 : w < 32) (ha : ∀ x, 0 ≤ x → x < 32 → bit al x → x ≠ v) : USD tl hd nr n m v sd := by
  intro e f e0 e1 f0 f1 ae af c S hc
  obtain ⟨c1, c2, c3⟩ := hc
  have sv : ∀ x, 0 ≤ x → x < 32 → bit sd x → x ≠ v := fun x a b z => ha x a b (hS.1 x a b z)
  by_cases vc : v = c
  · have same : ∀ x y, 0 ≤ x → x < 32 → bit sd x → 0 ≤ y → y < 32 → bit sd y → (S x ↔ S y) := by
      by_cases sw : S w
      · have := hS.2.2.1 S ⟨fun x a b z _ => by rw [bit_shl hq rfl w0 a b] at z; rw [z]; exact sw, fun u x u0 u1 su x0 x1 z y => (c2 u x u0 u1 x0 x1 (fun h => c1 (h ▸ su)) (by rw [← vc]; exact ha x x0 x1 y) z).mp su⟩
        intro x y x0 x1 zx y0 y1 zy
        exact ⟨fun _ => this y y0 y1 zy, fun _ => this x x0 x1 zx⟩
      · have := hS.2.2.1 (fun x => ¬ S x ∧ x ≠ c) ⟨fun x a b z y => ⟨by rw [bit_shl hq rfl w0 a b] at z; rw [z]; exact sw, by rw [← vc]; exact ha x a b y⟩, fun u x u0 u1 su x0 x1 z y => ⟨fun sx => su.1 ((c2 u x u0 u1 x0 x1 su.2 (by rw [← vc]; exact ha x x0 x1 y) z).mpr sx), by rw [← vc]; exact ha x x0 x1 y⟩⟩
        intro x y x0 x1 zx y0 y1 zy
        exact ⟨fun h => absurd h (this x x0 x1 zx).1, fun h => absurd h (this y y0 y1 zy).1⟩
    have one : ∀ e, ats tl hd v sd e → ∃ x, (0 ≤ x ∧ x < 32) ∧ bit sd x ∧ ((S (tl e) ∨ S (hd e)) ↔ S x) := fun e h => by
      rcases h with ⟨a, b, z⟩ | ⟨a, b, z⟩
      · exact ⟨hd e, b, z, ⟨fun h => h.elim (fun h => absurd (by rw [a, vc] at h; exact h) c1) id, Or.inr⟩⟩
      · exact ⟨tl e, b, z, ⟨fun h => h.elim id (fun h => absurd (by rw [a, vc] at h; exact h) c1), Or.inl⟩⟩
    obtain ⟨x, hx, zx, ex⟩ := one e ae
    obtain ⟨y, hy, zy, ey⟩ := one f af
    rw [ex, ey]; exact same x y hx.1 hx.2 zx hy.1 hy.2 zy
  · have one : ∀ e, 0 ≤ e → e < m → ats tl hd v sd e → ((S (tl e) ∨ S (hd e)) ↔ S v) := fun e e0 e1 h => by
      rcases h with ⟨a, b, z⟩ | ⟨a, b, z⟩
      · by_cases k : hd e = c
        · rw [a, k]; exact ⟨fun h => h.elim id (fun h => absurd h c1), Or.inl⟩
        · have := c3 e e0 e1 (by rw [a]; exact vc) k
          rw [← this, a]; exact ⟨fun h => h.elim id id, Or.inl⟩
      · by_cases k : tl e = c
        · rw [a, k]; exact ⟨fun h => h.elim (fun h => absurd h c1) id, Or.inr⟩
        · have := c3 e e0 e1 k (by rw [a]; exact vc)
          rw [this, a]; exact ⟨fun h => h.elim id id, Or.inl⟩
    rw [one e e0 e1 ae, one f f0 f1 af]
/-- a label is kept -/
def UN2 (bl tl hd nr : Int → Int) (n m v sd k : Int) : Prop := (BCU bl tl hd nr n m ∧ USD tl hd nr n m v sd) ∧ (k = -1 ∨ ∃ f, 0 ≤ f ∧ f < m ∧ bl f = k ∧ ∀ e, 0 ≤ e → e < m → ats tl hd v sd e → sdr n m tl hd nr e f)
def QKP (bl tl hd nr : Int → Int) (n m v sd g k : Int) : Prop := (BCU bl tl hd nr n m ∧ USD tl hd nr n m v sd) ∧ g ≠ k ∧ ∃ e f, (0 ≤ e ∧ e < m) ∧ (0 ≤ f ∧ f < m) ∧ bl e = g ∧ bl f = k ∧ sdr n m tl hd nr e f ∧ ∀ e, 0 ≤ e → e < m → ats tl hd v sd e → sdr n m tl hd nr e f
def QKI (bl tl hd nr : Int → Int) (n m v sd g k e : Int) : Prop := ∃ b0 : Int → Int, QKP b0 tl hd nr n m v sd g k ∧ 0 ≤ e ∧ (∀ j, 0 ≤ j → j < e → j < m → bl j = if b0 j = g then k else b0 j) ∧ ∀ j, e ≤ j → j < m → bl j = b0 j
def QKO (bl tl hd nr : Int → Int) (n m v sd k : Int) : Prop := (BCU bl tl hd nr n m ∧ USD tl hd nr n m v sd) ∧ ∃ f, 0 ≤ f ∧ f < m ∧ bl f = k ∧ ∀ e, 0 ≤ e → e < m → ats tl hd v sd e → sdr n m tl hd nr e f
theorem qki_start {bl tl hd nr : Int → Int} {n m v sd g k e : Int} (h : QKP bl tl hd nr n m v sd g k) (he : e = 0) : QKI bl tl hd nr n m v sd g k e := ⟨bl, h, by omega, fun j a b => by omega, fun j _ _ => rfl⟩
theorem qki_skip {bl tl hd nr : Int → Int} {n m v sd g k e e_zq x : Int} (h : QKI bl tl hd nr n m v sd g k e) (hx : x = bl e) (hn : x ≠ g) (he : e_zq = e + 1) : QKI bl tl hd nr n m v sd g k e_zq := by
  obtain ⟨b0, h1, h2, h3, h4⟩ := h
  refine ⟨b0, h1, by omega, fun j a b c => ?_, fun j a b => h4 j (by omega) b⟩
  by_cases q : j = e
  · rw [q, h4 e (Int.le_refl _) (by omega), if_neg (by rw [← h4 e (Int.le_refl _) (by omega), ← hx]; exact hn)]
  · exact h3 j a (by omega) c
theorem qki_step {bl bl_zq tl hd nr : Int → Int} {n m v sd g k e e_zq x p y : Int} (h : QKI bl tl hd nr n m v sd g k e) (hx : x = bl e) (hg : x = g) (hs : st1 bl bl_zq p y) (hp : p = e) (hy : y = k) (he : e_zq = e + 1) : QKI bl_zq tl hd nr n m v sd g k e_zq := by
  obtain ⟨b0, h1, h2, h3, h4⟩ := h
  refine ⟨b0, h1, by omega, fun j a b c => ?_, fun j a b => ?_⟩
  · by_cases q : j = e
    · rw [(hs j a).1 (by omega), if_pos (by rw [q, ← h4 e (Int.le_refl _) (by omega), ← hx]; exact hg)]; exact hy
    · rw [(hs j a).2 (by omega)]; exact h3 j a (by omega) c
  · rw [(hs j (by omega)).2 (by omega)]; exact h4 j (by omega) b
theorem qko_of {bl tl hd nr : Int → Int} {n m v sd g k e : Int} (h : QKI bl tl hd nr n m v sd g k e) (he : m ≤ e) : QKO bl tl hd nr n m v sd k := by
  obtain ⟨b0, ⟨⟨z1, z2⟩, ne, a, f, ha, hf, ba, bf, r1, r2⟩, h2, h3, _⟩ := h
  have hb : ∀ j, 0 ≤ j → j < m → bl j = if b0 j = g then k else b0 j := fun j a b => h3 j a (by omega) b
  have bk : ∀ j, 0 ≤ j → j < m → bl j = k → sdr n m tl hd nr j f := fun j j0 j1 q => by
    rw [hb j j0 j1] at q
    by_cases c : b0 j = g
    · exact sdr_trans (z1 j a j0 j1 ha.1 ha.2 (by rw [c, ba])) r1
    · rw [if_neg c] at q
      exact z1 j f j0 j1 hf.1 hf.2 (by rw [q, bf])
  refine ⟨⟨fun i j i0 i1 j0 j1 q => ?_, z2⟩, f, hf.1, hf.2, by rw [hb f hf.1 hf.2, if_neg (by rw [bf]; exact fun q => ne q.symm), bf], r2⟩
  by_cases c : bl i = k
  · exact sdr_trans (bk i i0 i1 c) (sdr_symm (bk j j0 j1 (by rw [← q]; exact c)))
  · have ci : b0 i ≠ g := fun w => c (by rw [hb i i0 i1, if_pos w])
    have cj : b0 j ≠ g := fun w => c (by rw [q, hb j j0 j1, if_pos w])
    rw [hb i i0 i1, hb j j0 j1, if_neg ci, if_neg cj] at q
    exact z1 i j i0 i1 j0 j1 q
theorem un2_start {bl tl hd nr : Int → Int} {n m v sd k : Int} (h : BCU bl tl hd nr n m) (h2 : USD tl hd nr n m v sd) (hk : k = -1) : UN2 bl tl hd nr n m v sd k := ⟨⟨h, h2⟩, Or.inl hk⟩
theorem un2_first {bl tl hd nr : Int → Int} {n m v sd k k_zq e x : Int} (h : UN2 bl tl hd nr n m v sd k) (hx : x = bl e) (hk : k_zq = x) (e0 : 0 ≤ e) (e1 : e < m) (ha : ats tl hd v sd e) : UN2 bl tl hd nr n m v sd k_zq := ⟨h.1, Or.inr ⟨e, e0, e1, by omega, fun f f0 f1 af => h.1.2 f e f0 f1 e0 e1 af ha⟩⟩
theorem un2_qkp {bl tl hd nr : Int → Int} {n m v sd k e x g k_zq : Int} (h : UN2 bl tl hd nr n m v sd k) (hk : k ≠ -1) (hx : x = bl e) (hn : x ≠ k) (e0 : 0 ≤ e) (e1 : e < m) (ha : ats tl hd v sd e) (g1 : k ≤ g) (g2 : x ≤ g) (k1 : k_zq ≤ k) (k2 : k_zq ≤ x) (hg : g = k ∨ g = x) (hk_zq : k_zq = k ∨ k_zq = x) : QKP bl tl hd nr n m v sd g k_zq := by
  obtain ⟨h1, h2⟩ := h
  rcases h2 with q | ⟨f, f0, f1, f2, f3⟩
  · exact absurd q hk
  · refine ⟨h1, by omega, ?_⟩
    rcases hk_zq with w | w
    · exact ⟨e, f, ⟨e0, e1⟩, ⟨f0, f1⟩, by omega, by omega, f3 e e0 e1 ha, f3⟩
    · exact ⟨f, e, ⟨f0, f1⟩, ⟨e0, e1⟩, by omega, by omega, sdr_symm (f3 e e0 e1 ha), fun j j0 j1 aj => h1.2 j e j0 j1 e0 e1 aj ha⟩
theorem un2_back {bl tl hd nr : Int → Int} {n m v sd k : Int} (h : QKO bl tl hd nr n m v sd k) : UN2 bl tl hd nr n m v sd k := ⟨h.1, Or.inr h.2⟩
/-- labels get numbers -/
def LKJ (bl tl hd nr : Int → Int) (n m e c : Int) : Prop := ∃ b0 : Int → Int, (BLZ b0 tl hd m ∧ BCU b0 tl hd nr n m) ∧ 0 ≤ e ∧ (∀ j, e ≤ j → j < m → bl j = b0 j) ∧ (∀ j, 0 ≤ j → j < e → bl j < c) ∧ ∀ i j, 0 ≤ i → i < e → 0 ≤ j → j < e → (bl i = bl j ↔ b0 i = b0 j)
theorem lkj_start {bl tl hd nr : Int → Int} {n m e c : Int} (h : BLZ bl tl hd m) (h2 : BCU bl tl hd nr n m) (he : e = 0) : LKJ bl tl hd nr n m e c := ⟨bl, ⟨h, h2⟩, by omega, fun _ _ _ => rfl, fun j a b => by omega, fun i j a b => by omega⟩
theorem lkj_new {bl bl_zq tl hd nr : Int → Int} {n m e e_zq c c_zq p x y : Int} (h : LKJ bl tl hd nr n m e c) (e1 : e < m) (hy : y = bl e) (hr : y = e) (hs : st1 bl bl_zq p x) (hp : p = e) (hx : x = c) (he : e_zq = e + 1) (hc : c_zq = c + 1) : LKJ bl_zq tl hd nr n m e_zq c_zq := by
  obtain ⟨b0, h1, h2, h3, h4, h5⟩ := h
  have be : b0 e = e := by rw [← h3 e (Int.le_refl _) e1]; omega
  have ne : bl_zq e = c := by rw [(hs e h2).1 (by omega)]; exact hx
  have no : ∀ j, 0 ≤ j → j < e → bl_zq j = bl j := fun j a b => (hs j a).2 (by omega)
  have old : ∀ j, 0 ≤ j → j < e → b0 j < e := fun j a b => by have := (h1.1.1 j a (by omega)).2.1; omega
  refine ⟨b0, h1, by omega, fun j a b => by rw [(hs j (by omega)).2 (by omega)]; exact h3 j (by omega) b, fun j a b => ?_, fun i j i0 i1 j0 j1 => ?_⟩
  · by_cases q : j = e
    · rw [q, ne]; omega
    · rw [no j a (by omega)]; have := h4 j a (by omega); omega
  · by_cases q : i = e
    · by_cases w : j = e
      · rw [q, w]; exact ⟨fun _ => rfl, fun _ => rfl⟩
      · rw [q, ne, no j j0 (by omega), be]
        have := h4 j j0 (by omega); have := old j j0 (by omega)
        constructor <;> (intro; omega)
    · by_cases w : j = e
      · rw [w, ne, no i i0 (by omega), be]
        have := h4 i i0 (by omega); have := old i i0 (by omega)
        constructor <;> (intro; omega)
      · rw [no i i0 (by omega), no j j0 (by omega)]; exact h5 i j i0 (by omega) j0 (by omega)
theorem lkj_old {bl bl_zq tl hd nr : Int → Int} {n m e e_zq c p x r y : Int} (h : LKJ bl tl hd nr n m e c) (e1 : e < m) (hy : y = bl e) (hne : y ≠ e) (hr : r = bl e) (hx : x = bl r) (hs : st1 bl bl_zq p x) (hp : p = e) (he : e_zq = e + 1) : LKJ bl_zq tl hd nr n m e_zq c := by
  obtain ⟨b0, h1, h2, h3, h4, h5⟩ := h
  have re : r = b0 e := by rw [← h3 e (Int.le_refl _) e1]; exact hr
  have q1 := h1.1.1 e h2 e1
  have r0 : 0 ≤ r := by omega
  have r1 : r < e := by omega
  have ne : bl_zq e = bl r := by rw [(hs e h2).1 (by omega)]; exact hx
  have no : ∀ j, 0 ≤ j → j < e → bl_zq j = bl j := fun j a b => (hs j a).2 (by omega)
  have rr : b0 r = b0 e := by rw [re]; exact q1.2.2
  refine ⟨b0, h1, by omega, fun j a b => by rw [(hs j (by omega)).2 (by omega)]; exact h3 j (by omega) b, fun j a b => ?_, fun i j i0 i1 j0 j1 => ?_⟩
  · by_cases q : j = e
    · rw [q, ne]; exact h4 r r0 r1
    · rw [no j a (by omega)]; exact h4 j a (by omega)
  · by_cases q : i = e
    · by_cases w : j = e
      · rw [q, w]; exact ⟨fun _ => rfl, fun _ => rfl⟩
      · rw [q, ne, no j j0 (by omega), ← rr]; exact h5 r j r0 r1 j0 (by omega)
    · by_cases w : j = e
      · rw [w, ne, no i i0 (by omega), ← rr]; exact h5 i r i0 (by omega) r0 r1
      · rw [no i i0 (by omega), no j j0 (by omega)]; exact h5 i j i0 (by omega) j0 (by omega)
/-- with one label no cut has edges on both sides -/
def BKL (tl hd nr : Int → Int) (n m c : Int) : Prop := c ≤ m ∧ (c = 1 → ∀ e f, 0 ≤ e → e < m → 0 ≤ f → f < m → sdr n m tl hd nr e f)
theorem bkl_of {bl tl hd nr : Int → Int} {n m e c : Int} (h : LKJ bl tl hd nr n m e c) (hl : LBI bl m e c) (he : m ≤ e) (he2 : e ≤ m) : BKL tl hd nr n m c := by
  obtain ⟨b0, h1, h2, h3, h4, h5⟩ := h
  refine ⟨by have := hl.2.2.1; omega, fun c1 i j i0 i1 j0 j1 => ?_⟩
  have hi := hl.2.2.2.1 i i0 (by omega)
  have hj := hl.2.2.2.1 j j0 (by omega)
  exact h1.2 i j i0 i1 j0 j1 ((h5 i j i0 (by omega) j0 (by omega)).mp (by omega))
theorem bks_of {tl hd nr : Int → Int} {n m bk : Int} (h : BKL tl hd nr n m bk) (hg : GNB n m nr tl hd) (hk : GKE n m tl hd) (n24 : n ≤ 24) : BKS n m bk nr tl hd := by
  refine ⟨h.1, fun b1 w0 S hc e f e0 e1 f0 f1 se sf => ?_⟩
  have c2 : CUT2 n m tl hd nr w0 S := by
    have key : ∀ u w, 0 ≤ u → u < n → 0 ≤ w → w < 32 → u ≠ w0 → w ≠ w0 → bit (nr u) w → (S u ↔ S w) := fun u w u0 u1 w0_zq w1 hu hw z => by
      have g := hg.1 u w u0 u1 w0_zq w1 z
      exact ⟨fun su => (hc.2 u w u0 u1 w0_zq g.1 su z).elim id (fun q => absurd q hw), fun sw => (hc.2 w u w0_zq g.1 u0 u1 sw g.2).elim id (fun q => absurd q hu)⟩
    refine ⟨hc.1, key, fun e e0 e1 ht hh => ?_⟩
    have q := hk e e0 e1
    exact key (tl e) (hd e) q.1 q.2.1 q.2.2.1 (by omega) ht hh (hg.2.1 e e0 e1).1
  exact ((h.2 b1 e f e0 e1 f0 f1 w0 S c2).mp se).elim sf.1 sf.2
end
section
-- bars: a way is always found where one block is one part, so the line gets every node
/-- levels of free nodes over the ends -/
def LV3 (nr lv : Int → Int) (n st en fr op tp k : Int) : Prop := (1 ≤ k ∧ lv 0 = en) ∧ (∀ w, 0 ≤ w → w < 32 → bit fr w → bit op w ∨ ∃ j, 1 ≤ j ∧ j < k ∧ bit (lv j) w) ∧ (∀ j u w, 0 ≤ j → j + 1 < k → 0 ≤ u → u < n → bit (lv j) u → 0 ≤ w → w < 32 → bit (nr u) w → bit fr w → ∃ i, 1 ≤ i ∧ i < k ∧ bit (lv i) w) ∧ (tp = 0 → ∀ j w, 1 ≤ j → j < k → 0 ≤ w → w < 32 → bit (lv j) w → ¬ bit (nr st) w) ∧ cnb (bit op) n.toNat + (k - 1) ≤ cnb (bit fr) n.toNat
theorem lv3_start {nr lv lv' : Int → Int} {n st en fr op tp k p x : Int} (hs : st1 lv lv' p x) (hp : p = 0) (hx : x = en) (ho : op = fr) (hk : k = 1) : LV3 nr lv' n st en fr op tp k := by
  refine ⟨⟨by omega, by rw [(hs 0 (by omega)).1 (by omega)]; exact hx⟩, fun w _ _ z => Or.inl (ho ▸ z), fun j u w a b => by omega, fun _ j w a b => by omega, ?_⟩
  rw [ho, hk]; omega
theorem lv3_new {nr lv lv' : Int → Int} {n st en fr op tp tp_zq k k_zq p x q y r op_zq : Int} (h : LV3 nr lv n st en fr op tp k) (hb : ∀ w, 0 ≤ w → w < 32 → bit op w → bit fr w) (hf : FRN n fr) (hq : y = lv (k - 1)) (hN : NEF nr n y q) (hx : bvp x = bvp q &&& bvp op) (hs : st1 lv lv' p x) (hp : p = k) (hm1 : bvp r = bvp x ^^^ bvp (-1)) (ho : bvp op_zq = bvp op &&& bvp r) (ht : tp = 0) (hx0 : ∃ w, 0 ≤ w ∧ w < 32 ∧ bit x w) (ha : tp_zq ≠ 0 ∨ ∀ w, 0 ≤ w → w < 32 → bit (nr st) w → ¬ bit x w) (hk : k_zq = k + 1) : LV3 nr lv' n st en fr op_zq tp_zq k_zq := by
  obtain ⟨⟨h1, h2⟩, h3, h4, h5, h6⟩ := h
  subst hp
  subst hk
  have lk : lv' p = x := (hs p (by omega)).1 rfl
  have lo : ∀ j, 0 ≤ j → j ≠ p → lv' j = lv j := fun j a b => (hs j a).2 b
  have opb : ∀ w, 0 ≤ w → w < 32 → (bit op_zq w ↔ bit op w ∧ ¬ bit x w) := fun w a b => by rw [bit_and ho, bit_xor hm1 rfl a b]
  have up : ∀ w, (∃ j, 1 ≤ j ∧ j < p ∧ bit (lv j) w) → ∃ j, 1 ≤ j ∧ j < p + 1 ∧ bit (lv' j) w := fun w ⟨j, a, b, c⟩ => ⟨j, a, by omega, by rw [lo j (by omega) (by omega)]; exact c⟩
  refine ⟨⟨by omega, by rw [lo 0 (by omega) (by omega)]; exact h2⟩, fun w w0 w1 z => ?_, fun j u w j0 j1 u0 u1 bu w0 w1 z f => ?_, fun t0 j w j0 j1 w0 w1 z => ?_, ?_⟩
  · rcases h3 w w0 w1 z with c | c
    · by_cases d : bit x w
      · exact Or.inr ⟨p, h1, by omega, by rw [lk]; exact d⟩
      · exact Or.inl ((opb w w0 w1).mpr ⟨c, d⟩)
    · exact Or.inr (up w c)
  · rw [lo j j0 (by omega)] at bu
    by_cases e : j + 1 < p
    · exact up w (h4 j u w j0 e u0 u1 bu w0 w1 z f)
    · rcases h3 w w0 w1 f with c | c
      · refine ⟨p, h1, by omega, ?_⟩
        rw [lk, bit_and hx]
        exact ⟨(hN w w0 w1).mpr ⟨u, u0, u1, by rw [hq, show p - 1 = j by omega]; exact bu, z⟩, c⟩
      · exact up w c
  · by_cases e : j = p
    · rw [e, lk] at z
      rcases ha with c | c
      · exact absurd t0 c
      · exact fun q => c w w0 w1 q z
    · rw [lo j (by omega) e] at z
      exact h5 ht j w j0 (by omega) w0 w1 z
  · obtain ⟨w, w0, w1, wx⟩ := hx0
    have wo := ((bit_and hx w).mp wx).2
    have wn := hf w w0 w1 (hb w w0 w1 wo)
    have := cnb_more (P := bit op_zq) (Q := bit op) n.toNat (fun j j0 j1 z => by
      by_cases c : j < 32
      · exact ((opb j j0 c).mp z).1
      · exfalso
        unfold bit at z
        rw [BitVec.getLsbD_of_ge _ _ (by omega)] at z
        exact absurd z (by decide)) w0 (by omega) (fun z => ((opb w w0 w1).mp z).2 wx) wo
    omega
/-- no way -/
def SHZ (nr : Int → Int) (n st en fr an : Int) : Prop := an = 0 → 0 ≤ st → st < n → ¬ bit fr st → ∃ R : Int → Prop, (∀ w, R w → (0 ≤ w ∧ w < 32) ∧ bit fr w) ∧ (∀ u w, 0 ≤ u → u < n → bit en u → 0 ≤ w → w < 32 → bit fr w → bit (nr u) w → R w) ∧ (∀ u w, 0 ≤ u → u < n → R u → 0 ≤ w → w < 32 → bit fr w → bit (nr u) w → R w) ∧ ∀ w, R w → ¬ bit (nr st) w
theorem shz_no {nr : Int → Int} {n st en fr an : Int} (h : an ≠ 0) : SHZ nr n st en fr an := fun q => absurd q h
theorem shz_a {nr lv : Int → Int} {n st en fr op tp k x q y an : Int} (h : LV3 nr lv n st en fr op tp k) (h1 : LV1 nr lv n st en fr op tp k) (ht : tp = 0) (hq : y = lv (k - 1)) (hN : NEF nr n y q) (hx : bvp x = bvp q &&& bvp op) (x0 : x = 0) : SHZ nr n st en fr an := by
  obtain ⟨⟨k1, h2⟩, h3, h4, h5, _⟩ := h
  intro _ s0 s1 sf
  have last : ∀ u w, 0 ≤ u → u < n → bit (lv (k - 1)) u → 0 ≤ w → w < 32 → bit fr w → bit (nr u) w → ∃ i, 1 ≤ i ∧ i < k ∧ bit (lv i) w := fun u w u0 u1 bu w0 w1 f z => by
    rcases h3 w w0 w1 f with c | c
    · exfalso
      have : bit x w := (bit_and hx w).mpr ⟨(hN w w0 w1).mpr ⟨u, u0, u1, by rw [hq]; exact bu, z⟩, c⟩
      rw [x0] at this; exact bit_zero w this
    · exact c
  have all : ∀ j u w, 0 ≤ j → j < k → 0 ≤ u → u < n → bit (lv j) u → 0 ≤ w → w < 32 → bit fr w → bit (nr u) w → ∃ i, 1 ≤ i ∧ i < k ∧ bit (lv i) w := fun j u w j0 j1 u0 u1 bu w0 w1 f z => by
    by_cases e : j + 1 < k
    · exact h4 j u w j0 e u0 u1 bu w0 w1 z f
    · exact last u w u0 u1 (by rw [show k - 1 = j by omega]; exact bu) w0 w1 f z
  refine ⟨fun w => (0 ≤ w ∧ w < 32) ∧ ∃ i, 1 ≤ i ∧ i < k ∧ bit (lv i) w, fun w ⟨a, i, i0, i1, i2⟩ => ⟨a, ((h1.2.2.1 i i0 i1).1 w a.1 a.2 i2).1⟩, fun u w u0 u1 bu w0 w1 f z => ⟨⟨w0, w1⟩, all 0 u w (by omega) (by omega) u0 u1 (by rw [h2]; exact bu) w0 w1 f z⟩, fun u w u0 u1 ru w0 w1 f z => ?_, fun w ⟨a, i, i0, i1, i2⟩ => h5 ht i w i0 i1 a.1 a.2 i2⟩
  obtain ⟨_, i, i0, i1, i2⟩ := ru
  exact ⟨⟨w0, w1⟩, all i u w (by omega) i1 u0 u1 i2 w0 w1 f z⟩
theorem shz_b {nr lv : Int → Int} {n st en fr op tp k an : Int} (h : LV3 nr lv n st en fr op tp k) (h1 : LV1 nr lv n st en fr op tp k) (hf : FRN n fr) (ht : tp = 0) (hk : n ≤ k) : SHZ nr n st en fr an := by
  obtain ⟨⟨k1, h2⟩, h3, h4, h5, h6⟩ := h
  intro _ s0 s1 sf
  have c1 := cnb_more (P := bit fr) (Q := fun _ => True) n.toNat (fun _ _ _ _ => trivial) s0 (by omega) sf trivial
  have c2 := (cnb_le (fun _ => True) n.toNat).2
  have none : ∀ w, 0 ≤ w → w < 32 → ¬ bit op w := fun w w0 w1 z => by
    have wn := hf w w0 w1 (h1.2.2.2.1 w w0 w1 z)
    have c3 := cnb_more (P := fun _ => False) (Q := bit op) n.toNat (fun _ _ _ q => q.elim) w0 (by omega) (fun q => q) z
    have c4 := (cnb_le (fun _ => False) n.toNat).1
    omega
  have all : ∀ w, 0 ≤ w → w < 32 → bit fr w → ∃ i, 1 ≤ i ∧ i < k ∧ bit (lv i) w := fun w w0 w1 f => (h3 w w0 w1 f).elim (fun c => absurd c (none w w0 w1)) id
  exact ⟨fun w => (0 ≤ w ∧ w < 32) ∧ ∃ i, 1 ≤ i ∧ i < k ∧ bit (lv i) w, fun w ⟨a, i, i0, i1, i2⟩ => ⟨a, ((h1.2.2.1 i i0 i1).1 w a.1 a.2 i2).1⟩, fun u w _ _ _ w0 w1 f _ => ⟨⟨w0, w1⟩, all w w0 w1 f⟩, fun u w _ _ _ w0 w1 f _ => ⟨⟨w0, w1⟩, all w w0 w1 f⟩, fun w ⟨a, i, i0, i1, i2⟩ => h5 ht i w i0 i1 a.1 a.2 i2⟩
/-- from a node inside there is no way -/
def nwp (n : Int) (nr : Int → Int) (inn a : Int) : Prop := ∃ R : Int → Prop, (∀ w, R w → (0 ≤ w ∧ w < n) ∧ ¬ bit inn w) ∧ (∀ u w, 0 ≤ u → u < n → bit inn u → u ≠ a → 0 ≤ w → w < n → ¬ bit inn w → bit (nr u) w → R w) ∧ (∀ u w, R u → 0 ≤ w → w < n → ¬ bit inn w → bit (nr u) w → R w) ∧ ∀ w, R w → ¬ bit (nr a) w
def NWA (n : Int) (nr : Int → Int) (inn a ln : Int) : Prop := ln = 0 → ∀ b, 0 ≤ b → b < a → b < n → bit inn b → nwp n nr inn b
/-- all nodes -/
def ALC (n al : Int) : Prop := ∀ w, 0 ≤ w → w < 32 → (bit al w ↔ w < n)
theorem alc_of {n p al one two : Int} (hp : bvp p = bvp one <<< n.toNat) (h1 : one = 1) (hm : al = p - two) (h2 : two = 1) (n0 : 0 ≤ n) (n1 : n ≤ 24) (p0 : -2147483648 ≤ p) (p1 : p ≤ 2147483647) : ALC n al := by
  have hx : (bvp p).toInt = p := by unfold bvp; rw [BitVec.toInt_ofInt]; unfold Int.bmod; simp only; split <;> omega
  have ep : p = (2 : Int) ^ n.toNat := by
    have : ∀ k : Nat, k < 25 → (bvp 1 <<< k).toInt = (2 : Int) ^ k := by decide +kernel
    rw [← hx, hp, h1]; exact this n.toNat (by omega)
  intro w w0 w1
  have e : al = (2 : Int) ^ n.toNat - 1 := by omega
  have : ∀ k : Nat, k < 25 → ∀ j : Nat, j < 32 → ((bvp ((2 : Int) ^ k - 1)).getLsbD j = true ↔ j < k) := by decide +kernel
  have q := this n.toNat (by omega) w.toNat (by omega)
  unfold bit
  rw [e, q]; omega
theorem nwa_start {n inn a ln : Int} {nr : Int → Int} (ha : a = 0) : NWA n nr inn a ln := fun _ b b0 b1 => by omega
theorem nwa_skip {n inn a a_zq ln : Int} {nr : Int → Int} (h : NWA n nr inn a ln) (hb : ¬ bit inn a) (ha : a_zq = a + 1) : NWA n nr inn a_zq ln := fun l b b0 b1 b2 b3 => by
  by_cases e : b = a
  · rw [e] at b3; exact absurd b3 hb
  · exact h l b b0 (by omega) b2 b3
theorem nwa_step {n inn a a_zq ln ln_zq en fr al q r r2 : Int} {nr : Int → Int} (h : NWA n nr inn a ln) (hl : ln = 0) (hz : SHZ nr n a en fr ln_zq) (hal : ALC n al) (n24 : n ≤ 24) (a0 : 0 ≤ a) (a1 : a < n) (hi : bit inn a) (hq : bvp q = bvp 1 <<< a.toNat) (hr : bvp r = bvp q ^^^ bvp (-1)) (he : bvp en = bvp inn &&& bvp r) (hr2 : bvp r2 = bvp inn ^^^ bvp (-1)) (hf : bvp fr = bvp al &&& bvp r2) (ha : a_zq = a + 1) : NWA n nr inn a_zq ln_zq := by
  intro l b b0 b1 b2 b3
  by_cases e : b = a
  · subst e
    have be : ∀ w, 0 ≤ w → w < 32 → (bit en w ↔ bit inn w ∧ w ≠ b) := fun w w0 w1 => by rw [bit_and he, bit_xor hr rfl w0 w1, bit_shl hq rfl b0 w0 w1]
    have bf : ∀ w, 0 ≤ w → w < 32 → (bit fr w ↔ w < n ∧ ¬ bit inn w) := fun w w0 w1 => by rw [bit_and hf, bit_xor hr2 rfl w0 w1, hal w w0 w1]
    obtain ⟨R, r1, r2, r3, r4⟩ := hz l b0 b2 (fun z => ((bf b b0 (by omega)).mp z).2 b3)
    refine ⟨R, fun w hw => ?_, fun u w u0 u1 iu ne w0 w1 iw z => r2 u w u0 u1 ((be u u0 (by omega)).mpr ⟨iu, ne⟩) w0 (by omega) ((bf w w0 (by omega)).mpr ⟨w1, iw⟩) z, fun u w ru w0 w1 iw z => ?_, r4⟩
    · have := r1 w hw
      have q := (bf w this.1.1 this.1.2).mp this.2
      exact ⟨⟨this.1.1, q.1⟩, q.2⟩
    · have := r1 u ru
      exact r3 u w this.1.1 ((bf u this.1.1 this.1.2).mp this.2).1 ru w0 (by omega) ((bf w w0 (by omega)).mpr ⟨w1, iw⟩) z
  · exact h hl b b0 (by omega) b2 b3
/-- what hangs together with a free node over free nodes -/
def cmpf (n : Int) (nr : Int → Int) (inn f w : Int) : Prop := (0 ≤ w ∧ w < n ∧ ¬ bit inn w) ∧ ∀ U : Int → Prop, U f → (∀ u x, 0 ≤ u → u < n → ¬ bit inn u → 0 ≤ x → x < n → ¬ bit inn x → U u → bit (nr u) x → U x) → U w
/-- there is a way as long as a node is free -/
def EAR (n : Int) (nr tl hd : Int → Int) : Prop := ((0 ≤ tl 0 ∧ tl 0 < n) ∧ (0 ≤ hd 0 ∧ hd 0 < n) ∧ tl 0 ≠ hd 0) ∧ ∀ inn a : Int, n ≤ a → bit inn (tl 0) → bit inn (hd 0) → (∃ w, 0 ≤ w ∧ w < n ∧ ¬ bit inn w) → NWA n nr inn a 0 → False
theorem ear_of {n m bk ps : Int} {nr tl hd pt : Int → Int} (hB : BKS n m bk nr tl hd) (b1 : bk = 1) (hP : PNC n nr pt) (hF : FPA n ps pt) (s1 : ps = 1) (hG : GNB n m nr tl hd) (hK : GKE n m tl hd) (n24 : n ≤ 24) : EAR n nr tl hd := by
  have m1 : 1 ≤ m := by have := hB.1; omega
  have k0 := hK 0 (by omega) (by omega)
  refine ⟨⟨⟨k0.1, k0.2.1⟩, ⟨k0.2.2.1, k0.2.2.2.1⟩, k0.2.2.2.2⟩, fun inn a ha i0 i1 ⟨f, f0, f1, f2⟩ hn => ?_⟩
  have hn := hn rfl
  have sy : ∀ u w, 0 ≤ u → u < n → 0 ≤ w → w < n → bit (nr u) w → bit (nr w) u := fun u w u0 u1 w0 w1 z => (hG.1 u w u0 u1 w0 (by omega) z).2
  have c0 : cmpf n nr inn f f := ⟨⟨f0, f1, f2⟩, fun U h _ => h⟩
  have cc : ∀ u w, cmpf n nr inn f u → 0 ≤ w → w < n → ¬ bit inn w → bit (nr u) w → cmpf n nr inn f w := fun u w hu w0 w1 w2 z => ⟨⟨w0, w1, w2⟩, fun U h1 h2 => h2 u w hu.1.1 hu.1.2.1 hu.1.2.2 w0 w1 w2 (hu.2 U h1 h2) z⟩
  have two : ∀ a1 a2 c1 c2, 0 ≤ a1 → a1 < n → bit inn a1 → 0 ≤ a2 → a2 < n → bit inn a2 → cmpf n nr inn f c1 → cmpf n nr inn f c2 → bit (nr a1) c1 → bit (nr a2) c2 → a1 = a2 := by
    intro a1 a2 c1 c2 p1 p2 p3 q1 q2 q3 h1 h2 z1 z2
    refine Classical.byContradiction (fun ne => ?_)
    obtain ⟨R, r1, r2, r3, r4⟩ := hn a1 p1 (by omega) p2 p3
    have rc2 : R c2 := r2 a2 c2 q1 q2 q3 (fun e => ne e.symm) h2.1.1 h2.1.2.1 h2.1.2.2 z2
    by_cases rf : R f
    · exact r4 c1 (h1.2 R rf (fun u x u0 u1 u2 x0 x1 x2 ru z => r3 u x ru x0 x1 x2 z)) z1
    · exact h2.2 (fun w => ¬ R w) rf (fun u x u0 u1 u2 x0 x1 x2 ru z rx => ru (r3 x u rx u0 u1 u2 (sy u x u0 u1 x0 x1 z))) rc2
  by_cases at_zq : ∃ a0 c, (0 ≤ a0 ∧ a0 < n ∧ bit inn a0) ∧ cmpf n nr inn f c ∧ bit (nr a0) c
  · obtain ⟨a0, c, ⟨p1, p2, p3⟩, hc, z⟩ := at_zq
    obtain ⟨e, e0, e1, e2⟩ := hG.2.2 a0 c p1 p2 hc.1.1 hc.1.2.1 z
    refine hB.2 b1 a0 (cmpf n nr inn f) ⟨fun h => h.1.2.2 p3, fun u w u0 u1 w0 w1 hu zz => ?_⟩ e 0 e0 e1 (by omega) (by omega) ?_ ⟨fun h => h.1.2.2 i0, fun h => h.1.2.2 i1⟩
    · by_cases iw : bit inn w
      · exact Or.inr (two w a0 u c w0 w1 iw p1 p2 p3 hu hc (sy u w u0 u1 w0 w1 zz) z)
      · exact Or.inl (cc u w hu w0 w1 iw zz)
    · rcases e2 with ⟨x, y⟩ | ⟨x, y⟩
      · exact Or.inr (by rw [y]; exact hc)
      · exact Or.inl (by rw [x]; exact hc)
  · have := hP.2 (cmpf n nr inn f) (fun u w u0 u1 w0 w1 hu z => by
      by_cases iw : bit inn w
      · exact absurd ⟨w, u, ⟨w0, w1, iw⟩, hu, sy u w u0 u1 w0 w1 z⟩ at_zq
      · exact cc u w hu w0 w1 iw z) f (tl 0) f0 f1 k0.1 k0.2.1 (by have := hF.2 f f0 f1; have := hF.2 (tl 0) k0.1 k0.2.1; omega) c0
    exact this.1.2.2 i0
end
section
-- bars: the line gets every node
def LNI (ln : Int → Int) (m al inn : Int) : Prop := (2 ≤ m ∧ m ≤ 24) ∧ (∀ k, 0 ≤ k → k < m → (0 ≤ ln k ∧ ln k < 24) ∧ bit al (ln k)) ∧ (∀ i j, 0 ≤ i → i < m → 0 ≤ j → j < m → ln i = ln j → i = j) ∧ ∀ b, 0 ≤ b → b < 32 → (bit inn b ↔ ∃ k, 0 ≤ k ∧ k < m ∧ ln k = b)
def LNJ (ln : Int → Int) (m al inn : Int) : Prop := (2 ≤ m ∧ m ≤ 24) ∧ (∀ k, 0 ≤ k → k < m → (0 ≤ ln k ∧ ln k < 24) ∧ bit al (ln k)) ∧ (∀ i j, 0 ≤ i → i < m → 0 ≤ j → j < m → ln i = ln j → i = j) ∧ ∀ b, 0 ≤ b → b < 32 → bit inn b → ∃ k, 0 ≤ k ∧ k < m ∧ ln k = b
def OFL (len : Int) (ln : Int → Int) (al inn : Int) : Prop := LNI ln len al inn
def OFP (len : Int) (ln : Int → Int) (al inn : Int) : Prop := LNJ ln len al inn
def OFQ (len : Int) (ln : Int → Int) (al inn k : Int) : Prop := LNJ ln len al inn ∧ 0 ≤ k ∧ ∀ j, 0 ≤ j → j < k → j < len → bit inn (ln j)
theorem ofq_start {len al inn k : Int} {ln : Int → Int} (h : OFP len ln al inn) (hk : k = 0) : OFQ len ln al inn k := ⟨h, by omega, fun j a b => by omega⟩
theorem ofq_step {len al inn inn_zq k k_zq v q one : Int} {ln : Int → Int} (h : OFQ len ln al inn k) (k1 : k < len) (hv : v = ln k) (h1 : one = 1) (hq : bvp q = bvp one <<< v.toNat) (ho : bvp inn_zq = bvp inn ||| bvp q) (hk : k_zq = k + 1) : OFQ len ln al inn_zq k_zq := by
  obtain ⟨⟨a, b, c, d⟩, e, f⟩ := h
  have vr := b k e k1
  rw [← hv] at vr
  have bq : ∀ w, 0 ≤ w → w < 32 → (bit inn_zq w ↔ bit inn w ∨ w = v) := fun w w0 w1 => by rw [bit_or ho, bit_shl hq h1 vr.1.1 w0 w1]
  refine ⟨⟨a, b, c, fun w w0 w1 z => ?_⟩, by omega, fun j j0 j1 j2 => ?_⟩
  · rcases (bq w w0 w1).mp z with y | y
    · exact d w w0 w1 y
    · exact ⟨k, e, k1, by rw [y, hv]⟩
  · have r := b j j0 j2
    rw [bq (ln j) r.1.1 (by omega)]
    by_cases g : j = k
    · exact Or.inr (by rw [g, hv])
    · exact Or.inl (f j j0 (by omega) j2)
theorem ofl_of {len al inn k : Int} {ln : Int → Int} (h : OFQ len ln al inn k) (hk : len ≤ k) : OFL len ln al inn := by
  obtain ⟨⟨a, b, c, d⟩, e, f⟩ := h
  exact ⟨a, b, c, fun w w0 w1 => ⟨d w w0 w1, fun ⟨j, j0, j1, j2⟩ => by rw [← j2]; exact f j j0 (by omega) j1⟩⟩
/-- the ends of the first edge are inside -/
def OFT (tl hd : Int → Int) (inn : Int) : Prop := bit inn (tl 0) ∧ bit inn (hd 0)
theorem oft_or {tl hd : Int → Int} {inn inn_zq q : Int} (h : OFT tl hd inn) (ho : bvp inn_zq = bvp inn ||| bvp q) : OFT tl hd inn_zq := ⟨(bit_or ho _).mpr (Or.inl h.1), (bit_or ho _).mpr (Or.inl h.2)⟩
theorem ofs_both {n p q inn a b o1 o2 al len : Int} {nr tl hd ln : Int → Int} (h : EAR n nr tl hd) (n24 : n ≤ 24) (ha : ALC n al) (e1 : ln 0 = tl 0) (e2 : ln 1 = hd 0) (h1 : a = ln 0) (h2 : b = ln 1) (o1_zq : o1 = 1) (o2_zq : o2 = 1) (hp : bvp p = bvp o1 <<< a.toNat) (hq : bvp q = bvp o2 <<< b.toNat) (hi : bvp inn = bvp p ||| bvp q) (hl : len = 2) : OFL len ln al inn ∧ OFT tl hd inn := by
  obtain ⟨⟨t0, t1⟩, ⟨d0, d1⟩, ne⟩ := h.1
  have bi : ∀ w, 0 ≤ w → w < 32 → (bit inn w ↔ w = tl 0 ∨ w = hd 0) := fun w w0 w1 => by rw [bit_or hi, bit_shl hp o1_zq (by omega) w0 w1, bit_shl hq o2_zq (by omega) w0 w1, h1, h2, e1, e2]
  refine ⟨⟨by omega, fun k k0 k1 => ?_, fun i j i0 i1 j0 j1 e => ?_, fun w w0 w1 => ?_⟩, (bi _ t0 (by omega)).mpr (Or.inl rfl), (bi _ d0 (by omega)).mpr (Or.inr rfl)⟩
  · by_cases c : k = 0
    · rw [c, e1]; exact ⟨⟨t0, by omega⟩, (ha _ t0 (by omega)).mpr t1⟩
    · rw [show k = 1 by omega, e2]; exact ⟨⟨d0, by omega⟩, (ha _ d0 (by omega)).mpr d1⟩
  · by_cases c : i = 0
    · by_cases d : j = 0
      · omega
      · rw [c, show j = 1 by omega, e1, e2] at e; exact absurd e ne
    · by_cases d : j = 0
      · rw [d, show i = 1 by omega, e1, e2] at e; exact absurd e.symm ne
      · omega
  · rw [bi w w0 w1]
    constructor
    · rintro (y | y)
      · exact ⟨0, by omega, by omega, by rw [e1, y]⟩
      · exact ⟨1, by omega, by omega, by rw [e2, y]⟩
    · rintro ⟨k, k0, k1, k2⟩
      by_cases c : k = 0
      · rw [c, e1] at k2; exact Or.inl k2.symm
      · rw [show k = 1 by omega, e2] at k2; exact Or.inr k2.symm
/-- some node is free -/
def OFN (n inn : Int) : Prop := ∃ w, 0 ≤ w ∧ w < n ∧ ¬ bit inn w
theorem bit_eq {x y : Int} (h : ∀ w, 0 ≤ w → w < 32 → (bit x w ↔ bit y w)) (x0 : -2147483648 ≤ x) (x1 : x ≤ 2147483647) (y0 : -2147483648 ≤ y) (y1 : y ≤ 2147483647) : x = y := by
  have e : bvp x = bvp y := by
    apply BitVec.eq_of_getLsbD_eq
    intro i hi
    have := h (i : Int) (by omega) (by omega)
    unfold bit at this
    simp only [Int.toNat_natCast] at this
    cases hx : (bvp x).getLsbD i <;> cases hy : (bvp y).getLsbD i <;> simp_all
  have tx : (bvp x).toInt = x := by unfold bvp; rw [BitVec.toInt_ofInt]; unfold Int.bmod; simp only; split <;> omega
  have ty : (bvp y).toInt = y := by unfold bvp; rw [BitVec.toInt_ofInt]; unfold Int.bmod; simp only; split <;> omega
  rw [← tx, ← ty, e]
theorem ofn_of {n len al inn : Int} {ln : Int → Int} (h : OFL len ln al inn) (ha : ALC n al) (ne : inn ≠ al) (x0 : -2147483648 ≤ inn) (x1 : inn ≤ 2147483647) (y0 : -2147483648 ≤ al) (y1 : al ≤ 2147483647) : OFN n inn := by
  refine Classical.byContradiction (fun c => ne (bit_eq (fun w w0 w1 => ?_) x0 x1 y0 y1))
  have all : ∀ w, 0 ≤ w → w < n → bit inn w := fun w a b => Classical.byContradiction (fun d => c ⟨w, a, b, d⟩)
  refine ⟨fun z => ?_, fun z => all w w0 ((ha w w0 w1).mp z)⟩
  obtain ⟨k, k0, k1, k2⟩ := (h.2.2.2 w w0 w1).mp z
  rw [← k2]; exact (h.2.1 k k0 k1).2
/-- a way: its inner nodes are free -/
def EWY (wy : Int → Int) (al inn len : Int) : Prop := len = 0 ∨ (3 ≤ len ∧ (∀ j, 1 ≤ j → j < len - 1 → (0 ≤ wy j ∧ wy j < 24) ∧ bit al (wy j) ∧ ¬ bit inn (wy j)) ∧ ∀ i j, 1 ≤ i → i < len - 1 → 1 ≤ j → j < len - 1 → wy i = wy j → i = j)
theorem ewy_of {wy : Int → Int} {n st en fr an al inn r2 : Int} (h : SHW wy st en fr an) (hal : ALC n al) (n24 : n ≤ 24) (hr2 : bvp r2 = bvp inn ^^^ bvp (-1)) (hf : bvp fr = bvp al &&& bvp r2) : EWY wy al inn an := by
  rcases h with h | ⟨a, _, _, _, _, b, c⟩
  · exact Or.inl h
  · refine Or.inr ⟨a, fun j j0 j1 => ?_, fun i j i0 i1 j0 j1 e => ?_⟩
    · obtain ⟨p, q, r⟩ := b j j0 j1
      rw [bit_and hf, bit_xor hr2 rfl p q] at r
      exact ⟨⟨p, by have := (hal _ p q).mp r.1; omega⟩, r.1, r.2⟩
    · by_cases x : i < j
      · exact absurd e (c i j i0 x j1)
      · by_cases y : j < i
        · exact absurd e.symm (c j i j0 y i1)
        · omega
def WYJ (wy : Int → Int) (n al inn : Int) : Prop := (∀ j, 0 ≤ j → j < n → (0 ≤ wy j ∧ wy j < 24) ∧ bit al (wy j) ∧ ¬ bit inn (wy j)) ∧ ∀ i j, 0 ≤ i → i < n → 0 ≤ j → j < n → wy i = wy j → i = j
def EWJ (wy : Int → Int) (al inn n : Int) : Prop := WYJ wy n al inn
theorem lni_room {ln wy : Int → Int} {m n al inn : Int} (h : LNI ln m al inn) (hw : WYJ wy n al inn) (n0 : 0 ≤ n) : m + n ≤ 24 := by
  have sep : ∀ i j, 0 ≤ i → i < m → 0 ≤ j → j < n → ln i ≠ wy j := fun i j i0 i1 j0 j1 e => by
    have a := h.2.1 i i0 i1
    exact (hw.1 j j0 j1).2.2 ((h.2.2.2 (wy j) (hw.1 j j0 j1).1.1 (by have := (hw.1 j j0 j1).1.2; omega)).mpr ⟨i, i0, i1, e⟩)
  have m0 := h.1.1
  have := php (m + n).toNat 24 (fun i => ((fun j : Int => if j < m then ln j else wy (j - m)) (i : Int)).toNat) (fun i hi => by
    show (if (i : Int) < m then ln i else wy (i - m)).toNat < 24
    split
    · have := h.2.1 i (by omega) (by assumption); omega
    · have := (hw.1 (i - m) (by omega) (by omega)).1; omega) (fun i j hi hj e => by
    have e : (if (i : Int) < m then ln i else wy (i - m)).toNat = (if (j : Int) < m then ln j else wy (j - m)).toNat := e
    by_cases a : (i : Int) < m
    · have ha := h.2.1 i (by omega) a
      rw [if_pos a] at e
      by_cases b : (j : Int) < m
      · have hb := h.2.1 j (by omega) b
        rw [if_pos b] at e
        have := h.2.2.1 i j (by omega) a (by omega) b (by omega)
        omega
      · have hb := hw.1 (j - m) (by omega) (by omega)
        rw [if_neg b] at e
        exact absurd (by omega) (sep i (j - m) (by omega) a (by omega) (by omega))
    · have ha := hw.1 (i - m) (by omega) (by omega)
      rw [if_neg a] at e
      by_cases b : (j : Int) < m
      · have hb := h.2.1 j (by omega) b
        rw [if_pos b] at e
        exact absurd (by omega) (sep j (i - m) (by omega) b (by omega) (by omega))
      · have hb := hw.1 (j - m) (by omega) (by omega)
        rw [if_neg b] at e
        have := hw.2 (i - m) (j - m) (by omega) (by omega) (by omega) (by omega) (by omega)
        omega)
  omega
/-- the way's inner nodes come to its front -/
def DW1 (d s : Int → Int) (sp dp n al inn : Int) : Prop := (sp = 1 ∧ dp = 0 ∧ 0 ≤ n) ∧ EWY s al inn (n + 2)
def DW2 (d s : Int → Int) (sp dp n al inn : Int) : Prop := WYJ d n al inn
theorem dw1_dw2 {Dd S D_zq S_zq : Int → Int} {sp dp n : Int} (al inn : Int) (_ : 0 ≤ sp) (_ : 0 ≤ dp) (_ : 0 ≤ n) (h1 : ∀ j, 0 ≤ j → D_zq j = if dp ≤ j ∧ j < dp + n then S (sp + (j - dp)) else Dd j) (_ : (∀ j, S_zq j = S j) ∨ ((∀ j, S_zq j = D_zq j) ∧ ∀ j, S j = Dd j)) (h : DW1 Dd S sp dp n al inn) : DW2 D_zq S_zq sp dp n al inn := by
  obtain ⟨⟨a, b, c⟩, q⟩ := h
  have new : ∀ j, 0 ≤ j → j < n → D_zq j = S (j + 1) := fun j a_zq b_zq => by rw [h1 j a_zq, if_pos (by omega), show sp + (j - dp) = j + 1 by omega]
  by_cases z : n = 0
  · exact ⟨fun j a_zq b_zq => by omega, fun i j a_zq b_zq => by omega⟩
  rcases q with q | ⟨_, q1, q2⟩
  · omega
  · refine ⟨fun j a_zq b_zq => by rw [new j a_zq b_zq]; exact q1 (j + 1) (by omega) (by omega), fun i j i0 i1 j0 j1 e => ?_⟩
    rw [new i i0 i1, new j j0 j1] at e
    have := q2 (i + 1) (j + 1) (by omega) (by omega) (by omega) (by omega) e
    omega
/-- turned round -/
def LVR (lv wy : Int → Int) (al inn n k : Int) : Prop := EWY wy al inn (n + 2) ∧ 0 ≤ k ∧ ∀ j, 0 ≤ j → j < k → lv j = wy (n - j)
theorem lvr_start {lv wy : Int → Int} {al inn len n k : Int} (h : EWY wy al inn len) (hn : len = n + 2) (hk : k = 0) : LVR lv wy al inn n k := ⟨by rw [← hn]; exact h, by omega, fun j a b => by omega⟩
theorem lvr_step {lv lv' wy : Int → Int} {al inn n k k_zq p x i : Int} (h : LVR lv wy al inn n k) (hs : st1 lv lv' p x) (hp : p = k) (hx : x = wy i) (hi : i = n - k) (hk : k_zq = k + 1) : LVR lv' wy al inn n k_zq := by
  obtain ⟨a, b, c⟩ := h
  refine ⟨a, by omega, fun j j0 j1 => ?_⟩
  by_cases e : j = k
  · rw [(hs j j0).1 (by omega), hx, hi, e]
  · rw [(hs j j0).2 (by omega)]; exact c j j0 (by omega)
def DV1 (d s : Int → Int) (sp dp n al inn : Int) : Prop := (sp = 0 ∧ dp = 0 ∧ 0 ≤ n) ∧ WYJ s n al inn
def DV2 (d s : Int → Int) (sp dp n al inn : Int) : Prop := WYJ d n al inn
theorem dv1_of {d lv wy : Int → Int} {al inn n k sp dp : Int} (h : LVR lv wy al inn n k) (hk : n ≤ k) (hs : sp = 0) (hd : dp = 0) (n0 : 0 ≤ n) : DV1 d lv sp dp n al inn := by
  obtain ⟨a, b, c⟩ := h
  refine ⟨⟨hs, hd, n0⟩, ?_⟩
  by_cases z : n = 0
  · exact ⟨fun j a_zq b_zq => by omega, fun i j a_zq b_zq => by omega⟩
  rcases a with q | ⟨_, q1, q2⟩
  · omega
  · refine ⟨fun j a_zq b_zq => by rw [c j a_zq (by omega)]; exact q1 (n - j) (by omega) (by omega), fun i j i0 i1 j0 j1 e => ?_⟩
    rw [c i i0 (by omega), c j j0 (by omega)] at e
    have := q2 (n - i) (n - j) (by omega) (by omega) (by omega) (by omega) e
    omega
theorem dv1_le {Dd S : Int → Int} {sp dp n : Int} (al inn : Int) (_ : 0 ≤ sp) (_ : 0 ≤ dp) (_ : 0 ≤ n) (h : DV1 Dd S sp dp n al inn) : ∀ j, 0 ≤ j → j < n → 0 ≤ S (sp + j) ∧ S (sp + j) ≤ 23 := fun j a b => by
  have := (h.2.1 j a b).1
  rw [show sp + j = j by have := h.1.1; omega]; omega
theorem dv1_dv2 {Dd S D_zq S_zq : Int → Int} {sp dp n : Int} (al inn : Int) (_ : 0 ≤ sp) (_ : 0 ≤ dp) (_ : 0 ≤ n) (h1 : ∀ j, 0 ≤ j → D_zq j = if dp ≤ j ∧ j < dp + n then S (sp + (j - dp)) else Dd j) (_ : (∀ j, S_zq j = S j) ∨ ((∀ j, S_zq j = D_zq j) ∧ ∀ j, S j = Dd j)) (h : DV1 Dd S sp dp n al inn) : DV2 D_zq S_zq sp dp n al inn := by
  obtain ⟨⟨a, b, c⟩, q⟩ := h
  have new : ∀ j, 0 ≤ j → j < n → D_zq j = S j := fun j a_zq b_zq => by rw [h1 j a_zq, if_pos (by omega), show sp + (j - dp) = j by omega]
  refine ⟨fun j a_zq b_zq => by rw [new j a_zq b_zq]; exact q.1 j a_zq b_zq, fun i j i0 i1 j0 j1 e => ?_⟩
  rw [new i i0 i1, new j j0 j1] at e
  exact q.2 i j i0 i1 j0 j1 e
/-- the way comes into the line -/
def DRQ1 (d s wy : Int → Int) (sp dp n m al inn : Int) : Prop := ((0 ≤ sp ∧ sp ≤ dp) ∧ n = m - sp ∧ 0 ≤ n ∧ m + (dp - sp) ≤ 24) ∧ LNI d m al inn ∧ (∀ j, s j = d j) ∧ WYJ wy (dp - sp) al inn
def DRQ2 (d s wy : Int → Int) (sp dp n m al inn : Int) : Prop := ((0 ≤ sp ∧ sp ≤ dp) ∧ n = m - sp ∧ 0 ≤ n ∧ m + (dp - sp) ≤ 24) ∧ (∃ l0 : Int → Int, LNI l0 m al inn ∧ (∀ q, 0 ≤ q → q < sp → d q = l0 q) ∧ ∀ q, dp ≤ q → q < m + (dp - sp) → d q = l0 (q - (dp - sp))) ∧ WYJ wy (dp - sp) al inn
def DRQ3 (d s wy : Int → Int) (sp dp n m al inn : Int) : Prop := (sp = 0 ∧ 0 ≤ dp ∧ 0 ≤ n ∧ m + n ≤ 24 ∧ dp ≤ m) ∧ (∃ l0 : Int → Int, LNI l0 m al inn ∧ (∀ q, 0 ≤ q → q < dp → d q = l0 q) ∧ ∀ q, dp + n ≤ q → q < m + n → d q = l0 (q - n)) ∧ WYJ s n al inn
def DRQ4 (d s wy : Int → Int) (sp dp n m al inn : Int) : Prop := LNJ d (m + n) al inn
theorem dr1_of {len m al inn sp dp n ct : Int} {line way : Int → Int} (h : OFL len line al inn) (hm : m = len) (hw : EWJ way al inn ct) (s0 : 0 ≤ sp) (hd : dp = sp + ct) (c0 : 0 ≤ ct) (hn : n = m - sp) (n0 : 0 ≤ n) : DRQ1 line line way sp dp n m al inn := by
  subst hm
  have := lni_room h hw c0
  exact ⟨⟨⟨s0, by omega⟩, hn, n0, by omega⟩, h, fun _ => rfl, by rw [show dp - sp = ct by omega]; exact hw⟩
theorem dr1_dr2 {U U_zq : Nat → Int → Int} {xs : List Int} {sp dp n : Int} (_ : 0 ≤ sp) (_ : 0 ≤ dp) (_ : 0 ≤ n) (h1 : ∀ j, 0 ≤ j → U_zq 0 j = if dp ≤ j ∧ j < dp + n then U 1 (sp + (j - dp)) else U 0 j) (_ : (∀ j, U_zq 1 j = U 1 j) ∨ ((∀ j, U_zq 1 j = U_zq 0 j) ∧ ∀ j, U 1 j = U 0 j)) (h3 : ∀ i, 2 ≤ i → ∀ j, U_zq i j = U i j) (e1 : xs.getD 3 0 = sp) (e2 : xs.getD (3 + 1) 0 = dp) (e3 : xs.getD (3 + 2) 0 = n) (h : DRQ1 (U 0) (U 1) (U 2) (xs.getD 3 0) (xs.getD 4 0) (xs.getD 5 0) (xs.getD 6 0) (xs.getD 7 0) (xs.getD 8 0)) : DRQ2 (U_zq 0) (U_zq 1) (U_zq 2) (xs.getD 3 0) (xs.getD 4 0) (xs.getD 5 0) (xs.getD 6 0) (xs.getD 7 0) (xs.getD 8 0) := by
  have e2 : xs.getD 4 0 = dp := e2
  have e3 : xs.getD 5 0 = n := e3
  rw [e1, e2, e3] at h ⊢
  obtain ⟨⟨⟨a1, a2⟩, a3, a4, a5⟩, b, c, d⟩ := h
  have w2 : U_zq 2 = U 2 := funext (h3 2 (by omega))
  refine ⟨⟨⟨a1, a2⟩, a3, a4, a5⟩, ⟨U 0, b, fun q q0 q1 => ?_, fun q q0 q1 => ?_⟩, by rw [w2]; exact d⟩
  · rw [h1 q q0, if_neg (by omega)]
  · rw [h1 q (by omega), if_pos (by omega), c, show sp + (q - dp) = q - (dp - sp) by omega]
theorem dr3_of {m al inn sp dp n sp_zq dp_zq n_zq : Int} {line s way : Int → Int} (h : DRQ2 line s way sp dp n m al inn) (h1 : sp_zq = 0) (h2 : dp_zq = sp) (h3 : n_zq = dp - sp) : DRQ3 line way way sp_zq dp_zq n_zq m al inn := by
  obtain ⟨⟨⟨a1, a2⟩, a3, a4, a5⟩, ⟨l0, b, c, d⟩, e⟩ := h
  subst h2 h3
  exact ⟨⟨h1, a1, by omega, a5, by omega⟩, ⟨l0, b, c, fun q q0 q1 => d q (by omega) q1⟩, e⟩
theorem dr3_dr4 {U U_zq : Nat → Int → Int} {xs : List Int} {sp dp n : Int} (_ : 0 ≤ sp) (_ : 0 ≤ dp) (_ : 0 ≤ n) (h1 : ∀ j, 0 ≤ j → U_zq 0 j = if dp ≤ j ∧ j < dp + n then U 1 (sp + (j - dp)) else U 0 j) (_ : (∀ j, U_zq 1 j = U 1 j) ∨ ((∀ j, U_zq 1 j = U_zq 0 j) ∧ ∀ j, U 1 j = U 0 j)) (h3 : ∀ i, 2 ≤ i → ∀ j, U_zq i j = U i j) (e1 : xs.getD 3 0 = sp) (e2 : xs.getD (3 + 1) 0 = dp) (e3 : xs.getD (3 + 2) 0 = n) (h : DRQ3 (U 0) (U 1) (U 2) (xs.getD 3 0) (xs.getD 4 0) (xs.getD 5 0) (xs.getD 6 0) (xs.getD 7 0) (xs.getD 8 0)) : DRQ4 (U_zq 0) (U_zq 1) (U_zq 2) (xs.getD 3 0) (xs.getD 4 0) (xs.getD 5 0) (xs.getD 6 0) (xs.getD 7 0) (xs.getD 8 0) := by
  have e2 : xs.getD 4 0 = dp := e2
  have e3 : xs.getD 5 0 = n := e3
  rw [e1, e2, e3] at h ⊢
  generalize xs.getD 6 0 = m at h ⊢
  generalize xs.getD 7 0 = al at h ⊢
  generalize xs.getD 8 0 = inn at h ⊢
  obtain ⟨⟨a1, a2, a3, a4, a5⟩, ⟨l0, ⟨b1, b2, b3, b4⟩, c, d⟩, w1, w2⟩ := h
  have z1 : ∀ q, 0 ≤ q → q < dp → U_zq 0 q = l0 q := fun q q0 q1 => by rw [h1 q q0, if_neg (by omega)]; exact c q q0 q1
  have z2 : ∀ q, dp ≤ q → q < dp + n → U_zq 0 q = U 1 (q - dp) := fun q q0 q1 => by rw [h1 q (by omega), if_pos (by omega), show sp + (q - dp) = q - dp by omega]
  have z3 : ∀ q, dp + n ≤ q → q < m + n → U_zq 0 q = l0 (q - n) := fun q q0 q1 => by rw [h1 q (by omega), if_neg (by omega)]; exact d q q0 q1
  have sep : ∀ i j, 0 ≤ i → i < m → 0 ≤ j → j < n → l0 i ≠ U 1 j := fun i j i0 i1 j0 j1 e =>
    (w1 j j0 j1).2.2 ((b4 (U 1 j) (w1 j j0 j1).1.1 (by have := (w1 j j0 j1).1.2; omega)).mpr ⟨i, i0, i1, e⟩)
  -- every place is of one of two kinds
  have kind : ∀ q, 0 ≤ q → q < m + n → (∃ i, (0 ≤ i ∧ i < m) ∧ U_zq 0 q = l0 i ∧ q = (if i < dp then i else i + n)) ∨ ∃ j, (0 ≤ j ∧ j < n) ∧ U_zq 0 q = U 1 j ∧ q = j + dp := fun q q0 q1 => by
    by_cases x : q < dp
    · exact Or.inl ⟨q, ⟨q0, by omega⟩, z1 q q0 x, by rw [if_pos x]⟩
    · by_cases y : q < dp + n
      · exact Or.inr ⟨q - dp, ⟨by omega, by omega⟩, z2 q (by omega) y, by omega⟩
      · exact Or.inl ⟨q - n, ⟨by omega, by omega⟩, z3 q (by omega) q1, by rw [if_neg (by omega)]; omega⟩
  refine ⟨by omega, fun q q0 q1 => ?_, fun i j i0 i1 j0 j1 e => ?_, fun b b0 b1_zq z => ?_⟩
  · rcases kind q q0 q1 with ⟨i, ⟨i0, i1⟩, x, _⟩ | ⟨j, ⟨j0, j1⟩, x, _⟩
    · rw [x]; exact b2 i i0 i1
    · rw [x]; exact ⟨(w1 j j0 j1).1, (w1 j j0 j1).2.1⟩
  · rcases kind i i0 i1 with ⟨p, ⟨p0, p1⟩, x, x2⟩ | ⟨p, ⟨p0, p1⟩, x, x2⟩
    · rcases kind j j0 j1 with ⟨r, ⟨r0, r1⟩, y, y2⟩ | ⟨r, ⟨r0, r1⟩, y, y2⟩
      · have := b3 p r p0 p1 r0 r1 (by rw [← x, ← y]; exact e)
        rw [x2, y2, this]
      · exact absurd (by rw [← x, ← y]; exact e) (sep p r p0 p1 r0 r1)
    · rcases kind j j0 j1 with ⟨r, ⟨r0, r1⟩, y, y2⟩ | ⟨r, ⟨r0, r1⟩, y, y2⟩
      · exact absurd (by rw [← x, ← y]; exact e.symm) (sep r p r0 r1 p0 p1)
      · have := w2 p r p0 p1 r0 r1 (by rw [← x, ← y]; exact e)
        rw [x2, y2, this]
  · obtain ⟨k, k0, k1, k2⟩ := (b4 b b0 b1_zq).mp z
    by_cases x : k < dp
    · exact ⟨k, k0, by omega, by rw [z1 k k0 x]; exact k2⟩
    · exact ⟨k + n, by omega, by omega, by rw [z3 (k + n) (by omega) (by omega), show k + n - n = k by omega]; exact k2⟩
theorem ofp_4 {len m al inn sp dp n : Int} {line s way : Int → Int} (h : DRQ4 line s way sp dp n m al inn) (hl : len = m + n) : OFP len line al inn := by rw [hl]; exact h
/-- the line has every node -/
def LCV (n : Int) (ln : Int → Int) : Prop := ∀ v, 0 ≤ v → v < n → ∃ k, 0 ≤ k ∧ k < n ∧ ln k = v
theorem lcv_of {len n al inn : Int} {ln : Int → Int} (h : OFL len ln al inn) (ha : ALC n al) (n24 : n ≤ 24) (e : inn = al) : LCV n ln := by
  obtain ⟨a, b, c, d⟩ := h
  have ln_zq : len ≤ n := by
    have n0 : 0 ≤ n := by
      have q := b 0 (by omega) (by omega)
      have := (ha _ q.1.1 (by omega)).mp q.2
      omega
    have := php len.toNat n.toNat (fun i => (ln (i : Int)).toNat) (fun i hi => by
      have q := b i (by omega) (by omega)
      have := (ha _ q.1.1 (by omega)).mp q.2
      show (ln (i : Int)).toNat < n.toNat
      omega) (fun i j hi hj q => by
      have q : (ln (i : Int)).toNat = (ln (j : Int)).toNat := q
      have q1 := b i (by omega) (by omega)
      have q2 := b j (by omega) (by omega)
      have := c i j (by omega) (by omega) (by omega) (by omega) (by omega)
      omega)
    omega
  intro v v0 v1
  obtain ⟨k, k0, k1, k2⟩ := (d v v0 (by omega)).mp (by rw [e]; exact (ha v v0 (by omega)).mpr v1)
  exact ⟨k, k0, by omega, k2⟩
end
section
-- bars: heights and faces are bounded
def RY4 (n : Int) (y : Int → Int) : Prop := ∀ v, 0 ≤ v → v < n → 0 ≤ y v ∧ y v ≤ 600
theorem ry4_of {n k : Int} {line y : Int → Int} (h : RY1 line y k) (hc : LCV n line) (hk : n ≤ k) (k24 : k ≤ 24) : RY4 n y := fun v v0 v1 => by
  obtain ⟨i, i0, i1, i2⟩ := hc v v0 v1
  have := h i i0 (by omega)
  rw [i2] at this; omega
def BY5 (n : Int) (y : Int → Int) (v : Int) : Prop := 0 ≤ v ∧ ∀ j, v ≤ j → j < n → 0 ≤ y j ∧ y j ≤ 600
theorem by5_start {n v : Int} {y : Int → Int} (h : RY4 n y) (hv : v = 0) : BY5 n y v := ⟨by omega, fun j a b => h j (by omega) b⟩
theorem by5_step {n v v_zq s w : Int} {y y_zq : Int → Int} (h : BY5 n y v) (hs : st1 y y_zq s w) (ss : s = v) (hv : v_zq = v + 1) : BY5 n y_zq v_zq := ⟨by have := h.1; omega, fun j a b => by
  rw [(hs j (by have := h.1; omega)).2 (by omega)]; exact h.2 j (by omega) b⟩
/-- faces move by one at a time -/
def FXR (fx : Int → Int) (r e : Int) : Prop := ∀ f, 0 ≤ f → f < 144 → fx f ≤ 48 * r + e
def FXQ (fx : Int → Int) (r : Int) : Prop := ∀ f, 0 ≤ f → f < 144 → fx f ≤ 48 * r
theorem fxr_start {fx : Int → Int} {r e : Int} (h : FXQ fx r) (he : e = 1) : FXR fx r e := fun f a b => by have := h f a b; omega
theorem fxr_step {fx fx_zq : Int → Int} {r e e_zq l a s w : Int} (h : FXR fx r e) (l0 : 0 ≤ l) (l1 : l < 144) (ha : a = fx l) (hw : w = a + 1) (hs : st1 fx fx_zq s w) (he : e_zq = e + 1) : FXR fx_zq r e_zq := fun f f0 f1 => by
  have q := h l l0 l1
  by_cases c : f = s
  · rw [(hs f f0).1 c]; omega
  · rw [(hs f f0).2 c]; have := h f f0 f1; omega
theorem fxr_next {fx : Int → Int} {r e e_zq : Int} (h : FXR fx r e) (he : e_zq = e + 1) : FXR fx r e_zq := fun f a b => by have := h f a b; omega
theorem fxq_next {fx : Int → Int} {r r_zq e : Int} (h : FXR fx r e) (he : e ≤ 48) (hr : r_zq = r + 1) : FXQ fx r_zq := fun f a b => by have := h f a b; omega
theorem fxq_start {fx fx_zq : Int → Int} {r s w : Int} (h : ∀ f, 0 ≤ f → f < 144 → fx f ≤ 0) (hs : st1 fx fx_zq s w) (hw : w = 0) (hr : r = 0) : FXQ fx_zq r := fun f a b => by
  by_cases c : f = s
  · rw [(hs f a).1 c]; omega
  · rw [(hs f a).2 c]; have := h f a b; omega
/-- the ends and the free nodes of a way -/
def NWXe (en inn a : Int) : Prop := ∀ w, 0 ≤ w → w < 32 → (bit en w ↔ bit inn w ∧ w ≠ a)
def NWF (fr al inn : Int) : Prop := ∀ w, 0 ≤ w → w < 32 → (bit fr w ↔ bit al w ∧ ¬ bit inn w)
def NWI (inn a : Int) : Prop := bit inn a
theorem nwe_of {en inn a q r one m1 : Int} (h1 : one = 1) (hm : m1 = -1) (a0 : 0 ≤ a) (hq : bvp q = bvp one <<< a.toNat) (hr : bvp r = bvp q ^^^ bvp m1) (he : bvp en = bvp inn &&& bvp r) : NWXe en inn a := fun w w0 w1 => by rw [bit_and he, bit_xor hr hm w0 w1, bit_shl hq h1 a0 w0 w1]
theorem nwf_of {fr al inn r m1 : Int} (hm : m1 = -1) (hr : bvp r = bvp inn ^^^ bvp m1) (hf : bvp fr = bvp al &&& bvp r) : NWF fr al inn := fun w w0 w1 => by rw [bit_and hf, bit_xor hr hm w0 w1]
theorem nwa_step2 {n n_zq inn a a_zq ln ln_zq en fr al : Int} {nr : Int → Int} (h : NWA n nr inn a ln) (hl : ln = 0) (hz : SHZ nr n_zq a en fr ln_zq) (hn : n_zq = n) (hal : ALC n al) (n24 : n ≤ 24) (a0 : 0 ≤ a) (a1 : a < n) (hi : NWI inn a) (he : NWXe en inn a) (hf : NWF fr al inn) (ha : a_zq = a + 1) : NWA n nr inn a_zq ln_zq := by
  subst hn
  intro l b b0 b1 b2 b3
  by_cases e : b = a
  · subst e
    have bf : ∀ w, 0 ≤ w → w < 32 → (bit fr w ↔ w < n_zq ∧ ¬ bit inn w) := fun w w0 w1 => by rw [hf w w0 w1, hal w w0 w1]
    obtain ⟨R, r1, r2, r3, r4⟩ := hz l b0 b2 (fun z => ((bf b b0 (by omega)).mp z).2 b3)
    refine ⟨R, fun w hw => ?_, fun u w u0 u1 iu ne w0 w1 iw z => r2 u w u0 u1 ((he u u0 (by omega)).mpr ⟨iu, ne⟩) w0 (by omega) ((bf w w0 (by omega)).mpr ⟨w1, iw⟩) z, fun u w ru w0 w1 iw z => ?_, r4⟩
    · have := r1 w hw
      have q := (bf w this.1.1 this.1.2).mp this.2
      exact ⟨⟨this.1.1, q.1⟩, q.2⟩
    · have := r1 u ru
      exact r3 u w this.1.1 ((bf u this.1.1 this.1.2).mp this.2).1 ru w0 (by omega) ((bf w w0 (by omega)).mpr ⟨w1, iw⟩) z
  · exact h hl b b0 (by omega) b2 b3
theorem ewy_of2 {wy : Int → Int} {n st en fr an al inn : Int} (h : SHW wy st en fr an) (hal : ALC n al) (n24 : n ≤ 24) (hf : NWF fr al inn) : EWY wy al inn an := by
  rcases h with h | ⟨a, _, _, _, _, b, c⟩
  · exact Or.inl h
  · refine Or.inr ⟨a, fun j j0 j1 => ?_, fun i j i0 i1 j0 j1 e => ?_⟩
    · obtain ⟨p, q, r⟩ := b j j0 j1
      have r := (hf _ p q).mp r
      exact ⟨⟨p, by have := (hal _ p q).mp r.1; omega⟩, r.1, r.2⟩
    · by_cases x : i < j
      · exact absurd e (c i j i0 x j1)
      · by_cases y : j < i
        · exact absurd e.symm (c j i j0 y i1)
        · omega
theorem ear_use {n inn a ln len al : Int} {nr tl hd ln_zq wy : Int → Int} (h : EAR n nr tl hd) (ht : OFT tl hd inn) (hn : OFN n inn) (hw : NWA n nr inn a ln) (he : EWY wy al inn ln) (hx : n ≤ a ∨ ln ≠ 0) (_ : len = len) (_ : ln_zq = ln_zq) : 3 ≤ ln := by
  rcases he with q | q
  · rcases hx with c | c
    · exact absurd (h.2 inn a c ht.1 ht.2 hn (by rw [q] at hw; exact hw)) (fun z => z)
    · exact absurd q c
  · exact q.1
end
section
-- dots: all points lie in the rectangle that was measured, so what is scaled is small
def inr (l m v : Int) : Prop := l ≤ v ∧ v ≤ m
/-- nodes up to one -/
def MNA (l m : Int) (x : Int → Int) (i : Int) : Prop := l ≤ m ∧ 1 ≤ i ∧ ∀ j, 0 ≤ j → j < i → inr l m (x j)
def MNAy (l m : Int) (x : Int → Int) (i : Int) : Prop := MNA l m x i
/-- all nodes, the bends of edges up to one, of one up to a bend -/
def MN3 (l m n : Int) (x bn bx : Int → Int) (e k : Int) : Prop := l ≤ m ∧ (0 ≤ e ∧ 1 ≤ k) ∧ (∀ j, 0 ≤ j → j < n → inr l m (x j)) ∧ (∀ f, 0 ≤ f → f < e → ∀ i, 0 ≤ i → i < bn f → inr l m (bx (24 * f + i))) ∧ ∀ i, 0 ≤ i → i < k - 1 → inr l m (bx (24 * e + i))
def MN3y (l m n : Int) (x bn bx : Int → Int) (e k : Int) : Prop := MN3 l m n x bn bx e k
def MN2 (l m n : Int) (x bn bx : Int → Int) (e : Int) : Prop := MN3 l m n x bn bx e 1
def MN2y (l m n : Int) (x bn bx : Int → Int) (e : Int) : Prop := MN2 l m n x bn bx e
def MSX (l m n me : Int) (x bn bx : Int → Int) : Prop := MN2 l m n x bn bx me
def MSY (l m n me : Int) (x bn bx : Int → Int) : Prop := MN2 l m n x bn bx me
theorem inr_mono {l m l_zq m_zq v : Int} (h : inr l m v) (hl : l_zq ≤ l) (hm : m ≤ m_zq) : inr l_zq m_zq v := ⟨by have := h.1; omega, by have := h.2; omega⟩
theorem mna_start {l m i a b : Int} {x : Int → Int} (ha : a = x 0) (hb : b = x 0) (hl : l = a) (hm : m = b) (hi : i = 1) : MNA l m x i := ⟨by omega, by omega, fun j a b => by rw [show j = 0 by omega]; exact ⟨by omega, by omega⟩⟩
theorem mna_step {l m l_zq m_zq i i_zq v : Int} {x : Int → Int} (h : MNA l m x i) (hv : v = x i) (h1 : l_zq ≤ l) (h2 : m ≤ m_zq) (h3 : l_zq ≤ v) (h4 : v ≤ m_zq) (hi : i_zq = i + 1) : MNA l_zq m_zq x i_zq := ⟨by omega, by have := h.2.1; omega, fun j a b => by
  by_cases e : j = i
  · rw [e]; exact ⟨by omega, by omega⟩
  · exact inr_mono (h.2.2 j a (by omega)) h1 h2⟩
theorem mn2_start {l m i n e : Int} {x bn bx : Int → Int} (h : MNA l m x i) (hn : n ≤ i) (he : e = 0) : MN2 l m n x bn bx e := ⟨h.1, by omega, fun j a b => h.2.2 j a (by omega), fun f a b => by omega, fun i a b => by omega⟩
theorem mn3_start {l m n e k : Int} {x bn bx : Int → Int} (h : MN2 l m n x bn bx e) (hk : k = 1) : MN3 l m n x bn bx e k := by rw [hk]; exact h
theorem mn3_step {l m l_zq m_zq n e k k_zq v q : Int} {x bn bx : Int → Int} (h : MN3 l m n x bn bx e k) (hv : v = bx q) (hq : q = 24 * e + k - 1) (h1 : l_zq ≤ l) (h2 : m ≤ m_zq) (h3 : l_zq ≤ v) (h4 : v ≤ m_zq) (hk : k_zq = k + 1) : MN3 l_zq m_zq n x bn bx e k_zq := by
  obtain ⟨a, b, c, d, f⟩ := h
  refine ⟨by omega, by omega, fun j j0 j1 => inr_mono (c j j0 j1) h1 h2, fun g g0 g1 i i0 i1 => inr_mono (d g g0 g1 i i0 i1) h1 h2, fun i i0 i1 => ?_⟩
  by_cases z : i = k - 1
  · rw [z, show 24 * e + (k - 1) = q by omega, ← hv]; exact ⟨h3, h4⟩
  · exact inr_mono (f i i0 (by omega)) h1 h2
theorem mn2_next {l m n e e_zq k : Int} {x bn bx : Int → Int} (h : MN3 l m n x bn bx e k) (hk : bn e < k) (he : e_zq = e + 1) : MN2 l m n x bn bx e_zq := by
  obtain ⟨a, b, c, d, f⟩ := h
  refine ⟨a, by omega, c, fun g g0 g1 i i0 i1 => ?_, fun i a b => by omega⟩
  by_cases z : g = e
  · rw [z] at i1 ⊢; exact f i i0 (by omega)
  · exact d g g0 (by omega) i i0 i1
theorem msx_of {l m n me e : Int} {x bn bx : Int → Int} (h : MN2 l m n x bn bx e) (he : e = me) : MSX l m n me x bn bx := by rw [← he]; exact h
/-- what a point of an edge is -/
def PTX (x bn bx tl hd : Int → Int) (e k an : Int) : Prop := (k = 0 ∧ an = x (tl e)) ∨ (k ≠ 0 ∧ k ≤ bn e ∧ an = bx (24 * e + k - 1)) ∨ (k ≠ 0 ∧ bn e < k ∧ an = x (hd e))
def PTY (x bn bx tl hd : Int → Int) (e k an : Int) : Prop := PTX x bn bx tl hd e k an
theorem ptx_in {l m n me e k an : Int} {x bn bx tl hd : Int → Int} (h : MSX l m n me x bn bx) (hk : GKE n me tl hd) (hp : PTX x bn bx tl hd e k an) (e0 : 0 ≤ e) (e1 : e < me) (k0 : 0 ≤ k) : l ≤ an ∧ an ≤ m := by
  obtain ⟨a, b, c, d, f⟩ := h
  have q := hk e e0 e1
  rcases hp with ⟨_, p⟩ | ⟨p0, p1, p⟩ | ⟨_, _, p⟩
  · rw [p]; exact c _ q.1 q.2.1
  · rw [p, show 24 * e + k - 1 = 24 * e + (k - 1) by omega]; exact d e e0 e1 (k - 1) (by omega) (by omega)
  · rw [p]; exact c _ q.2.2.1 q.2.2.2.1
/-- scaled -/
theorem scl_bd {D W M mm z q : Int} (d0 : 0 ≤ D) (d1 : D ≤ M) (w0 : -1 ≤ W) (w1 : W ≤ 63) (hm : M ≤ mm) (m1 : 1 ≤ mm) (hz : ∃ c : Int, z = D * W + 4294967296 * c) (z0 : -2147483648 ≤ z) (z1 : z ≤ 2147483647) (hq : q = z.tdiv mm) : -63 ≤ q ∧ q ≤ 63 := by
  have dw : -(63 * mm) ≤ D * W ∧ D * W ≤ 63 * mm := by
    have a1 : D * W ≤ D * 63 := Int.mul_le_mul_of_nonneg_left w1 d0
    have a2 : D * (-1) ≤ D * W := Int.mul_le_mul_of_nonneg_left w0 d0
    omega
  have zb : -(63 * mm) ≤ z ∧ z ≤ 63 * mm := by
    obtain ⟨c, hc⟩ := hz
    by_cases h : c = 0
    · rw [h] at hc; omega
    · omega
  have key : ∀ y : Int, 0 ≤ y → y ≤ 63 * mm → 0 ≤ y.tdiv mm ∧ y.tdiv mm ≤ 63 := fun y y0 y1 => by
    rw [Int.tdiv_eq_ediv_of_nonneg y0]
    refine ⟨Int.ediv_nonneg y0 (by omega), ?_⟩
    have := Int.ediv_mul_le y (show mm ≠ 0 by omega)
    exact Int.le_of_mul_le_mul_right (a := mm) (by omega) (by omega)
  by_cases h : 0 ≤ z
  · have := key z h zb.2
    omega
  · have := key (-z) (by omega) (by omega)
    have e : z.tdiv mm = -((-z).tdiv mm) := by rw [Int.neg_tdiv, Int.neg_neg]
    omega
theorem bvm {z a b : Int} (h : bvp z = bvp a * bvp b) : ∃ c : Int, z = a * b + 4294967296 * c := by
  have e : BitVec.ofInt 32 z = BitVec.ofInt 32 (a * b) := by rw [BitVec.ofInt_mul]; exact h
  have n := congrArg BitVec.toNat e
  rw [BitVec.toNat_ofInt, BitVec.toNat_ofInt] at n
  have p : ((2 ^ 32 : Nat) : Int) = 4294967296 := by decide
  rw [p] at n
  generalize a * b = t at n ⊢
  have h1 := Int.emod_nonneg z (show (4294967296 : Int) ≠ 0 by omega)
  have h2 := Int.emod_nonneg t (show (4294967296 : Int) ≠ 0 by omega)
  exact ⟨z / 4294967296 - t / 4294967296, by omega⟩
theorem scl_of {px l m D W M mm z q : Int} (h1 : l ≤ px) (h2 : px ≤ m) (hD : D = px - l) (hM : M = m - l) (w0 : -1 ≤ W) (w1 : W ≤ 63) (hm : M ≤ mm) (m1 : 1 ≤ mm) (hz : bvp z = bvp D * bvp W) (z0 : -2147483648 ≤ z) (z1 : z ≤ 2147483647) (hq : q = z.tdiv mm) : -63 ≤ q ∧ q ≤ 63 := scl_bd (by omega) (by omega) w0 w1 hm m1 (bvm hz) z0 z1 hq
/-- the same, the rectangle told by its numbers, and the next point -/
def MNB (x : Int → Int) (l m i v : Int) : Prop := MNA l m x i ∧ v = x i
def MNBy (x : Int → Int) (l m i v : Int) : Prop := MNA l m x i ∧ v = x i
def MN4 (n : Int) (x bn bx : Int → Int) (l m e k v : Int) : Prop := MN3 l m n x bn bx e k ∧ v = bx (24 * e + k - 1)
def MN4y (n : Int) (x bn bx : Int → Int) (l m e k v : Int) : Prop := MN3 l m n x bn bx e k ∧ v = bx (24 * e + k - 1)
theorem ptx_bend {x bn bx tl hd : Int → Int} {e k an : Int} (h : PTX x bn bx tl hd e k an) (k1 : 1 ≤ k) (hk : k ≤ bn e) : an = bx (24 * e + k - 1) := by
  rcases h with ⟨p, _⟩ | ⟨_, _, p⟩ | ⟨_, p, _⟩
  · omega
  · exact p
  · omega
end
section
-- style sheets of the reference: what the parser does, as functions; none where it faults
noncomputable def lpO (f : Int → Option Int) (m : Int → Prop) : Nat → Int → Option Int
  | 0, _ => none
  | n + 1, c => @ite _ (m c) (Classical.propDecidable _) ((f (c + 1)).bind (lpO f m n)) (some c)
/-- how a run stands: no fault, and where; or a fault -/
def rsO (ft c : Int) : Option Int := if ft = 0 then some c else none
theorem rsO_0 {ft c : Int} (h : ft = 0) : rsO ft c = some c := if_pos h
theorem rsO_1 {ft c : Int} (h : ft ≠ 0) : rsO ft c = none := if_neg h
theorem rsO_bind {ft c : Int} {g : Int → Option Int} : (rsO ft c).bind g = if ft = 0 then g c else none := by
  by_cases h : ft = 0
  · rw [rsO_0 h, if_pos h]; rfl
  · rw [rsO_1 h, if_neg h]; rfl
/-- a loop is under way: what is still to come gives the result -/
def LPO (f : Int → Option Int) (m : Int → Prop) (r : Option Int) (ft c : Int) : Prop := ∃ n : Nat, 2100 - c < n ∧ r = if ft = 0 then lpO f m n c else none
theorem lpo_start {f : Int → Option Int} {m : Int → Prop} {r : Option Int} {ft c : Int} (c0 : 0 ≤ c) (h : r = (rsO ft c).bind (lpO f m 2200)) : LPO f m r ft c := ⟨2200, by omega, by rw [h, rsO_bind]⟩
theorem lpo_step {f : Int → Option Int} {m : Int → Prop} {r : Option Int} {ft c ft_zq c_zq : Int} (h : LPO f m r ft c) (h0 : ft = 0) (hm : m c) (c1 : c ≤ 2099) (hc : c < c_zq) (hf : f (c + 1) = rsO ft_zq c_zq) : LPO f m r ft_zq c_zq := by
  obtain ⟨n, hn, e⟩ := h
  cases n with
  | zero => omega
  | succ n =>
    refine ⟨n, by omega, ?_⟩
    rw [e, if_pos h0]
    show @ite _ (m c) (Classical.propDecidable _) _ _ = _
    rw [if_pos hm, hf, rsO_bind]
theorem lpo_end {f : Int → Option Int} {m : Int → Prop} {r : Option Int} {ft c : Int} (h : LPO f m r ft c) (hm : ft = 0 → ¬ m c) (c1 : c ≤ 2099) : r = rsO ft c := by
  obtain ⟨n, hn, e⟩ := h
  by_cases h0 : ft = 0
  · cases n with
    | zero => omega
    | succ n =>
      rw [e, if_pos h0, rsO_0 h0]
      show @ite _ (m c) (Classical.propDecidable _) _ _ = _
      rw [if_neg (hm h0)]
  · rw [e, if_neg h0, rsO_1 h0]
/-- a sign that is needed -/
noncomputable def ndO (sg : Int → Int → Prop) (a c : Int) : Option Int := @ite _ (sg c a) (Classical.propDecidable _) (some (c + 1)) none
/-- values, products, sums, tests of one depth out of those of the next -/
noncomputable def vlO (kd : Int → Int) (sg : Int → Int → Prop) (iw : Int → Prop) (sm : Int → Option Int) (c : Int) : Option Int := if kd c = 2 then some (c + 1) else @ite _ (sg c 40) (Classical.propDecidable _) ((sm (c + 1)).bind (ndO sg 41)) (@ite _ (iw c) (Classical.propDecidable _) (some (c + 1)) none)
noncomputable def prO (kd : Int → Int) (sg : Int → Int → Prop) (iw : Int → Prop) (sm : Int → Option Int) (c : Int) : Option Int := (vlO kd sg iw sm c).bind (lpO (vlO kd sg iw sm) (fun c => sg c 42 ∨ sg c 47) 2200)
noncomputable def smO (kd : Int → Int) (sg : Int → Int → Prop) (iw : Int → Prop) (sm : Int → Option Int) (c : Int) : Option Int := (prO kd sg iw sm c).bind (lpO (prO kd sg iw sm) (fun c => sg c 43 ∨ sg c 45) 2200)
noncomputable def oneO (kd : Int → Int) (sg : Int → Int → Prop) (iw wn : Int → Prop) (sm on ts : Int → Option Int) (c : Int) : Option Int := @ite _ (wn c) (Classical.propDecidable _) (on (c + 1)) (@ite _ (sg c 123) (Classical.propDecidable _) ((ts (c + 1)).bind (ndO sg 125)) ((smO kd sg iw sm c).bind (fun d => @ite _ (sg d 60 ∨ sg d 61 ∨ sg d 62) (Classical.propDecidable _) (smO kd sg iw sm (d + 1)) none)))
noncomputable def boO (kd : Int → Int) (sg : Int → Int → Prop) (iw wn wa : Int → Prop) (sm on ts : Int → Option Int) (c : Int) : Option Int := (oneO kd sg iw wn sm on ts c).bind (lpO (oneO kd sg iw wn sm on ts) wa 2200)
noncomputable def teO (kd : Int → Int) (sg : Int → Int → Prop) (iw wn wa wo : Int → Prop) (sm on ts : Int → Option Int) (c : Int) : Option Int := (boO kd sg iw wn wa sm on ts c).bind (lpO (boO kd sg iw wn wa sm on ts) wo 2200)
/-- all depths: sum, one test, test -/
noncomputable def lvO (kd : Int → Int) (sg : Int → Int → Prop) (iw wn wa wo : Int → Prop) : Nat → (Int → Option Int) × (Int → Option Int) × (Int → Option Int)
  | 0 => (fun _ => none, fun _ => none, fun _ => none)
  | k + 1 => (smO kd sg iw (lvO kd sg iw wn wa wo k).1, oneO kd sg iw wn (lvO kd sg iw wn wa wo k).1 (lvO kd sg iw wn wa wo k).2.1 (lvO kd sg iw wn wa wo k).2.2, teO kd sg iw wn wa wo (lvO kd sg iw wn wa wo k).1 (lvO kd sg iw wn wa wo k).2.1 (lvO kd sg iw wn wa wo k).2.2)
/-- rules one after the other, up to the end -/
def okR (kd : Int → Int) (ru : Int → Option Int) : Nat → Int → Prop
  | 0, _ => False
  | n + 1, c => kd c = 0 ∨ ∃ d, ru c = some d ∧ okR kd ru n d
def OKR (kd : Int → Int) (ru : Int → Option Int) (c : Int) : Prop := ∃ n, okR kd ru n c
theorem okr_end {kd : Int → Int} {ru : Int → Option Int} {c : Int} (h : kd c = 0) : OKR kd ru c := ⟨1, Or.inl h⟩
theorem okr_back {kd : Int → Int} {ru : Int → Option Int} {c d : Int} (h : ru c = some d) (hd : OKR kd ru d) : OKR kd ru c := by
  obtain ⟨n, hn⟩ := hd
  exact ⟨n + 1, Or.inr ⟨d, h, hn⟩⟩
/-- in the second pass a rule that is begun has no fault -/
theorem okr_step {kd : Int → Int} {ru : Int → Option Int} {c ft c_zq : Int} (h : OKR kd ru c) (hc : kd c ≠ 0) (hr : ru c = rsO ft c_zq) : ft = 0 ∧ OKR kd ru c_zq := by
  obtain ⟨n, hn⟩ := h
  cases n with
  | zero => exact hn.elim
  | succ n =>
    rcases hn with q | ⟨d, q, qn⟩
    · exact absurd q hc
    · by_cases z : ft = 0
      · rw [hr, rsO_0 z] at q
        have : c_zq = d := Option.some.inj q
        rw [this]; exact ⟨z, n, qn⟩
      · rw [hr, rsO_1 z] at q; cases q
end
section
-- style sheets of the reference: contracts of the parser's methods
/-- a method does what a function says: from no fault; a fault stays -/
def CTR (F : Int → Option Int) (ft cu c0 f0 : Int) : Prop := (f0 = 0 → F c0 = rsO ft cu) ∧ (f0 ≠ 0 → ft ≠ 0)
theorem ctr_bind {F G : Int → Option Int} {f1 c1 ft cu c0 f0 : Int} (h : CTR F f1 c1 c0 f0) (g : CTR G ft cu c1 f1) : CTR (fun c => (F c).bind G) ft cu c0 f0 := by
  refine ⟨fun z => ?_, fun z => g.2 (h.2 z)⟩
  show (F c0).bind G = _
  rw [h.1 z, rsO_bind]
  by_cases y : f1 = 0
  · rw [if_pos y]; exact g.1 y
  · rw [if_neg y, rsO_1 (g.2 y)]
/-- its loop is under way -/
def LPC (F G : Int → Option Int) (m : Int → Prop) (ft cu c0 f0 : Int) : Prop := (f0 = 0 → LPO G m ((F c0).bind (lpO G m 2200)) ft cu) ∧ (f0 ≠ 0 → ft ≠ 0)
theorem lpc_start {F G : Int → Option Int} {m : Int → Prop} {ft cu c0 f0 : Int} (h : CTR F ft cu c0 f0) (c1 : 0 ≤ cu) : LPC F G m ft cu c0 f0 := ⟨fun z => lpo_start c1 (by rw [h.1 z]), h.2⟩
theorem lpc_step {F G : Int → Option Int} {m : Int → Prop} {ft cu ft_zq cu_zq c0 f0 c1 f1 : Int} (h : LPC F G m ft cu c0 f0) (h0 : ft = 0) (hm : m cu) (cb : cu ≤ 2099) (hc : cu < cu_zq) (g : CTR G ft_zq cu_zq c1 f1) (e1 : c1 = cu + 1) (e2 : f1 = 0) : LPC F G m ft_zq cu_zq c0 f0 := by
  subst e1
  exact ⟨fun z => lpo_step (h.1 z) h0 hm cb hc (g.1 e2), fun z => absurd h0 (h.2 z)⟩
theorem lpc_end {F G : Int → Option Int} {m : Int → Prop} {ft cu c0 f0 : Int} (h : LPC F G m ft cu c0 f0) (hm : ft = 0 → ¬ m cu) (cb : cu ≤ 2099) : CTR (fun c => (F c).bind (lpO G m 2200)) ft cu c0 f0 := ⟨fun z => lpo_end (h.1 z) hm cb, h.2⟩
/-- signs and words of the reference -/
def sgS (kd tv : Int → Int) (c a : Int) : Prop := kd c = 3 ∧ tv c = a
def wdS (lm : Int) (kd pl en tp : Int → Int) (s : List Int) (c : Int) : Prop := kd c = 1 ∧ en c = pl c + s.length ∧ pl c + s.length ≤ lm ∧ ∀ i : Nat, i < s.length → tp (pl c + i) % 256 = s.getD i 0
def nwS : List (List Int) := [[100, 101, 103], [105, 110], [111, 117, 116], [115, 105, 122, 101], [103, 114, 111, 117, 112], [102, 97, 114], [99, 111, 114, 101], [99, 117, 116], [120], [121]]
def ewS : List (List Int) := [[119, 101, 105, 103, 104, 116], [116, 117, 114, 110, 101, 100], [98, 114, 105, 100, 103, 101], [102, 114, 111, 109], [116, 111], [98, 108, 111, 99, 107], [108, 111, 110, 103], [111, 110, 101]]
def iwS (kn lm : Int) (kd pl en tp : Int → Int) (c : Int) : Prop := ∃ s, s ∈ (if kn = 0 then nwS else ewS) ∧ wdS lm kd pl en tp s c
noncomputable def lvS (kn lm : Int) (kd tv pl en tp : Int → Int) (k : Nat) : (Int → Option Int) × (Int → Option Int) × (Int → Option Int) := lvO kd (sgS kd tv) (iwS kn lm kd pl en tp) (wdS lm kd pl en tp [110, 111, 116]) (wdS lm kd pl en tp [97, 110, 100]) (wdS lm kd pl en tp [111, 114]) k
noncomputable def fVL (op kn lm : Int) (kd tv pl en tp : Int → Int) : Int → Option Int := vlO kd (sgS kd tv) (iwS kn lm kd pl en tp) (lvS kn lm kd tv pl en tp (12 - op).toNat).1
noncomputable def fPR (op kn lm : Int) (kd tv pl en tp : Int → Int) : Int → Option Int := prO kd (sgS kd tv) (iwS kn lm kd pl en tp) (lvS kn lm kd tv pl en tp (12 - op).toNat).1
noncomputable def fSM (op kn lm : Int) (kd tv pl en tp : Int → Int) : Int → Option Int := smO kd (sgS kd tv) (iwS kn lm kd pl en tp) (lvS kn lm kd tv pl en tp (12 - op).toNat).1
noncomputable def fON (op kn lm : Int) (kd tv pl en tp : Int → Int) : Int → Option Int := oneO kd (sgS kd tv) (iwS kn lm kd pl en tp) (wdS lm kd pl en tp [110, 111, 116]) (lvS kn lm kd tv pl en tp (12 - op).toNat).1 (lvS kn lm kd tv pl en tp (12 - op).toNat).2.1 (lvS kn lm kd tv pl en tp (12 - op).toNat).2.2
noncomputable def fBO (op kn lm : Int) (kd tv pl en tp : Int → Int) : Int → Option Int := boO kd (sgS kd tv) (iwS kn lm kd pl en tp) (wdS lm kd pl en tp [110, 111, 116]) (wdS lm kd pl en tp [97, 110, 100]) (lvS kn lm kd tv pl en tp (12 - op).toNat).1 (lvS kn lm kd tv pl en tp (12 - op).toNat).2.1 (lvS kn lm kd tv pl en tp (12 - op).toNat).2.2
noncomputable def fTE (op kn lm : Int) (kd tv pl en tp : Int → Int) : Int → Option Int := teO kd (sgS kd tv) (iwS kn lm kd pl en tp) (wdS lm kd pl en tp [110, 111, 116]) (wdS lm kd pl en tp [97, 110, 100]) (wdS lm kd pl en tp [111, 114]) (lvS kn lm kd tv pl en tp (12 - op).toNat).1 (lvS kn lm kd tv pl en tp (12 - op).toNat).2.1 (lvS kn lm kd tv pl en tp (12 - op).toNat).2.2
theorem lvS_in {op op_zq kn lm : Int} {kd tv pl en tp : Int → Int} (o1 : op ≤ 11) (e : op_zq = op + 1) : lvS kn lm kd tv pl en tp (12 - op).toNat = (fSM op_zq kn lm kd tv pl en tp, fON op_zq kn lm kd tv pl en tp, fTE op_zq kn lm kd tv pl en tp) := by
  have h : (12 - op).toNat = (12 - op_zq).toNat + 1 := by omega
  unfold fSM fON fTE
  rw [h]
  rfl
theorem lvS_0 {op kn lm : Int} {kd tv pl en tp : Int → Int} (o1 : 12 ≤ op) : lvS kn lm kd tv pl en tp (12 - op).toNat = (fun _ => none, fun _ => none, fun _ => none) := by
  rw [show (12 - op).toNat = 0 by omega]; rfl
/-- contracts: fields fault cur styleKind limit; where, with what fault and how deep the method began -/
def SVL (ft cu kn lm : Int) (kd tv pl en tp : Int → Int) (c0 f0 op : Int) : Prop := CTR (fVL op kn lm kd tv pl en tp) ft cu c0 f0
def SPQv (ft cu kn lm : Int) (kd tv pl en tp : Int → Int) (c0 f0 op : Int) : Prop := CTR (fPR op kn lm kd tv pl en tp) ft cu c0 f0
def SSM (ft cu kn lm : Int) (kd tv pl en tp : Int → Int) (c0 f0 op : Int) : Prop := CTR (fSM op kn lm kd tv pl en tp) ft cu c0 f0
def SON (ft cu kn lm : Int) (kd tv pl en tp : Int → Int) (c0 f0 op : Int) : Prop := CTR (fON op kn lm kd tv pl en tp) ft cu c0 f0
def SBO (ft cu kn lm : Int) (kd tv pl en tp : Int → Int) (c0 f0 op : Int) : Prop := CTR (fBO op kn lm kd tv pl en tp) ft cu c0 f0
def STE (ft cu kn lm : Int) (kd tv pl en tp : Int → Int) (c0 f0 op : Int) : Prop := CTR (fTE op kn lm kd tv pl en tp) ft cu c0 f0
/-- their loops -/
def SPWv (ft cu kn lm : Int) (kd tv pl en tp : Int → Int) (c0 f0 op : Int) : Prop := LPC (fVL op kn lm kd tv pl en tp) (fVL op kn lm kd tv pl en tp) (fun c => sgS kd tv c 42 ∨ sgS kd tv c 47) ft cu c0 f0
def SSL (ft cu kn lm : Int) (kd tv pl en tp : Int → Int) (c0 f0 op : Int) : Prop := LPC (fPR op kn lm kd tv pl en tp) (fPR op kn lm kd tv pl en tp) (fun c => sgS kd tv c 43 ∨ sgS kd tv c 45) ft cu c0 f0
def SBL (ft cu kn lm : Int) (kd tv pl en tp : Int → Int) (c0 f0 op : Int) : Prop := LPC (fON op kn lm kd tv pl en tp) (fON op kn lm kd tv pl en tp) (wdS lm kd pl en tp [97, 110, 100]) ft cu c0 f0
def STL (ft cu kn lm : Int) (kd tv pl en tp : Int → Int) (c0 f0 op : Int) : Prop := LPC (fBO op kn lm kd tv pl en tp) (fBO op kn lm kd tv pl en tp) (wdS lm kd pl en tp [111, 114]) ft cu c0 f0
theorem spqv_of {ft cu op kn lm c0 f0 : Int} {kd tv pl en tp : Int → Int} (h : SPWv ft cu kn lm kd tv pl en tp c0 f0 op) (hm : ft = 0 → ¬ (sgS kd tv cu 42 ∨ sgS kd tv cu 47)) (cb : cu ≤ 2099) : SPQv ft cu kn lm kd tv pl en tp c0 f0 op := lpc_end h hm cb
theorem ssm_of {ft cu op kn lm c0 f0 : Int} {kd tv pl en tp : Int → Int} (h : SSL ft cu kn lm kd tv pl en tp c0 f0 op) (hm : ft = 0 → ¬ (sgS kd tv cu 43 ∨ sgS kd tv cu 45)) (cb : cu ≤ 2099) : SSM ft cu kn lm kd tv pl en tp c0 f0 op := lpc_end h hm cb
theorem sbo_of {ft cu op kn lm c0 f0 : Int} {kd tv pl en tp : Int → Int} (h : SBL ft cu kn lm kd tv pl en tp c0 f0 op) (hm : ft = 0 → ¬ wdS lm kd pl en tp [97, 110, 100] cu) (cb : cu ≤ 2099) : SBO ft cu kn lm kd tv pl en tp c0 f0 op := lpc_end h hm cb
theorem ste_of {ft cu op kn lm c0 f0 : Int} {kd tv pl en tp : Int → Int} (h : STL ft cu kn lm kd tv pl en tp c0 f0 op) (hm : ft = 0 → ¬ wdS lm kd pl en tp [111, 114] cu) (cb : cu ≤ 2099) : STE ft cu kn lm kd tv pl en tp c0 f0 op := lpc_end h hm cb
/-- a sign's answer; a sign that is needed -/
def SGN (cu : Int) (kd tv : Int → Int) (a an f : Int) : Prop := an = 1 ↔ f = 0 ∧ sgS kd tv cu a
def SND (ft cu : Int) (kd tv : Int → Int) (a c0 f0 : Int) : Prop := CTR (ndO (sgS kd tv) a) ft cu c0 f0
theorem snd_fault {ft cu a c0 f0 : Int} {kd tv : Int → Int} (h : f0 ≠ 0) (e : ft = f0) : SND ft cu kd tv a c0 f0 := ⟨fun z => absurd z h, fun _ => by rw [e]; exact h⟩
theorem snd_yes {ft cu a c0 f0 : Int} {kd tv : Int → Int} (hs : sgS kd tv c0 a) (e : ft = 0) (ec : cu = c0 + 1) (h0 : f0 = 0) : SND ft cu kd tv a c0 f0 := ⟨fun _ => by unfold ndO; rw [if_pos hs, rsO_0 e, ec], fun z => absurd h0 z⟩
theorem snd_no {ft cu a c0 f0 : Int} {kd tv : Int → Int} (hs : ¬ sgS kd tv c0 a) (e : ft ≠ 0) : SND ft cu kd tv a c0 f0 := ⟨fun _ => by unfold ndO; rw [if_neg hs, rsO_1 e], fun _ => e⟩
/-- values -/
theorem svl_fault {ft cu op kn lm c0 f0 : Int} {kd tv pl en tp : Int → Int} (h : f0 ≠ 0) (e : ft = f0) : SVL ft cu kn lm kd tv pl en tp c0 f0 op := ⟨fun z => absurd z h, fun _ => by rw [e]; exact h⟩
theorem svl_num {ft cu op kn lm c0 f0 : Int} {kd tv pl en tp : Int → Int} (hk : kd c0 = 2) (e : ft = 0) (h0 : f0 = 0) (ec : cu = c0 + 1) : SVL ft cu kn lm kd tv pl en tp c0 f0 op := ⟨fun _ => by unfold fVL vlO; rw [if_pos hk, rsO_0 e, ec], fun z => absurd h0 z⟩
theorem svl_word {ft cu op kn lm c0 f0 : Int} {kd tv pl en tp : Int → Int} (hk : kd c0 = 1) (hw : iwS kn lm kd pl en tp c0) (e : ft = 0) (h0 : f0 = 0) (ec : cu = c0 + 1) : SVL ft cu kn lm kd tv pl en tp c0 f0 op := ⟨fun _ => by
  unfold fVL vlO
  rw [if_neg (by omega), if_neg (fun z => by have := z.1; omega), if_pos hw, rsO_0 e, ec], fun z => absurd h0 z⟩
theorem svl_none {ft cu op kn lm c0 f0 : Int} {kd tv pl en tp : Int → Int} (hk : kd c0 ≠ 2) (hs : ¬ sgS kd tv c0 40) (hw : ¬ iwS kn lm kd pl en tp c0) (e : ft ≠ 0) : SVL ft cu kn lm kd tv pl en tp c0 f0 op := ⟨fun _ => by
  unfold fVL vlO
  rw [if_neg hk, if_neg hs, if_neg hw, rsO_1 e], fun _ => e⟩
theorem svl_open {ft cu op op_zq kn lm c0 f0 c1 f1 c2 f2 : Int} {kd tv pl en tp : Int → Int} (hs : sgS kd tv c0 40) (o1 : op_zq = op + 1) (hf : 12 ≤ op → f1 ≠ 0) (hf0 : op ≤ 11 → f1 = 0) (e1 : c1 = c0 + 1) (h : CTR (fSM op_zq kn lm kd tv pl en tp) f2 c2 c1 f1) (g : SND ft cu kd tv 41 c2 f2) (h0 : f0 = 0) : SVL ft cu kn lm kd tv pl en tp c0 f0 op := by
  refine ⟨fun _ => ?_, fun z => absurd h0 z⟩
  unfold fVL vlO
  rw [if_neg (by have := hs.1; omega), if_pos hs]
  by_cases z : op ≤ 11
  · rw [lvS_in z o1]
    have b := (ctr_bind h g).1 (hf0 z)
    rw [← e1]; exact b
  · rw [lvS_0 (by omega)]
    have f2n := h.2 (hf (by omega))
    rw [rsO_1 (g.2 f2n)]; rfl
/-- a loop ahead of its next call: what it says of the place before -/
def GPW (kn lm : Int) (kd tv pl en tp : Int → Int) (c f c0 f0 op : Int) : Prop := f = 0 ∧ LPC (fVL op kn lm kd tv pl en tp) (fVL op kn lm kd tv pl en tp) (fun c => sgS kd tv c 42 ∨ sgS kd tv c 47) 0 (c - 1) c0 f0 ∧ (sgS kd tv (c - 1) 42 ∨ sgS kd tv (c - 1) 47)
def GSL (kn lm : Int) (kd tv pl en tp : Int → Int) (c f c0 f0 op : Int) : Prop := f = 0 ∧ LPC (fPR op kn lm kd tv pl en tp) (fPR op kn lm kd tv pl en tp) (fun c => sgS kd tv c 43 ∨ sgS kd tv c 45) 0 (c - 1) c0 f0 ∧ (sgS kd tv (c - 1) 43 ∨ sgS kd tv (c - 1) 45)
def GBL (kn lm : Int) (kd tv pl en tp : Int → Int) (c f c0 f0 op : Int) : Prop := f = 0 ∧ LPC (fON op kn lm kd tv pl en tp) (fON op kn lm kd tv pl en tp) (wdS lm kd pl en tp [97, 110, 100]) 0 (c - 1) c0 f0 ∧ wdS lm kd pl en tp [97, 110, 100] (c - 1)
def GTL (kn lm : Int) (kd tv pl en tp : Int → Int) (c f c0 f0 op : Int) : Prop := f = 0 ∧ LPC (fBO op kn lm kd tv pl en tp) (fBO op kn lm kd tv pl en tp) (wdS lm kd pl en tp [111, 114]) 0 (c - 1) c0 f0 ∧ wdS lm kd pl en tp [111, 114] (c - 1)
theorem lpc_go {F G : Int → Option Int} {m : Int → Prop} {ft_zq cu_zq c0 f0 c f : Int} (h : f = 0 ∧ LPC F G m 0 (c - 1) c0 f0 ∧ m (c - 1)) (cb : c ≤ 2100) (hc : c ≤ cu_zq) (g : CTR G ft_zq cu_zq c f) : LPC F G m ft_zq cu_zq c0 f0 := lpc_step h.2.1 rfl h.2.2 (by omega) (by omega) g (by omega) h.1
end
