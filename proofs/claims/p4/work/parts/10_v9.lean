-- the class's grid by its order: the line's nodes are of the order's first k
def LNO (len : Int) (line order : Int → Int) (k : Int) : Prop := (3 ≤ len ∧ len ≤ 24) ∧ ∀ q, 0 ≤ q → q < len → ∃ j, 0 ≤ j ∧ j < k ∧ line q = order j
def LNQ (len : Int) (line order : Int → Int) (k : Int) : Prop := LNO len line order (k + 1)
def TOQ (order : Int → Int) (t k : Int) : Prop := ∃ j, 0 ≤ j ∧ j < k ∧ t = order j
def CGO (order under x y : Int → Int) (k : Int) : Prop := CGI k order under x y k
def CGP (order under x y : Int → Int) (k : Int) : Prop := CGO order under x y (k + 1)
def CO2 (order under x y : Int → Int) (k j v : Int) : Prop := CG2 k order under x y k j v
def CO2n (order under x y : Int → Int) (k j v : Int) : Prop := CG2n k order under x y k j v
def COS (order under x y : Int → Int) (k j v i : Int) : Prop := CGS k order under x y k j v i
theorem lno_toq {len k q t : Int} {line order : Int → Int} (h : LNO len line order k) (q0 : 0 ≤ q) (q1 : q < len) (e : t = line q) : TOQ order t k := by
  obtain ⟨j, j0, j1, f⟩ := h.2 q q0 q1
  exact ⟨j, j0, j1, by rw [e, f]⟩
theorem cos_val {k j v i u t : Int} {order under x y : Int → Int} (h : COS order under x y k j v i) (ht : TOQ order t k) (i0 : 0 ≤ i) (i1 : i < 24) (hb : bit (under t) i) (hu : u = x i) (j2 : 1 ≤ j) (j3 : j ≤ 24) : -800000 ≤ u ∧ u ≤ 800000 := by
  obtain ⟨q, q0, q1, e⟩ := ht
  have g := ((h.2.1 q q0 q1).2.2 i i0 i1 (by rw [← e]; exact hb)).2 (Int.le_refl _)
  have p := gT_le h.1.2
  unfold sml at g
  omega
theorem co2_of {k j v s w : Int} {order under under' x y : Int → Int} (h : CGO order under x y k) (hs : st1 under under' s w) (ss : s = v) (hw : ∀ z, 0 ≤ z → z < 24 → (bit w z ↔ z = v)) (v0 : 0 ≤ v) (v1 : v < 24) (hj : 1 ≤ j) : CO2 order under' x y k j v := cg2_of h hs ss hw v0 v1 hj
theorem co2_step {k j j' v s w o a : Int} {order under under' x y : Int → Int} (h : CO2n order under x y k j v) (hj : j' = j + 1) (hs : st1 under under' s w) (ss : s = v) (v0 : 0 ≤ v) (ho : o = under v) (hw : ∀ z, bit w z → bit o z ∨ bit a z) (ha : (∀ z, ¬ bit a z) ∨ ∃ t, TOQ order t k ∧ a = under t) : CO2 order under' x y k j' v := by
  refine cg2_step h hj hs ss v0 ho hw ?_
  rcases ha with q | ⟨t, ⟨q, q0, q1, e⟩, f⟩
  · exact Or.inl q
  · exact Or.inr ⟨q, q0, q1, by rw [f, e]⟩
theorem cov_x {k j v a b xa ya xb yb e X : Int} {order under x y : Int → Int} (h : CO2 order under x y k j v) (ta : TOQ order a k) (tb : TOQ order b k) (hj : j ≤ 24) (h1 : xa = x a) (h2 : xb = x b) (h3 : ya = y a) (h4 : yb = y b) (he : e = xa + xb + yb - ya) (hX : X = Int.tdiv e 2) : -1000000 ≤ X ∧ X ≤ 1000000 := by
  obtain ⟨l, l0, l1, ea⟩ := ta
  obtain ⟨r, r0, r1, eb⟩ := tb
  exact cg_vx h hj h.1.2 l0 l1 r0 r1 ea eb h1 h2 h3 h4 he hX
theorem cov_y {k j v a b xa ya xb yb xa' xb' e X f Y s1 : Int} {order under x x' y : Int → Int} (h : CO2 order under x y k j v) (ta : TOQ order a k) (tb : TOQ order b k) (hj : j ≤ 24) (hk : k ≤ 23) (h1 : xa = x a) (h2 : xb = x b) (h3 : ya = y a) (h4 : yb = y b) (he : e = xa + xb + yb - ya) (hX : X = Int.tdiv e 2) (hs1 : st1 x x' s1 X) (ss1 : s1 = v) (h5 : xa' = x' a) (h6 : xb' = x' b) (hf : f = xb' - xa' + ya + yb) (hY : Y = Int.tdiv f 2) : -1000000 ≤ Y ∧ Y ≤ 1000000 := by
  obtain ⟨l, l0, l1, ea⟩ := ta
  obtain ⟨r, r0, r1, eb⟩ := tb
  exact cg_vyb hk (cg_vy h hj h.1.1 hk l0 l1 r0 r1 ea eb h1 h2 h3 h4 he hX hs1 ss1 h5 h6 hf hY)
theorem cgp_new {k j v a b xa ya xb yb xa' xb' e X f Y s1 s2 : Int} {order under x x' y y' : Int → Int} (h : CO2 order under x y k j v) (ta : TOQ order a k) (tb : TOQ order b k) (hj : j ≤ 24) (hk : k ≤ 23) (v0 : 0 ≤ v) (v1 : v < 24) (hv : v = order k) (h1 : xa = x a) (h2 : xb = x b) (h3 : ya = y a) (h4 : yb = y b) (he : e = xa + xb + yb - ya) (hX : X = Int.tdiv e 2) (hs1 : st1 x x' s1 X) (ss1 : s1 = v) (h5 : xa' = x' a) (h6 : xb' = x' b) (hf : f = xb' - xa' + ya + yb) (hY : Y = Int.tdiv f 2) (hs2 : st1 y y' s2 Y) (ss2 : s2 = v) : CGP order under x' y' k := by
  obtain ⟨l, l0, l1, ea⟩ := ta
  obtain ⟨r, r0, r1, eb⟩ := tb
  have g := cg5_of h hj h.1.1 hk v0 v1 l0 l1 r0 r1 ea eb h1 h2 h3 h4 he hX hs1 ss1 h5 h6 hf hY hs2 ss2
  have b := h.1
  refine ⟨by omega, fun q q0 q1 => ?_⟩
  by_cases c : q = k
  · rw [c, ← hv]; exact g.2.2
  · exact g.2.1 q q0 (by omega)
theorem cgo_start {k : Int} {line order under x y : Int → Int} (h : CG0 line order under x y k) (hk : 3 ≤ k) {k' : Int} (hk' : k' = 3) : CGO order under x y k' := by
  refine ⟨by omega, fun q q0 q1 => ?_⟩
  rw [hk', show gT 3 = 3 from rfl]
  exact h q q0 (by omega)
theorem lno_start {len k : Int} {line order : Int → Int} (hl : len = 3) (hk : k = 3) (h0 : line 0 = order 0) (h1 : line 1 = order 2) (h2 : line 2 = order 1) : LNO len line order k := by
  refine ⟨by omega, fun q q0 q1 => ?_⟩
  have : q = 0 ∨ q = 1 ∨ q = 2 := by omega
  rcases this with rfl | rfl | rfl
  · exact ⟨0, by omega, by omega, h0⟩
  · exact ⟨2, by omega, by omega, h1⟩
  · exact ⟨1, by omega, by omega, h2⟩
theorem lno_st {len k : Int} {l0 l1 l2 l3 order : Int → Int} {p0 p1 p2 a b c : Int} (s0 : st1 l0 l1 p0 a) (s1 : st1 l1 l2 p1 b) (s2 : st1 l2 l3 p2 c) (e0 : p0 = 0) (e1 : p1 = 1) (e2 : p2 = 2) (ha : a = order 0) (hb : b = order 2) (hc : c = order 1) (hl : len = 3) (hk : k = 3) : LNO len l3 order k := by
  refine lno_start hl hk ?_ ?_ ?_
  · rw [(s2 0 (by omega)).2 (by omega), (s1 0 (by omega)).2 (by omega), (s0 0 (by omega)).1 (by omega), ha]
  · rw [(s2 1 (by omega)).2 (by omega), (s1 1 (by omega)).1 (by omega), hb]
  · rw [(s2 2 (by omega)).1 (by omega), hc]
theorem lnp_to {len k k' : Int} {line order : Int → Int} (h : LNQ len line order k) (hk : k' = k + 1) : LNO len line order k' := by
  rw [hk]; exact h
theorem cgp_to2 {k k' : Int} {order under x y : Int → Int} (h : CGP order under x y k) (hk : k' = k + 1) : CGO order under x y k' := by
  rw [hk]; exact h
-- the line gets the new node
def CQ1 (d s order : Int → Int) (sp dp n m k g : Int) : Prop := (2 ≤ dp ∧ sp = dp - 1 + g ∧ n = m - sp ∧ 0 ≤ g ∧ 0 ≤ n) ∧ (∀ q, 0 ≤ q → q < m → TOQ order (d q) k) ∧ ∀ q, 0 ≤ q → q < m → TOQ order (s q) k
def CQ2 (d s order : Int → Int) (sp dp n m k g : Int) : Prop := (2 ≤ dp ∧ sp = dp - 1 + g ∧ n = m - sp ∧ 0 ≤ g ∧ 0 ≤ n) ∧ ∀ q, 0 ≤ q → q < m - g + 1 → q ≠ dp - 1 → TOQ order (d q) k
def CQ3 (d s order : Int → Int) (sp dp n m k g : Int) : Prop := (sp = 0 ∧ n = 1 ∧ s 0 = order k ∧ 0 ≤ k) ∧ ∀ q, 0 ≤ q → q < m - g + 1 → q ≠ dp → TOQ order (d q) k
def CQ4 (d s order : Int → Int) (sp dp n m k g : Int) : Prop := ∀ q, 0 ≤ q → q < m - g + 1 → TOQ order (d q) (k + 1)
theorem toq_eq {order order' : Int → Int} {t k : Int} (h : ∀ j, order' j = order j) (q : TOQ order t k) : TOQ order' t k := by
  rw [show order' = order from funext h]; exact q
theorem cq1_cq2 {U U' : Nat → Int → Int} {xs : List Int} {sp dp n : Int} (_ : 0 ≤ sp) (_ : 0 ≤ dp) (_ : 0 ≤ n) (h1 : ∀ j, 0 ≤ j → U' 0 j = if dp ≤ j ∧ j < dp + n then U 1 (sp + (j - dp)) else U 0 j) (_ : (∀ j, U' 1 j = U 1 j) ∨ ((∀ j, U' 1 j = U' 0 j) ∧ ∀ j, U 1 j = U 0 j)) (h3 : ∀ i, 2 ≤ i → ∀ j, U' i j = U i j) (e1 : xs.getD 3 0 = sp) (e2 : xs.getD (3 + 1) 0 = dp) (e3 : xs.getD (3 + 2) 0 = n) (h : CQ1 (U 0) (U 1) (U 2) (xs.getD 3 0) (xs.getD 4 0) (xs.getD 5 0) (xs.getD 6 0) (xs.getD 7 0) (xs.getD 8 0)) : CQ2 (U' 0) (U' 1) (U' 2) (xs.getD 3 0) (xs.getD 4 0) (xs.getD 5 0) (xs.getD 6 0) (xs.getD 7 0) (xs.getD 8 0) := by
  have e2 : xs.getD 4 0 = dp := e2
  have e3 : xs.getD 5 0 = n := e3
  rw [e1, e2, e3] at h ⊢
  obtain ⟨hb, hd, hs⟩ := h
  refine ⟨hb, fun q a b c => toq_eq (h3 2 (by omega)) ?_⟩
  rw [h1 q a]
  by_cases f : dp ≤ q ∧ q < dp + n
  · rw [if_pos f]; exact hs _ (by omega) (by omega)
  · rw [if_neg f]; exact hd q a (by omega)
theorem cq3_cq4 {U U' : Nat → Int → Int} {xs : List Int} {sp dp n : Int} (_ : 0 ≤ sp) (_ : 0 ≤ dp) (_ : 0 ≤ n) (h1 : ∀ j, 0 ≤ j → U' 0 j = if dp ≤ j ∧ j < dp + n then U 1 (sp + (j - dp)) else U 0 j) (_ : (∀ j, U' 1 j = U 1 j) ∨ ((∀ j, U' 1 j = U' 0 j) ∧ ∀ j, U 1 j = U 0 j)) (h3 : ∀ i, 2 ≤ i → ∀ j, U' i j = U i j) (e1 : xs.getD 3 0 = sp) (e2 : xs.getD (3 + 1) 0 = dp) (e3 : xs.getD (3 + 2) 0 = n) (h : CQ3 (U 0) (U 1) (U 2) (xs.getD 3 0) (xs.getD 4 0) (xs.getD 5 0) (xs.getD 6 0) (xs.getD 7 0) (xs.getD 8 0)) : CQ4 (U' 0) (U' 1) (U' 2) (xs.getD 3 0) (xs.getD 4 0) (xs.getD 5 0) (xs.getD 6 0) (xs.getD 7 0) (xs.getD 8 0) := by
  have e2 : xs.getD 4 0 = dp := e2
  have e3 : xs.getD 5 0 = n := e3
  rw [e1, e2, e3] at h ⊢
  obtain ⟨hb, hd⟩ := h
  intro q a b
  refine toq_eq (h3 2 (by omega)) ?_
  rw [h1 q a]
  by_cases f : dp ≤ q ∧ q < dp + n
  · rw [if_pos f, show sp + (q - dp) = 0 by omega, hb.2.2.1]; exact ⟨_, hb.2.2.2, by omega, rfl⟩
  · rw [if_neg f]
    obtain ⟨j, j0, j1, e⟩ := hd q a b (by omega)
    exact ⟨j, j0, by omega, e⟩
theorem cq1_of {len m k g sp dp n : Int} {line order : Int → Int} (h : LNO len line order k) (hm : m = len) (h1 : 2 ≤ dp) (h2 : sp = dp - 1 + g) (h3 : n = m - sp) (h4 : 0 ≤ g) (h5 : 0 ≤ n) : CQ1 line line order sp dp n m k g := ⟨⟨h1, h2, h3, h4, h5⟩, fun q a b => lno_toq h a (by omega) rfl, fun q a b => lno_toq h a (by omega) rfl⟩
theorem cq3_of {m k g sp dp n sp' dp' n' : Int} {line s way order : Int → Int} (h : CQ2 line s order sp dp n m k g) (h1 : sp' = 0) (h2 : n' = 1) (h3 : way 0 = order k) (k0 : 0 ≤ k) (h4 : dp' = dp - 1) : CQ3 line way order sp' dp' n' m k g := ⟨⟨h1, h2, h3, k0⟩, fun q a b c => h.2 q a b (by omega)⟩
theorem lnp_4 {len m k g sp dp n : Int} {line way order : Int → Int} (h : CQ4 line way order sp dp n m k g) (hl : len = m - g + 1) (l0 : 3 ≤ len) (l1 : len ≤ 24) : LNQ len line order k := ⟨⟨l0, l1⟩, fun q a b => h q a (by omega)⟩
theorem lnp_same {len k : Int} {line order : Int → Int} (h : LNO len line order k) : LNQ len line order k := ⟨h.1, fun q a b => by
  obtain ⟨j, j0, j1, e⟩ := h.2 q a b
  exact ⟨j, j0, by omega, e⟩⟩
def RWL (is : Int → Int) (a b s k p : Int) : Prop := RWK is a b s (k + 1) p
theorem rwl_to {a b s k k' p : Int} {is : Int → Int} (h : RWL is a b s k p) (hk : k' = k + 1) : RWK is a b s k' p := by
  rw [hk]; exact h
theorem rwl_of {a b s k p p' v : Int} {is : Int → Int} (h : RWK is a b s k p) (kb : k < b) (hv : v = is k) (hp : p' = p + v) : RWL is a b s k p' := rwk_step h kb hv rfl hp
