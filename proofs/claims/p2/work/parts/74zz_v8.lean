-- the class's grid: every node of the line, and all that is under it, has small coordinates
def gS : Nat → Int
  | 0 => 3
  | k + 1 => 3 * (gS k + 46) / 2 + 2
def gT (k : Int) : Int := gS (k - 3).toNat
theorem gS_pos (k : Nat) : 3 ≤ gS k := by
  induction k with
  | zero => exact Int.le_refl _
  | succ k h => show 3 ≤ 3 * (gS k + 46) / 2 + 2; omega
theorem gS_mono (k d : Nat) : gS k ≤ gS (k + d) := by
  induction d with
  | zero => exact Int.le_refl _
  | succ d h =>
    have p := gS_pos (k + d)
    show gS k ≤ 3 * (gS (k + d) + 46) / 2 + 2
    omega
theorem gS_21 : gS 21 ≤ 730000 := by decide +kernel
theorem gT_le {k : Int} (h : k ≤ 24) : gT k ≤ 730000 := by
  have e : gS (k - 3).toNat ≤ gS ((k - 3).toNat + (21 - (k - 3).toNat)) := gS_mono _ _
  rw [show (k - 3).toNat + (21 - (k - 3).toNat) = 21 by omega] at e
  exact Int.le_trans e gS_21
theorem gT_pos (k : Int) : 3 ≤ gT k := gS_pos _
theorem gT_next {k : Int} (h : 3 ≤ k) : gT (k + 1) = 3 * (gT k + 46) / 2 + 2 := by
  unfold gT
  rw [show (k + 1 - 3).toNat = (k - 3).toNat + 1 by omega]
  rfl
def okz (under x y : Int → Int) (s q : Int) : Prop := (0 ≤ q ∧ q < 24) ∧ sml x y q s ∧ ∀ z, 0 ≤ z → z < 24 → bit (under q) z → sml x y z s
def CGI (len : Int) (line under x y : Int → Int) (k : Int) : Prop := (3 ≤ len ∧ len ≤ 24) ∧ ∀ q, 0 ≤ q → q < len → okz under x y (gT k) (line q)
def CGN (len : Int) (line under x y : Int → Int) (k : Int) : Prop := CGI len line under x y (k + 1)
def CG2 (len : Int) (line under x y : Int → Int) (k j v : Int) : Prop := (3 ≤ len ∧ len ≤ 24) ∧ (∀ q, 0 ≤ q → q < len → okz under x y (gT k + 2 * (j - 1)) (line q)) ∧ ∀ z, 0 ≤ z → z < 24 → bit (under v) z → z = v ∨ sml x y z (gT k + 2 * (j - 1))
def CG2n (len : Int) (line under x y : Int → Int) (k j v : Int) : Prop := CG2 len line under x y k (j + 1) v
def CG5 (len : Int) (line under x y : Int → Int) (k v : Int) : Prop := (3 ≤ len ∧ len ≤ 24) ∧ (∀ q, 0 ≤ q → q < len → okz under x y (gT (k + 1)) (line q)) ∧ okz under x y (gT (k + 1)) v
-- while nodes under one of the line move
def cgp (x y : Int → Int) (s i z : Int) : Prop := (z < i → sml x y z (s + 2)) ∧ (i ≤ z → sml x y z s)
def CGS (len : Int) (line under x y : Int → Int) (k j v i : Int) : Prop := (3 ≤ len ∧ len ≤ 24) ∧ (∀ q, 0 ≤ q → q < len → (0 ≤ line q ∧ line q < 24) ∧ cgp x y (gT k + 2 * (j - 1)) i (line q) ∧ ∀ z, 0 ≤ z → z < 24 → bit (under (line q)) z → cgp x y (gT k + 2 * (j - 1)) i z) ∧ ∀ z, 0 ≤ z → z < 24 → bit (under v) z → z = v ∨ cgp x y (gT k + 2 * (j - 1)) i z
theorem cgp_of {x y : Int → Int} {s i z : Int} (h : sml x y z s) : cgp x y s i z := ⟨fun _ => sml_le h (by omega), fun _ => h⟩
theorem cgp_to {x y : Int → Int} {s i z : Int} (h : cgp x y s i z) : sml x y z (s + 2) := by
  by_cases c : z < i
  · exact h.1 c
  · exact sml_le (h.2 (by omega)) (by omega)
theorem cgs_start {len k j v i : Int} {line under x y : Int → Int} (h : CG2 len line under x y k j v) : CGS len line under x y k j v i := ⟨h.1, fun q a b => ⟨(h.2.1 q a b).1, cgp_of (h.2.1 q a b).2.1, fun z c d e => cgp_of ((h.2.1 q a b).2.2 z c d e)⟩, fun z a b c => (h.2.2 z a b c).imp id cgp_of⟩
theorem cgs_end {len k j v i : Int} {line under x y : Int → Int} (h : CGS len line under x y k j v i) : CG2n len line under x y k j v := by
  have e : gT k + 2 * (j + 1 - 1) = gT k + 2 * (j - 1) + 2 := by omega
  unfold CG2n CG2
  rw [e]
  exact ⟨h.1, fun q a b => ⟨(h.2.1 q a b).1, cgp_to (h.2.1 q a b).2.1, fun z c d f => cgp_to ((h.2.1 q a b).2.2 z c d f)⟩, fun z a b c => (h.2.2 z a b c).imp id cgp_to⟩
theorem cgp_step {x x' y : Int → Int} {s i i' z w d t : Int} (h : cgp x y s i z) (z0 : 0 ≤ z) (hi : i' = i + 1) (hs : st1 x x' t w) (ht : t = i) (hw : w = x i + d) (d0 : 0 ≤ d) (d2 : d ≤ 2) : cgp x' y s i' z := by
  by_cases c : z = i
  · refine ⟨fun _ => ?_, fun f => by exfalso; omega⟩
    have g := h.2 (by omega)
    unfold sml at *
    rw [(hs z z0).1 (by omega), hw]
    rw [c] at *
    omega
  · refine ⟨fun f => ?_, fun f => ?_⟩
    · have g := h.1 (by omega)
      unfold sml at *
      rw [(hs z z0).2 (by omega)]
      exact g
    · have g := h.2 (by omega)
      unfold sml at *
      rw [(hs z z0).2 (by omega)]
      exact g
theorem cgs_step {len k j v i i' w d t : Int} {line under x x' y : Int → Int} (h : CGS len line under x y k j v i) (hi : i' = i + 1) (hs : st1 x x' t w) (ht : t = i) (hw : w = x i + d) (d0 : 0 ≤ d) (d2 : d ≤ 2) : CGS len line under x' y k j v i' := ⟨h.1, fun q a b => ⟨(h.2.1 q a b).1, cgp_step (h.2.1 q a b).2.1 (h.2.1 q a b).1.1 hi hs ht hw d0 d2, fun z c e f => cgp_step ((h.2.1 q a b).2.2 z c e f) c hi hs ht hw d0 d2⟩, fun z a b c => (h.2.2 z a b c).imp id (fun g => cgp_step g a hi hs ht hw d0 d2)⟩
theorem cgp_skip {x y : Int → Int} {s i i' z : Int} (h : cgp x y s i z) (hi : i' = i + 1) : cgp x y s i' z := ⟨fun _ => cgp_to h, fun f => h.2 (by omega)⟩
theorem cgs_skip {len k j v i i' : Int} {line under x y : Int → Int} (h : CGS len line under x y k j v i) (hi : i' = i + 1) : CGS len line under x y k j v i' := ⟨h.1, fun q a b => ⟨(h.2.1 q a b).1, cgp_skip (h.2.1 q a b).2.1 hi, fun z c e f => cgp_skip ((h.2.1 q a b).2.2 z c e f) hi⟩, fun z a b c => (h.2.2 z a b c).imp id (fun g => cgp_skip g hi)⟩
theorem cgs_val {len k j v i u t : Int} {line under x y : Int → Int} (h : CGS len line under x y k j v i) (i0 : 0 ≤ i) (i1 : i < 24) (j0 : 0 ≤ j) (j1 : j < len) (ht : t = line j) (hb : bit (under t) i) (hu : u = x i) (j2 : 1 ≤ j) (kk : k ≤ 24) : -800000 ≤ u ∧ u ≤ 800000 := by
  have g := ((h.2.1 j j0 j1).2.2 i i0 i1 (by rw [← ht]; exact hb)).2 (Int.le_refl _)
  have q := gT_le kk
  have := h.1
  unfold sml at g
  omega
-- what is under the new node
theorem cg2_of {len k j v s w : Int} {line under under' x y : Int → Int} (h : CGI len line under x y k) (hs : st1 under under' s w) (ss : s = v) (hw : ∀ z, 0 ≤ z → z < 24 → (bit w z ↔ z = v)) (v0 : 0 ≤ v) (v1 : v < 24) (hj : 1 ≤ j) : CG2 len line under' x y k j v := by
  refine ⟨h.1, fun q a b => ?_, fun z a b c => ?_⟩
  · have g := h.2 q a b
    refine ⟨g.1, sml_le g.2.1 (by omega), fun z c d e => ?_⟩
    by_cases f : line q = v
    · rw [(hs (line q) g.1.1).1 (by omega)] at e
      rw [(hw z c d).1 e, ← f]
      exact sml_le g.2.1 (by omega)
    · rw [(hs (line q) g.1.1).2 (by omega)] at e
      exact sml_le (g.2.2 z c d e) (by omega)
  · rw [(hs v v0).1 (by omega)] at c
    exact Or.inl ((hw z a b).1 c)
theorem cg2_step {len k j j' v s w o a : Int} {line under under' x y : Int → Int} (h : CG2n len line under x y k j v) (hj : j' = j + 1) (hs : st1 under under' s w) (ss : s = v) (v0 : 0 ≤ v) (ho : o = under v) (hw : ∀ z, bit w z → bit o z ∨ bit a z) (ha : (∀ z, ¬ bit a z) ∨ ∃ q, 0 ≤ q ∧ q < len ∧ a = under (line q)) : CG2 len line under' x y k j' v := by
  rw [hj]
  have hn : ∀ z, 0 ≤ z → z < 24 → bit w z → z = v ∨ sml x y z (gT k + 2 * (j + 1 - 1)) := fun z z0 z1 f => by
    rcases hw z f with g | g
    · rw [ho] at g
      exact h.2.2 z z0 z1 g
    · rcases ha with q | ⟨q, q0, q1, q2⟩
      · exact (q z g).elim
      · rw [q2] at g
        exact Or.inr ((h.2.1 q q0 q1).2.2 z z0 z1 g)
  refine ⟨h.1, fun q b c => ?_, fun z b c d => ?_⟩
  · have g := h.2.1 q b c
    refine ⟨g.1, g.2.1, fun z z0 z1 e => ?_⟩
    by_cases f : line q = v
    · rw [(hs (line q) g.1.1).1 (by omega)] at e
      rcases hn z z0 z1 e with r | r
      · rw [r, ← f]; exact g.2.1
      · exact r
    · rw [(hs (line q) g.1.1).2 (by omega)] at e
      exact g.2.2 z z0 z1 e
  · rw [(hs v v0).1 (by omega)] at d
    exact hn z b c d
-- the new node's place
theorem cg_new {s X Y xa xb ya yb xa' xb' e f : Int} (ha : (-s ≤ xa + ya ∧ xa + ya ≤ s) ∧ -s ≤ xa - ya ∧ xa - ya ≤ s) (hb : (-s ≤ xb + yb ∧ xb + yb ≤ s) ∧ -s ≤ xb - yb ∧ xb - yb ≤ s) (he : e = xa + xb + yb - ya) (hX : X = Int.tdiv e 2) (hab : (xa' = xa ∧ xb' = xb) ∨ (xa' = X ∧ xb' = xb) ∨ (xa' = xa ∧ xb' = X) ∨ (xa' = X ∧ xb' = X ∧ xa = xb ∧ ya = yb)) (hf : f = xb' - xa' + ya + yb) (hY : Y = Int.tdiv f 2) : (-(3 * s / 2 + 2) ≤ X + Y ∧ X + Y ≤ 3 * s / 2 + 2) ∧ -(3 * s / 2 + 2) ≤ X - Y ∧ X - Y ≤ 3 * s / 2 + 2 := by
  have q1 := td2 hX
  have q2 := td2 hY
  rcases hab with ⟨r1, r2⟩ | ⟨r1, r2⟩ | ⟨r1, r2⟩ | ⟨r1, r2, r3, r4⟩ <;> rcases q1 with q1 | q1 <;> rcases q2 with q2 | q2 <;> omega
theorem cg_x {s X xa xb ya yb e : Int} (ha : (-s ≤ xa + ya ∧ xa + ya ≤ s) ∧ -s ≤ xa - ya ∧ xa - ya ≤ s) (hb : (-s ≤ xb + yb ∧ xb + yb ≤ s) ∧ -s ≤ xb - yb ∧ xb - yb ≤ s) (hs : s ≤ 800000) (he : e = xa + xb + yb - ya) (hX : X = Int.tdiv e 2) : -1000000 ≤ X ∧ X ≤ 1000000 := by
  rcases td2 hX with q1 | q1 <;> omega
theorem cg_alias {x x' : Int → Int} {v a b s1 X xa xb ya yb xa' xb' : Int} {y : Int → Int} (hs1 : st1 x x' s1 X) (ss1 : s1 = v) (a0 : 0 ≤ a) (b0 : 0 ≤ b) (h1 : xa = x a) (h2 : xb = x b) (h3 : ya = y a) (h4 : yb = y b) (h5 : xa' = x' a) (h6 : xb' = x' b) : (xa' = xa ∧ xb' = xb) ∨ (xa' = X ∧ xb' = xb) ∨ (xa' = xa ∧ xb' = X) ∨ (xa' = X ∧ xb' = X ∧ xa = xb ∧ ya = yb) := by
  by_cases c : a = v
  · by_cases d : b = v
    · exact Or.inr (Or.inr (Or.inr ⟨by rw [h5]; exact (hs1 a a0).1 (by omega), by rw [h6]; exact (hs1 b b0).1 (by omega), by rw [h1, h2, c, d], by rw [h3, h4, c, d]⟩))
    · exact Or.inr (Or.inl ⟨by rw [h5]; exact (hs1 a a0).1 (by omega), by rw [h6, h2]; exact (hs1 b b0).2 (by omega)⟩)
  · by_cases d : b = v
    · exact Or.inr (Or.inr (Or.inl ⟨by rw [h5, h1]; exact (hs1 a a0).2 (by omega), by rw [h6]; exact (hs1 b b0).1 (by omega)⟩))
    · exact Or.inl ⟨by rw [h5, h1]; exact (hs1 a a0).2 (by omega), by rw [h6, h2]; exact (hs1 b b0).2 (by omega)⟩
theorem cg2_at {len k j v l a xa ya : Int} {line under x y : Int → Int} (h : CG2 len line under x y k j v) (hj : j ≤ 24) (l0 : 0 ≤ l) (l1 : l < len) (ha : a = line l) (h1 : xa = x a) (h3 : ya = y a) : (0 ≤ a ∧ a < 24) ∧ (-(gT k + 46) ≤ xa + ya ∧ xa + ya ≤ gT k + 46) ∧ -(gT k + 46) ≤ xa - ya ∧ xa - ya ≤ gT k + 46 := by
  have ga := h.2.1 l l0 l1
  rw [← ha] at ga
  have g := ga.2.1
  refine ⟨ga.1, ?_⟩
  unfold sml at g
  rw [h1, h3]
  omega
theorem cg_vx {len k j v l r a b xa ya xb yb e X : Int} {line under x y : Int → Int} (h : CG2 len line under x y k j v) (hj : j ≤ 24) (hk : k ≤ 24) (l0 : 0 ≤ l) (l1 : l < len) (r0 : 0 ≤ r) (r1 : r < len) (ha : a = line l) (hb : b = line r) (h1 : xa = x a) (h2 : xb = x b) (h3 : ya = y a) (h4 : yb = y b) (he : e = xa + xb + yb - ya) (hX : X = Int.tdiv e 2) : -1000000 ≤ X ∧ X ≤ 1000000 := by
  have p := gT_le hk
  exact cg_x (s := gT k + 46) (cg2_at h hj l0 l1 ha h1 h3).2 (cg2_at h hj r0 r1 hb h2 h4).2 (by omega) he hX
theorem cg_vy {len k j v l r a b xa ya xb yb xa' xb' e X f Y s1 : Int} {line under x x' y : Int → Int} (h : CG2 len line under x y k j v) (hj : j ≤ 24) (k3 : 3 ≤ k) (hk : k ≤ 23) (l0 : 0 ≤ l) (l1 : l < len) (r0 : 0 ≤ r) (r1 : r < len) (ha : a = line l) (hb : b = line r) (h1 : xa = x a) (h2 : xb = x b) (h3 : ya = y a) (h4 : yb = y b) (he : e = xa + xb + yb - ya) (hX : X = Int.tdiv e 2) (hs1 : st1 x x' s1 X) (ss1 : s1 = v) (h5 : xa' = x' a) (h6 : xb' = x' b) (hf : f = xb' - xa' + ya + yb) (hY : Y = Int.tdiv f 2) : (-gT (k + 1) ≤ X + Y ∧ X + Y ≤ gT (k + 1)) ∧ -gT (k + 1) ≤ X - Y ∧ X - Y ≤ gT (k + 1) := by
  have n1 := gT_next k3
  have qa := cg2_at h hj l0 l1 ha h1 h3
  have qb := cg2_at h hj r0 r1 hb h2 h4
  have g := cg_new (s := gT k + 46) qa.2 qb.2 he hX (cg_alias (y := y) hs1 ss1 qa.1.1 qb.1.1 h1 h2 h3 h4 h5 h6) hf hY
  rw [n1]
  exact g
theorem cg_vyb {k X Y : Int} (hk : k ≤ 23) (h : (-gT (k + 1) ≤ X + Y ∧ X + Y ≤ gT (k + 1)) ∧ -gT (k + 1) ≤ X - Y ∧ X - Y ≤ gT (k + 1)) : -1000000 ≤ Y ∧ Y ≤ 1000000 := by
  have p := gT_le (k := k + 1) (by omega)
  omega
theorem cg5_of {len k j v l r a b xa ya xb yb xa' xb' e X f Y s1 s2 : Int} {line under x x' y y' : Int → Int} (h : CG2 len line under x y k j v) (hj : j ≤ 24) (k3 : 3 ≤ k) (hk : k ≤ 23) (v0 : 0 ≤ v) (v1 : v < 24) (l0 : 0 ≤ l) (l1 : l < len) (r0 : 0 ≤ r) (r1 : r < len) (ha : a = line l) (hb : b = line r) (h1 : xa = x a) (h2 : xb = x b) (h3 : ya = y a) (h4 : yb = y b) (he : e = xa + xb + yb - ya) (hX : X = Int.tdiv e 2) (hs1 : st1 x x' s1 X) (ss1 : s1 = v) (h5 : xa' = x' a) (h6 : xb' = x' b) (hf : f = xb' - xa' + ya + yb) (hY : Y = Int.tdiv f 2) (hs2 : st1 y y' s2 Y) (ss2 : s2 = v) : CG5 len line under x' y' k v := by
  have g := cg_vy h hj k3 hk l0 l1 r0 r1 ha hb h1 h2 h3 h4 he hX hs1 ss1 h5 h6 hf hY
  have n1 := gT_next k3
  have hv : sml x' y' v (gT (k + 1)) := by
    unfold sml
    rw [(hs1 v v0).1 (by omega), (hs2 v v0).1 (by omega)]
    exact g
  have old : ∀ z, 0 ≤ z → (z = v ∨ sml x y z (gT k + 2 * (j - 1))) → sml x' y' z (gT (k + 1)) := fun z z0 q => by
    by_cases c : z = v
    · rw [c]; exact hv
    · have q := q.resolve_left c
      have p := gT_pos k
      unfold sml at *
      rw [(hs1 z z0).2 (by omega), (hs2 z z0).2 (by omega)]
      omega
  exact ⟨h.1, fun q c d => ⟨(h.2.1 q c d).1, old _ (h.2.1 q c d).1.1 (Or.inr (h.2.1 q c d).2.1), fun z z0 z1 i => old z z0 (Or.inr ((h.2.1 q c d).2.2 z z0 z1 i))⟩, ⟨v0, v1⟩, hv, fun z z0 z1 i => old z z0 (h.2.2 z z0 z1 i)⟩
-- the line gets the new node
def CR1 (d s under x y : Int → Int) (sp dp n m k v g : Int) : Prop := (2 ≤ dp ∧ sp = dp - 1 + g ∧ n = m - sp ∧ 0 ≤ g ∧ 0 ≤ n) ∧ (∀ q, 0 ≤ q → q < m → okz under x y (gT (k + 1)) (d q)) ∧ (∀ q, 0 ≤ q → q < m → okz under x y (gT (k + 1)) (s q)) ∧ okz under x y (gT (k + 1)) v
def CR2 (d s under x y : Int → Int) (sp dp n m k v g : Int) : Prop := (2 ≤ dp ∧ sp = dp - 1 + g ∧ n = m - sp ∧ 0 ≤ g ∧ 0 ≤ n) ∧ (∀ q, 0 ≤ q → q < m - g + 1 → q ≠ dp - 1 → okz under x y (gT (k + 1)) (d q)) ∧ okz under x y (gT (k + 1)) v
def CR3 (d s under x y : Int → Int) (sp dp n m k v g : Int) : Prop := (sp = 0 ∧ n = 1 ∧ s 0 = v) ∧ (∀ q, 0 ≤ q → q < m - g + 1 → q ≠ dp → okz under x y (gT (k + 1)) (d q)) ∧ okz under x y (gT (k + 1)) v
def CR4 (d s under x y : Int → Int) (sp dp n m k v g : Int) : Prop := ∀ q, 0 ≤ q → q < m - g + 1 → okz under x y (gT (k + 1)) (d q)
theorem okz_eq {under x y under' x' y' : Int → Int} {s q : Int} (hu : ∀ j, under' j = under j) (hx : ∀ j, x' j = x j) (hy : ∀ j, y' j = y j) (h : okz under x y s q) : okz under' x' y' s q := by
  rw [show under' = under from funext hu, show x' = x from funext hx, show y' = y from funext hy]
  exact h
theorem cr1_cr2 {U U' : Nat → Int → Int} {xs : List Int} {sp dp n : Int} (_ : 0 ≤ sp) (_ : 0 ≤ dp) (_ : 0 ≤ n) (h1 : ∀ j, 0 ≤ j → U' 0 j = if dp ≤ j ∧ j < dp + n then U 1 (sp + (j - dp)) else U 0 j) (_ : (∀ j, U' 1 j = U 1 j) ∨ ((∀ j, U' 1 j = U' 0 j) ∧ ∀ j, U 1 j = U 0 j)) (h3 : ∀ i, 2 ≤ i → ∀ j, U' i j = U i j) (e1 : xs.getD 5 0 = sp) (e2 : xs.getD (5 + 1) 0 = dp) (e3 : xs.getD (5 + 2) 0 = n) (h : CR1 (U 0) (U 1) (U 2) (U 3) (U 4) (xs.getD 5 0) (xs.getD 6 0) (xs.getD 7 0) (xs.getD 8 0) (xs.getD 9 0) (xs.getD 10 0) (xs.getD 11 0)) : CR2 (U' 0) (U' 1) (U' 2) (U' 3) (U' 4) (xs.getD 5 0) (xs.getD 6 0) (xs.getD 7 0) (xs.getD 8 0) (xs.getD 9 0) (xs.getD 10 0) (xs.getD 11 0) := by
  have e2 : xs.getD 6 0 = dp := e2
  have e3 : xs.getD 7 0 = n := e3
  rw [e1, e2, e3] at h ⊢
  obtain ⟨hb, hd, hs, hv⟩ := h
  refine ⟨hb, fun q a b c => ?_, okz_eq (h3 2 (by omega)) (h3 3 (by omega)) (h3 4 (by omega)) hv⟩
  refine okz_eq (h3 2 (by omega)) (h3 3 (by omega)) (h3 4 (by omega)) ?_
  rw [h1 q a]
  by_cases f : dp ≤ q ∧ q < dp + n
  · rw [if_pos f]; exact hs _ (by omega) (by omega)
  · rw [if_neg f]; exact hd q a (by omega)
theorem cr3_cr4 {U U' : Nat → Int → Int} {xs : List Int} {sp dp n : Int} (_ : 0 ≤ sp) (_ : 0 ≤ dp) (_ : 0 ≤ n) (h1 : ∀ j, 0 ≤ j → U' 0 j = if dp ≤ j ∧ j < dp + n then U 1 (sp + (j - dp)) else U 0 j) (_ : (∀ j, U' 1 j = U 1 j) ∨ ((∀ j, U' 1 j = U' 0 j) ∧ ∀ j, U 1 j = U 0 j)) (h3 : ∀ i, 2 ≤ i → ∀ j, U' i j = U i j) (e1 : xs.getD 5 0 = sp) (e2 : xs.getD (5 + 1) 0 = dp) (e3 : xs.getD (5 + 2) 0 = n) (h : CR3 (U 0) (U 1) (U 2) (U 3) (U 4) (xs.getD 5 0) (xs.getD 6 0) (xs.getD 7 0) (xs.getD 8 0) (xs.getD 9 0) (xs.getD 10 0) (xs.getD 11 0)) : CR4 (U' 0) (U' 1) (U' 2) (U' 3) (U' 4) (xs.getD 5 0) (xs.getD 6 0) (xs.getD 7 0) (xs.getD 8 0) (xs.getD 9 0) (xs.getD 10 0) (xs.getD 11 0) := by
  have e2 : xs.getD 6 0 = dp := e2
  have e3 : xs.getD 7 0 = n := e3
  rw [e1, e2, e3] at h ⊢
  obtain ⟨hb, hd, hv⟩ := h
  intro q a b
  refine okz_eq (h3 2 (by omega)) (h3 3 (by omega)) (h3 4 (by omega)) ?_
  rw [h1 q a]
  by_cases f : dp ≤ q ∧ q < dp + n
  · rw [if_pos f, show sp + (q - dp) = 0 by omega, hb.2.2]; exact hv
  · rw [if_neg f]; exact hd q a b (by omega)
theorem cr1_of {len m k v g sp dp n : Int} {line under x y : Int → Int} (h : CG5 len line under x y k v) (hm : m = len) (h1 : 2 ≤ dp) (h2 : sp = dp - 1 + g) (h3 : n = m - sp) (h4 : 0 ≤ g) (h5 : 0 ≤ n) : CR1 line line under x y sp dp n m k v g := ⟨⟨h1, h2, h3, h4, h5⟩, fun q a b => h.2.1 q a (by omega), fun q a b => h.2.1 q a (by omega), h.2.2⟩
theorem cr3_of {m k v g sp dp n sp' dp' n' : Int} {line s way under x y : Int → Int} (h : CR2 line s under x y sp dp n m k v g) (h1 : sp' = 0) (h2 : n' = 1) (h3 : way 0 = v) (h4 : dp' = dp - 1) : CR3 line way under x y sp' dp' n' m k v g := ⟨⟨h1, h2, h3⟩, fun q a b c => h.2.1 q a b (by omega), h.2.2⟩
theorem cgn_4 {len m k v g sp dp n : Int} {line way under x y : Int → Int} (h : CR4 line way under x y sp dp n m k v g) (hl : len = m - g + 1) (l0 : 3 ≤ len) (l1 : len ≤ 24) : CGN len line under x y k := ⟨⟨l0, l1⟩, fun q a b => h q a (by omega)⟩
theorem cgn_5 {len k v : Int} {line under x y : Int → Int} (h : CG5 len line under x y k v) : CGN len line under x y k := ⟨h.1, h.2.1⟩
-- the first three
def CG0 (line order under x y : Int → Int) (k : Int) : Prop := ∀ j, 0 ≤ j → j < k → okz under x y 3 (order j)
theorem cgi_start {len k : Int} {line order under x y : Int → Int} (h : CG0 line order under x y 3) (hk : k = 3) (hl : len = 3) (h0 : line 0 = order 0) (h1 : line 1 = order 2) (h2 : line 2 = order 1) : CGI len line under x y k := by
  refine ⟨by omega, fun q a b => ?_⟩
  rw [hk, show gT 3 = 3 from rfl]
  have : q = 0 ∨ q = 1 ∨ q = 2 := by omega
  rcases this with rfl | rfl | rfl
  · rw [h0]; exact h 0 (by omega) (by omega)
  · rw [h1]; exact h 2 (by omega) (by omega)
  · rw [h2]; exact h 1 (by omega) (by omega)
theorem cg0_step {k k' v X Y w s1 s2 s3 : Int} {line order under under' x x' y y' : Int → Int} (h : CG0 line order under x y k) (hk : k' = k + 1) (hv : v = order k) (v0 : 0 ≤ v) (v1 : v < 24) (hs1 : st1 x x' s1 X) (ss1 : s1 = v) (hs2 : st1 y y' s2 Y) (ss2 : s2 = v) (hs3 : st1 under under' s3 w) (ss3 : s3 = v) (X0 : 0 ≤ X) (Y0 : 0 ≤ Y) (XY : X + Y ≤ 3) (hw : ∀ z, 0 ≤ z → z < 24 → (bit w z ↔ z = v)) : CG0 line order under' x' y' k' := by
  have hvv : sml x' y' v 3 := by
    unfold sml
    rw [(hs1 v v0).1 (by omega), (hs2 v v0).1 (by omega)]
    omega
  have old : ∀ z, 0 ≤ z → sml x y z 3 → sml x' y' z 3 := fun z z0 q => by
    by_cases c : z = v
    · rw [c]; exact hvv
    · unfold sml at *
      rw [(hs1 z z0).2 (by omega), (hs2 z z0).2 (by omega)]
      exact q
  have nv : okz under' x' y' 3 v := ⟨⟨v0, v1⟩, hvv, fun z a b c => by
    rw [(hs3 v v0).1 (by omega)] at c
    rw [(hw z a b).1 c]; exact hvv⟩
  intro j a b
  by_cases e : order j = v
  · rw [e]; exact nv
  · have jk : j < k := by
      rcases Int.lt_or_le j k with q | q
      · exact q
      · exact absurd (by rw [hv, show j = k by omega]) e
    have g := h j a jk
    refine ⟨g.1, old _ g.1.1 g.2.1, fun z z0 z1 c => ?_⟩
    rw [(hs3 _ g.1.1).2 (by omega)] at c
    exact old z z0 (g.2.2 z z0 z1 c)
theorem cgn_to {len k k' : Int} {line under x y : Int → Int} (h : CGN len line under x y k) (hk : k' = k + 1) : CGI len line under x y k' := by
  rw [hk]; exact h
-- heights of the class's bars
def RY1 (line y : Int → Int) (k : Int) : Prop := ∀ i, 0 ≤ i → i < k → 0 ≤ y (line i) ∧ y (line i) ≤ 24 * k
def RY2 (line y : Int → Int) (k j v : Int) : Prop := (∀ i, 0 ≤ i → i < k → line i = v ∨ (0 ≤ y (line i) ∧ y (line i) ≤ 24 * k)) ∧ 0 ≤ y v ∧ y v ≤ 24 * k + j
theorem ry2_of {k j v s w : Int} {line y y' : Int → Int} (h : RY1 line y k) (hl : ∀ i, 0 ≤ i → i < k → 0 ≤ line i) (v0 : 0 ≤ v) (hs : st1 y y' s w) (ss : s = v) (hw : w = 0) (k0 : 0 ≤ k) (j0 : 0 ≤ j) : RY2 line y' k j v := by
  refine ⟨fun i a b => ?_, ?_⟩
  · by_cases c : line i = v
    · exact Or.inl c
    · rw [(hs (line i) (hl i a b)).2 (by omega)]; exact Or.inr (h i a b)
  · rw [(hs v v0).1 (by omega)]; omega
theorem ry2_val {k j v u : Int} {line y : Int → Int} (h : RY2 line y k j v) (j0 : 0 ≤ j) (j1 : j < k) (hu : u = y (line j)) : 0 ≤ u ∧ u ≤ 24 * k + j := by
  rcases h.1 j j0 j1 with c | c
  · rw [hu, c]; exact h.2
  · rw [hu]; omega
theorem ry2_step {k j j' v s w : Int} {line y y' : Int → Int} (h : RY2 line y k j v) (hj : j' = j + 1) (hl : ∀ i, 0 ≤ i → i < k → 0 ≤ line i) (v0 : 0 ≤ v) (hs : st1 y y' s w) (ss : s = v) (w0 : 0 ≤ w) (w1 : w ≤ 24 * k + j + 1) : RY2 line y' k j' v := by
  refine ⟨fun i a b => ?_, ?_⟩
  · by_cases c : line i = v
    · exact Or.inl c
    · rw [(hs (line i) (hl i a b)).2 (by omega)]; exact h.1 i a b
  · rw [(hs v v0).1 (by omega)]; omega
theorem ry2_skip {k j j' v : Int} {line y : Int → Int} (h : RY2 line y k j v) (hj : j' = j + 1) : RY2 line y k j' v := ⟨h.1, by have := h.2; omega⟩
theorem ry2_end {k k' j v : Int} {line y : Int → Int} (h : RY2 line y k j v) (hk : k' = k + 1) (hj : j ≤ k) (k1 : k ≤ 23) (hv : v = line k) (k0 : 0 ≤ k) : RY1 line y k' := fun i a b => by
  by_cases c : line i = v
  · rw [c]; have := h.2; omega
  · by_cases d : i = k
    · exact absurd (by rw [hv, d]) c
    · have := (h.1 i a (by omega)).resolve_left c; omega
