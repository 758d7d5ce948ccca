/-! the class's embedder: rows of faces, all nodes of a row different -/
def rwD (cy : Int → Int) (b L : Int) : Prop := ∀ i j, 0 ≤ i → i < j → j < L → cy (b + i) ≠ cy (b + j)
def rwB (D : Int) (cy : Int → Int) (b L : Int) : Prop := ∀ i, 0 ≤ i → i < L → 0 ≤ cy (b + i) ∧ cy (b + i) < 25 ∧ bit D (cy (b + i))
/-- a row that grows: drawn nodes, or such of the way -/
def gdR (D wl : Int) (cy wy : Int → Int) (b L lo : Int) : Prop := 0 ≤ L ∧ rwD cy b L ∧ ∀ i, 0 ≤ i → i < L → 0 ≤ cy (b + i) ∧ cy (b + i) < 25 ∧ (bit D (cy (b + i)) ∨ ∃ t, lo ≤ t ∧ 1 ≤ t ∧ t < wl - 1 ∧ cy (b + i) = wy t)
def CYR (C D : Int) (cy ln : Int → Int) : Prop := ∀ c, 0 ≤ c → c < C → 0 ≤ ln c ∧ rwD cy (25 * c) (ln c) ∧ rwB D cy (25 * c) (ln c)
def WYN (D wl : Int) (wy : Int → Int) : Prop := (∀ i, 1 ≤ i → i < wl - 1 → 0 ≤ wy i ∧ wy i < 25 ∧ ¬ bit D (wy i)) ∧ ∀ i j, 1 ≤ i → i < j → j < wl - 1 → wy i ≠ wy j
theorem row_le {f : Int → Int} {b L : Int} (L0 : 0 ≤ L) (h : rwD f b L) (hb : ∀ i, 0 ≤ i → i < L → 0 ≤ f (b + i) ∧ f (b + i) < 25) : L ≤ 25 := by
  have := php L.toNat 25 (fun i => (f (b + (i : Int))).toNat) (fun i hi => by have := hb i (by omega) (by omega); omega) (fun i j hi hj e => by
    have e : (f (b + (i : Int))).toNat = (f (b + (j : Int))).toNat := e
    have h1 := hb i (by omega) (by omega)
    have h2 := hb j (by omega) (by omega)
    by_cases c : i < j
    · exact absurd (by omega) (h i j (by omega) (by omega) (by omega))
    · by_cases d : j < i
      · exact absurd (by omega) (h j i (by omega) (by omega) (by omega))
      · omega)
  omega
theorem gdr_le {D wl b L lo : Int} {cy wy : Int → Int} (h : gdR D wl cy wy b L lo) : L ≤ 25 := row_le h.1 h.2.1 (fun i a b => ⟨(h.2.2 i a b).1, (h.2.2 i a b).2.1⟩)
theorem cyc_le {C D : Int} {cy ln : Int → Int} (h : CYR C D cy ln) {c : Int} (c0 : 0 ≤ c) (c1 : c < C) : ln c ≤ 25 := row_le (h c c0 c1).1 (h c c0 c1).2.1 (fun i a b => ⟨((h c c0 c1).2.2 i a b).1, ((h c c0 c1).2.2 i a b).2.1⟩)
theorem gdr_cyc {C D wl lo : Int} {cy ln wy : Int → Int} (h : CYR C D cy ln) {c : Int} (c0 : 0 ≤ c) (c1 : c < C) : gdR D wl cy wy (25 * c) (ln c) lo := ⟨(h c c0 c1).1, (h c c0 c1).2.1, fun i a b => ⟨((h c c0 c1).2.2 i a b).1, ((h c c0 c1).2.2 i a b).2.1, Or.inl ((h c c0 c1).2.2 i a b).2.2⟩⟩
/-- a node that is not there yet is put at the end -/
theorem gdr_add {D wl b L lo : Int} {cy cy' wy : Int → Int} {p v : Int} (h : gdR D wl cy wy b L lo) (b0 : 0 ≤ b) (hs : st1 cy cy' p v) (hp : p = b + L) (v0 : 0 ≤ v) (v1 : v < 25) (hv : bit D v ∨ ∃ t, lo ≤ t ∧ 1 ≤ t ∧ t < wl - 1 ∧ v = wy t) (hn : ∀ i, 0 ≤ i → i < L → cy (b + i) ≠ v) : gdR D wl cy' wy b (L + 1) lo := by
  obtain ⟨h1, h2, h3⟩ := h
  have hL : cy' (b + L) = v := (hs (b + L) (by omega)).1 (by omega)
  have ho : ∀ i, 0 ≤ i → i < L → cy' (b + i) = cy (b + i) := fun i i0 i1 => (hs (b + i) (by omega)).2 (by omega)
  refine ⟨by omega, fun i j i0 ij j1 => ?_, fun i i0 i1 => ?_⟩
  · by_cases e : j = L
    · rw [e, hL, ho i i0 (by omega)]; exact hn i i0 (by omega)
    · rw [ho i i0 (by omega), ho j (by omega) (by omega)]; exact h2 i j i0 ij (by omega)
  · by_cases e : i = L
    · rw [e, hL]; exact ⟨v0, v1, hv⟩
    · rw [ho i i0 (by omega)]; exact h3 i i0 (by omega)
theorem gdr_room {D wl b L lo : Int} {cy wy : Int → Int} {v : Int} (h : gdR D wl cy wy b L lo) (b0 : 0 ≤ b) (v0 : 0 ≤ v) (v1 : v < 25) (hv : bit D v ∨ ∃ t, lo ≤ t ∧ 1 ≤ t ∧ t < wl - 1 ∧ v = wy t) (hn : ∀ i, 0 ≤ i → i < L → cy (b + i) ≠ v) : L ≤ 24 := by
  have := gdr_le (gdr_add (cy' := fun j => if j = b + L then v else cy j) (p := b + L) (v := v) h b0 (fun j j0 => ⟨fun e => if_pos e, fun e => if_neg e⟩) rfl v0 v1 hv hn)
  omega
theorem gdr_lo {D wl b L lo lo' : Int} {cy wy : Int → Int} (h : gdR D wl cy wy b L lo) (hl : lo' ≤ lo) : gdR D wl cy wy b L lo' := ⟨h.1, h.2.1, fun i a b => ⟨(h.2.2 i a b).1, (h.2.2 i a b).2.1, (h.2.2 i a b).2.2.elim Or.inl (fun ⟨t, t0, t1⟩ => Or.inr ⟨t, by omega, t1⟩)⟩⟩
theorem gdr_same {D wl b L lo : Int} {cy cy' wy : Int → Int} (h : gdR D wl cy wy b L lo) (he : ∀ i, 0 ≤ i → i < L → cy' (b + i) = cy (b + i)) : gdR D wl cy' wy b L lo := by
  obtain ⟨h1, h2, h3⟩ := h
  exact ⟨h1, fun i j i0 ij j1 => by rw [he i i0 (by omega), he j (by omega) j1]; exact h2 i j i0 ij j1, fun i i0 i1 => by rw [he i i0 i1]; exact h3 i i0 i1⟩
/-- a node of the way that is not in the row: the row's are drawn, or of the way's rest -/
theorem wyn_new {D wl b L lo k : Int} {cy wy : Int → Int} (h : gdR D wl cy wy b L lo) (hw : WYN D wl wy) (k1 : 1 ≤ k) (k2 : k < wl - 1) (hk : k < lo) : ∀ i, 0 ≤ i → i < L → cy (b + i) ≠ wy k := fun i i0 i1 e => by
  rcases (h.2.2 i i0 i1).2.2 with q | ⟨t, t0, t1, t2, t3⟩
  · exact (hw.1 k k1 k2).2.2 (e ▸ q)
  · exact hw.2 k t k1 (by omega) t2 (by rw [← e]; exact t3)
/-! a stretch of a row -/
theorem mod_two {x L : Int} (x0 : 0 ≤ x) (x1 : x < 2 * L) : x % L = if x < L then x else x - L := by
  split
  · exact Int.emod_eq_of_lt x0 (by omega)
  · have : x % L = (x - L) % L := by
      have h := Int.add_emod_right (x - L) L
      rw [show x - L + L = x by omega] at h; exact h
    rw [this]; exact Int.emod_eq_of_lt (by omega) (by omega)
theorem tmod_two {x L : Int} (x0 : 0 ≤ x) (x1 : x < 2 * L) : Int.tmod x L = if x < L then x else x - L := by
  rw [Int.tmod_eq_emod_of_nonneg x0]; exact mod_two x0 x1
def stc (ln cy fr : Int → Int) (b c s k : Int) : Prop := 0 ≤ c ∧ 0 ≤ k ∧ k ≤ ln c ∧ 0 ≤ s ∧ (s = 0 ∨ s < ln c) ∧ ∀ i, 0 ≤ i → i < k → fr (b + i) = cy (25 * c + (if s + i < ln c then s + i else s + i - ln c))
def CSI (cy ln fr : Int → Int) (c s L k : Int) : Prop := L = k ∧ stc ln cy fr 0 c s k
theorem csi_start {cy ln fr : Int → Int} {c s L k : Int} (c0 : 0 ≤ c) (hL : L = 0) (hk : k = 0) (s0 : 0 ≤ s) (hl : 0 ≤ ln c) (hs : s = 0 ∨ s + 1 ≤ ln c) : CSI cy ln fr c s L k := ⟨by omega, c0, by omega, by omega, s0, by omega, fun i a b => by omega⟩
theorem csi_step {cy ln fr fr' : Int → Int} {c s L L' k p v x q l2 r z : Int} (h : CSI cy ln fr c s L k) (hx : x = ln c) (hk : k < x) (hq : q = s + k) (hl2 : l2 = ln c) (hr : r = Int.tmod q l2) (hz : z = 25 * c + r) (hv : v = cy z) (hs : st1 fr fr' p v) (hp : p = L) (hL : L' = L + 1) : CSI cy ln fr' c s L' (k + 1) := by
  obtain ⟨h1, h2, h3, h4, h5, h6, h7⟩ := h
  refine ⟨by omega, h2, by omega, by omega, h5, h6, fun i a b => ?_⟩
  rw [Int.zero_add]
  by_cases e : i = k
  · rw [(hs i a).1 (by omega), hv, hz, hr, hl2, hq, tmod_two (by omega) (by omega), e]
  · rw [(hs i a).2 (by omega)]
    have := h7 i a (by omega)
    rw [Int.zero_add] at this; exact this
theorem stc_row {C D c s k b : Int} {cy fr ln : Int → Int} (h : stc ln cy fr b c s k) (hc : CYR C D cy ln) (c1 : c < C) : 0 ≤ k ∧ rwD fr b k ∧ rwB D fr b k := by
  obtain ⟨h2, h3, h4, h5, h6, h7⟩ := h
  obtain ⟨d1, d2, d3⟩ := hc c h2 c1
  refine ⟨h3, fun i j i0 ij j1 => ?_, fun i i0 i1 => ?_⟩
  · rw [h7 i i0 (by omega), h7 j (by omega) j1]
    have key : ∀ a b, 0 ≤ a → a < ln c → 0 ≤ b → b < ln c → a ≠ b → cy (25 * c + a) ≠ cy (25 * c + b) := fun a b a0 a1 b0 b1 ne => by
      by_cases z : a < b
      · exact d2 a b a0 z b1
      · exact fun e => d2 b a b0 (by omega) a1 e.symm
    apply key
    · split <;> omega
    · split <;> omega
    · split <;> omega
    · split <;> omega
    · split <;> split <;> omega
  · rw [h7 i i0 i1]
    exact d3 _ (by split <;> omega) (by split <;> omega)
def FRT (D : Int) (fr : Int → Int) (L : Int) : Prop := 0 ≤ L ∧ rwD fr 0 L ∧ rwB D fr 0 L
theorem frt_of {C D c s L k : Int} {cy ln fr : Int → Int} (h : CSI cy ln fr c s L k) (hc : CYR C D cy ln) (c1 : c < C) : FRT D fr L := by
  obtain ⟨h1, h2⟩ := h
  subst h1
  exact stc_row h2 hc c1
/-- the way put behind the stretch -/
def FRW (D wl : Int) (fr wy : Int → Int) (L k : Int) : Prop := k + 2 ≤ wl ∧ 0 ≤ k ∧ gdR D wl fr wy 0 L (k + 1)
theorem frw_start {D wl L k : Int} {fr wy : Int → Int} (h : FRT D fr L) (hk : k = wl - 2) (w2 : 2 ≤ wl) : FRW D wl fr wy L k := ⟨by omega, by omega, h.1, h.2.1, fun i a b => ⟨(h.2.2 i a b).1, (h.2.2 i a b).2.1, Or.inl (h.2.2 i a b).2.2⟩⟩
theorem frw_room {D wl L k v : Int} {fr wy : Int → Int} (h : FRW D wl fr wy L k) (hw : WYN D wl wy) (k0 : 0 < k) : 0 ≤ L ∧ L ≤ 24 := by
  have q := hw.1 k (by omega) (by have := h.1; omega)
  exact ⟨h.2.2.1, gdr_room (v := wy k) (gdr_lo h.2.2 (lo' := k) (by omega)) (by omega) q.1 q.2.1 (Or.inr ⟨k, by omega, by omega, by have := h.1; omega, rfl⟩) (wyn_new h.2.2 hw (by omega) (by have := h.1; omega) (by omega))⟩
theorem frw_step {D wl L L' k k' p v : Int} {fr fr' wy : Int → Int} (h : FRW D wl fr wy L k) (hw : WYN D wl wy) (k0 : 0 < k) (hs : st1 fr fr' p v) (hp : p = L) (hv : v = wy k) (hL : L' = L + 1) (hk : k' = k - 1) : FRW D wl fr' wy L' k' := by
  have q := hw.1 k (by omega) (by have := h.1; omega)
  have g := gdr_add (p := p) (v := v) (gdr_lo h.2.2 (lo' := k) (by omega)) (by omega) hs (by omega) (by omega) (by omega) (Or.inr ⟨k, by omega, by omega, by have := h.1; omega, hv⟩) (by rw [hv]; exact wyn_new h.2.2 hw (by omega) (by have := h.1; omega) (by omega))
  exact ⟨by have := h.1; omega, by omega, by rw [hL, show k' + 1 = k by omega]; exact g⟩
/-! the other half, straight into the last row -/
def COI (C : Int) (cy ln : Int → Int) (c s L k : Int) : Prop := L = k ∧ c < C ∧ stc ln cy cy (25 * C) c s k
theorem cyc_keep {C D p v : Int} {cy cy' ln : Int → Int} (h : CYR C D cy ln) (hs : st1 cy cy' p v) (hp : 25 * C ≤ p) : CYR C D cy' ln := fun c c0 c1 => by
  have hl := cyc_le h c0 c1
  obtain ⟨d1, d2, d3⟩ := h c c0 c1
  have ho : ∀ i, 0 ≤ i → i < ln c → cy' (25 * c + i) = cy (25 * c + i) := fun i i0 i1 => (hs (25 * c + i) (by omega)).2 (by omega)
  exact ⟨d1, fun i j i0 ij j1 => by rw [ho i i0 (by omega), ho j (by omega) j1]; exact d2 i j i0 ij j1, fun i i0 i1 => by rw [ho i i0 i1]; exact d3 i i0 i1⟩
theorem coi_start {C : Int} {cy ln : Int → Int} {c s L k : Int} (c0 : 0 ≤ c) (c1 : c + 1 ≤ C) (hL : L = 0) (hk : k = 0) (s0 : 0 ≤ s) (hl : 0 ≤ ln c) (hs : s = 0 ∨ s + 1 ≤ ln c) : COI C cy ln c s L k := ⟨by omega, by omega, c0, by omega, by omega, s0, by omega, fun i a b => by omega⟩
theorem coi_step {C D : Int} {cy cy' ln : Int → Int} {c s L L' k p v x q l2 r z : Int} (h : COI C cy ln c s L k) (hc : CYR C D cy ln) (hx : x = ln c) (hk : k < x) (hq : q = s + k) (hl2 : l2 = ln c) (hr : r = Int.tmod q l2) (hz : z = 25 * c + r) (hv : v = cy z) (hs : st1 cy cy' p v) (hp : p = 25 * C + L) (hL : L' = L + 1) : COI C cy' ln c s L' (k + 1) := by
  obtain ⟨h1, c1, h2, h3, h4, h5, h6, h7⟩ := h
  have hl := cyc_le hc h2 c1
  refine ⟨by omega, c1, h2, by omega, by omega, h5, h6, fun i a b => ?_⟩
  have e1 : cy' (25 * c + (if s + i < ln c then s + i else s + i - ln c)) = cy (25 * c + (if s + i < ln c then s + i else s + i - ln c)) := (hs _ (by split <;> omega)).2 (by split <;> omega)
  rw [e1]
  by_cases e : i = k
  · rw [(hs _ (by omega)).1 (by omega), hv, hz, hr, hl2, hq, tmod_two (by omega) (by omega), e]
  · rw [(hs _ (by omega)).2 (by omega)]
    exact h7 i a (by omega)
/-- the last row with the way behind it -/
def COJ (C D wl : Int) (cy wy : Int → Int) (L k : Int) : Prop := 1 ≤ k ∧ 0 ≤ C ∧ 0 ≤ L ∧ rwD cy (25 * C) L ∧ ∀ i, 0 ≤ i → i < L → 0 ≤ cy (25 * C + i) ∧ cy (25 * C + i) < 25 ∧ (bit D (cy (25 * C + i)) ∨ ∃ t, 1 ≤ t ∧ t < k ∧ t < wl - 1 ∧ cy (25 * C + i) = wy t)
theorem coj_start {C D wl c s L k k2 : Int} {cy ln wy : Int → Int} (h : COI C cy ln c s L k) (hc : CYR C D cy ln) (hk : k2 = 1) : COJ C D wl cy wy L k2 := by
  obtain ⟨h1, c1, h2⟩ := h
  subst h1
  have := h2.1
  obtain ⟨d1, d2, d3⟩ := stc_row h2 hc c1
  exact ⟨by omega, by omega, d1, d2, fun i a b => ⟨(d3 i a b).1, (d3 i a b).2.1, Or.inl (d3 i a b).2.2⟩⟩
theorem coj_gdr {C D wl L k : Int} {cy wy : Int → Int} (h : COJ C D wl cy wy L k) : gdR D wl cy wy (25 * C) L 1 := ⟨h.2.2.1, h.2.2.2.1, fun i a b => ⟨(h.2.2.2.2 i a b).1, (h.2.2.2.2 i a b).2.1, (h.2.2.2.2 i a b).2.2.elim Or.inl (fun ⟨t, t1, t2, t3⟩ => Or.inr ⟨t, t1, t1, t3⟩)⟩⟩
theorem coj_new {C D wl L k : Int} {cy wy : Int → Int} (h : COJ C D wl cy wy L k) (hw : WYN D wl wy) (k2 : k < wl - 1) : ∀ i, 0 ≤ i → i < L → cy (25 * C + i) ≠ wy k := fun i i0 i1 e => by
  rcases (h.2.2.2.2 i i0 i1).2.2 with q | ⟨t, t0, t1, t2, t3⟩
  · exact (hw.1 k h.1 k2).2.2 (e ▸ q)
  · exact hw.2 t k t0 t1 k2 (by rw [← e]; exact t3.symm)
theorem coj_room {C D wl L k : Int} {cy wy : Int → Int} (h : COJ C D wl cy wy L k) (hw : WYN D wl wy) (k2 : k < wl - 1) : 0 ≤ L ∧ L ≤ 24 := by
  have q := hw.1 k h.1 k2
  exact ⟨h.2.2.1, gdr_room (v := wy k) (coj_gdr h) (by have := h.2.1; omega) q.1 q.2.1 (Or.inr ⟨k, h.1, h.1, k2, rfl⟩) (coj_new h hw k2)⟩
theorem coj_step {C D wl L L' k k' p v : Int} {cy cy' wy : Int → Int} (h : COJ C D wl cy wy L k) (hw : WYN D wl wy) (k2 : k < wl - 1) (hs : st1 cy cy' p v) (hp : p = 25 * C + L) (hv : v = wy k) (hL : L' = L + 1) (hk : k' = k + 1) : COJ C D wl cy' wy L' k' := by
  have q := hw.1 k h.1 k2
  have g := gdr_add (p := p) (v := v) (coj_gdr h) (by have := h.2.1; omega) hs hp (by omega) (by omega) (Or.inr ⟨k, h.1, h.1, k2, hv⟩) (by rw [hv]; exact coj_new h hw k2)
  subst hL hk
  refine ⟨by have := h.1; omega, h.2.1, g.1, g.2.1, fun i i0 i1 => ⟨(g.2.2 i i0 i1).1, (g.2.2 i i0 i1).2.1, ?_⟩⟩
  have := h.2.1; have := h.2.2.1
  by_cases e : i = L
  · rw [e, (hs _ (by omega)).1 (by omega)]; exact Or.inr ⟨k, h.1, by omega, k2, hv⟩
  · rw [(hs _ (by omega)).2 (by omega)]
    exact (h.2.2.2.2 i i0 (by omega)).2.2.elim Or.inl (fun ⟨t, t1, t2, t3⟩ => Or.inr ⟨t, t1, by omega, t3⟩)
def NWX (C D wl : Int) (cy wy : Int → Int) (L : Int) : Prop := gdR D wl cy wy (25 * C) L 1
theorem nwx_of {C D wl L k an : Int} {cy wy : Int → Int} (h : COJ C D wl cy wy L k) (ha : an = L) : NWX C D wl cy wy an := by subst ha; exact coj_gdr h
/-! a row's length is noted -/
def SCX (C D wl : Int) (cy ln wy : Int → Int) (c L : Int) : Prop := 0 ≤ c ∧ gdR D wl cy wy (25 * c) L 1 ∧ ∀ c', 0 ≤ c' → c' < C → c' ≠ c → gdR D wl cy wy (25 * c') (ln c') 1
def SCZ (C D wl : Int) (cy ln wy : Int → Int) (c : Int) : Prop := ∀ c', 0 ≤ c' → c' < C ∨ c' = c → gdR D wl cy wy (25 * c') (ln c') 1
theorem scz_of {C D wl c L p v : Int} {cy ln ln' wy : Int → Int} (h : SCX C D wl cy ln wy c L) (hs : st1 ln ln' p v) (hp : p = c) (hv : v = L) : SCZ C D wl cy ln' wy c := fun c' c0 c1 => by
  by_cases e : c' = c
  · rw [(hs c' c0).1 (by omega), e, hv]; exact h.2.1
  · rw [(hs c' c0).2 (by omega)]; exact h.2.2 c' c0 (by omega) e
theorem scx_new {C D wl c L : Int} {cy ln wy : Int → Int} (hc : CYR C D cy ln) (h : NWX C D wl cy wy L) (c0 : 0 ≤ c) (hC : c = C) : SCX C D wl cy ln wy c L := ⟨c0, by rw [hC]; exact h, fun c' a b _ => gdr_cyc hc a b⟩
/-! the fresh row put into its place -/
def CPF (cy fr ln wy : Int → Int) (sp dp n C D wl c : Int) : Prop := sp = 0 ∧ dp = 25 * c ∧ 0 ≤ c ∧ c < C ∧ gdR D wl fr wy 0 n 1 ∧ ∀ c', 0 ≤ c' → c' < C → gdR D wl cy wy (25 * c') (ln c') 1
def CPG (cy fr ln wy : Int → Int) (sp dp n C D wl c : Int) : Prop := SCX C D wl cy ln wy c n
theorem cpf_cpg {U U' : Nat → Int → Int} {xs : List Int} {sp dp n : Int} (_ : 0 ≤ sp) (_ : 0 ≤ dp) (_ : 0 ≤ n) (h1 : ∀ j, 0 ≤ j → U' 0 j = if dp ≤ j ∧ j < dp + n then U 1 (sp + (j - dp)) else U 0 j) (_ : (∀ j, U' 1 j = U 1 j) ∨ ((∀ j, U' 1 j = U' 0 j) ∧ ∀ j, U 1 j = U 0 j)) (h3 : ∀ i, 2 ≤ i → ∀ j, U' i j = U i j) (e1 : xs.getD 4 0 = sp) (e2 : xs.getD (4 + 1) 0 = dp) (e3 : xs.getD (4 + 2) 0 = n) (h : CPF (U 0) (U 1) (U 2) (U 3) (xs.getD 4 0) (xs.getD 5 0) (xs.getD 6 0) (xs.getD 7 0) (xs.getD 8 0) (xs.getD 9 0) (xs.getD 10 0)) : CPG (U' 0) (U' 1) (U' 2) (U' 3) (xs.getD 4 0) (xs.getD 5 0) (xs.getD 6 0) (xs.getD 7 0) (xs.getD 8 0) (xs.getD 9 0) (xs.getD 10 0) := by
  have q2 : U' 2 = U 2 := funext (h3 2 (by omega))
  have q3 : U' 3 = U 3 := funext (h3 3 (by omega))
  rw [q2, q3]
  have e2' : xs.getD 5 0 = dp := e2
  have e3' : xs.getD 6 0 = n := e3
  rw [e1, e2', e3'] at h ⊢
  obtain ⟨a1, a2, a3, a4, a5, a6⟩ := h
  have n25 := gdr_le a5
  refine ⟨a3, ?_, fun c' c0 c1 ne => gdr_same (a6 c' c0 c1) (fun i i0 i1 => ?_)⟩
  · refine ⟨a5.1, fun i j i0 ij j1 => ?_, fun i i0 i1 => ?_⟩
    · rw [h1 _ (by omega), if_pos (by omega), h1 _ (by omega), if_pos (by omega)]
      have := a5.2.1 i j i0 ij j1
      rw [show sp + (25 * xs.getD 10 0 + i - dp) = 0 + i by omega, show sp + (25 * xs.getD 10 0 + j - dp) = 0 + j by omega]; exact this
    · rw [h1 _ (by omega), if_pos (by omega), show sp + (25 * xs.getD 10 0 + i - dp) = 0 + i by omega]; exact a5.2.2 i i0 i1
  · have := gdr_le (a6 c' c0 c1)
    rw [h1 _ (by omega), if_neg (by omega)]
theorem cpf_le {U : Nat → Int → Int} {xs : List Int} {sp dp n : Int} (_ : 0 ≤ sp) (_ : 0 ≤ dp) (_ : 0 ≤ n) (e1 : xs.getD 4 0 = sp) (e2 : xs.getD (4 + 1) 0 = dp) (e3 : xs.getD (4 + 2) 0 = n) (h : CPF (U 0) (U 1) (U 2) (U 3) (xs.getD 4 0) (xs.getD 5 0) (xs.getD 6 0) (xs.getD 7 0) (xs.getD 8 0) (xs.getD 9 0) (xs.getD 10 0)) : ∀ j, 0 ≤ j → j < n → 0 ≤ U 1 (sp + j) ∧ U 1 (sp + j) ≤ 24 := fun j a b => by
  have e3' : xs.getD 6 0 = n := e3
  rw [e1, e3'] at h
  obtain ⟨a1, a2, a3, a4, a5, a6⟩ := h
  have q := a5.2.2 j a b
  rw [a1]; omega
theorem cpf_of {C C1 D wl c n sp dp k : Int} {cy fr ln wy : Int → Int} (hz : SCZ C1 D wl cy ln wy C1) (hC : C = C1 + 1) (hf : FRW D wl fr wy n k) (hs : sp = 0) (hd : dp = 25 * c) (c0 : 0 ≤ c) (c1 : c + 1 ≤ C1) : CPF cy fr ln wy sp dp n C D wl c := ⟨hs, hd, c0, by omega, gdr_lo hf.2.2 (by have := hf.2.1; omega), fun c' a b => hz c' a (by omega)⟩
/-! the way's nodes are drawn -/
def FNC (C D wl : Int) (cy ln wy : Int → Int) (k : Int) : Prop := 1 ≤ k ∧ ∀ c', 0 ≤ c' → c' < C → gdR D wl cy wy (25 * c') (ln c') k
theorem fnc_start {C D wl c k : Int} {cy ln wy : Int → Int} (h : SCZ C D wl cy ln wy c) (hk : k = 1) : FNC C D wl cy ln wy k := by subst hk; exact ⟨by omega, fun c' a b => h c' a (Or.inl b)⟩
theorem fnc_step {C D D' wl k k' q v : Int} {cy ln wy : Int → Int} (h : FNC C D wl cy ln wy k) (hv : v = wy k) (v0 : 0 ≤ v) (v1 : v < 25) (hq : bvp q = bvp 1 <<< v.toNat) (hD : bvp D' = bvp D ||| bvp q) (hk : k' = k + 1) : FNC C D' wl cy ln wy k' := by
  refine ⟨by have := h.1; omega, fun c' a b => ?_⟩
  obtain ⟨g1, g2, g3⟩ := h.2 c' a b
  refine ⟨g1, g2, fun i i0 i1 => ⟨(g3 i i0 i1).1, (g3 i i0 i1).2.1, ?_⟩⟩
  rcases (g3 i i0 i1).2.2 with z | ⟨t, t0, t1, t2, t3⟩
  · exact Or.inl ((bit_or hD _).mpr (Or.inl z))
  · by_cases e : t = k
    · refine Or.inl ((bit_or hD _).mpr (Or.inr ?_))
      rw [t3, e, ← hv, bit_shl hq rfl v0 v0 (by omega)]
    · exact Or.inr ⟨t, by omega, t1, t2, t3⟩
theorem cyc_fnc {C D wl k : Int} {cy ln wy : Int → Int} (h : FNC C D wl cy ln wy k) (hk : wl - 1 ≤ k) : CYR C D cy ln := fun c a b => by
  obtain ⟨g1, g2, g3⟩ := h.2 c a b
  refine ⟨g1, g2, fun i i0 i1 => ⟨(g3 i i0 i1).1, (g3 i i0 i1).2.1, ?_⟩⟩
  rcases (g3 i i0 i1).2.2 with z | ⟨t, t0, t1, t2, t3⟩
  · exact z
  · omega
/-! the ring -/
def RNP (wl : Int) (wy : Int → Int) (t : Int) : Prop := wl = 0 ∨ (3 ≤ wl ∧ (∀ i, 0 ≤ i → i < wl - 1 → 0 ≤ wy i ∧ wy i < 25 ∧ wy i ≠ t) ∧ ∀ i j, 0 ≤ i → i < j → j < wl - 1 → wy i ≠ wy j)
theorem rnp_le {wl t : Int} {wy : Int → Int} (h : RNP wl wy t) (t0 : 0 ≤ t) (t1 : t < 25) : 0 ≤ wl ∧ wl ≤ 25 := by
  rcases h with h | ⟨h1, h2, h3⟩
  · omega
  · have := row_le (f := fun j => if j = 0 then t else wy (j - 1)) (b := 0) (L := wl) (by omega) (fun i j i0 ij j1 => by
      show (if 0 + i = 0 then t else wy (0 + i - 1)) ≠ (if 0 + j = 0 then t else wy (0 + j - 1))
      rw [if_neg (show ¬ 0 + j = 0 by omega)]
      split
      · exact fun e => (h2 (0 + j - 1) (by omega) (by omega)).2.2 e.symm
      · exact h3 _ _ (by omega) (by omega) (by omega)) (fun i i0 i1 => by
      show 0 ≤ (if 0 + i = 0 then t else wy (0 + i - 1)) ∧ (if 0 + i = 0 then t else wy (0 + i - 1)) < 25
      split
      · exact ⟨t0, t1⟩
      · have := h2 (0 + i - 1) (by omega) (by omega); exact ⟨this.1, this.2.1⟩)
    omega
def LRI (wl D : Int) (cy wy : Int → Int) (t k : Int) : Prop := RNP wl wy t ∧ 0 ≤ t ∧ t < 25 ∧ 1 ≤ k ∧ (k = 1 ∨ k ≤ wl) ∧ cy 0 = t ∧ cy 25 = t ∧ bit D t ∧ ∀ i, 1 ≤ i → i < k → cy i = wy (i - 1) ∧ cy (25 + wl - i) = wy (i - 1) ∧ bit D (wy (i - 1))
theorem lri_start {wl D t k p1 v1 p2 v2 : Int} {cy cy1 cy2 wy : Int → Int} (h : RNP wl wy t) (t0 : 0 ≤ t) (t1 : t < 25) (hk : k = 1) (hs1 : st1 cy cy1 p1 v1) (hp1 : p1 = 0) (hv1 : v1 = t) (hs2 : st1 cy1 cy2 p2 v2) (hp2 : p2 = 25) (hv2 : v2 = t) (hD : bvp D = bvp 1 <<< t.toNat) : LRI wl D cy2 wy t k :=
  ⟨h, t0, t1, by omega, by omega, by rw [(hs2 0 (by omega)).2 (by omega), (hs1 0 (by omega)).1 (by omega)]; exact hv1, by rw [(hs2 25 (by omega)).1 (by omega)]; exact hv2, by rw [bit_shl hD rfl t0 t0 (by omega)], fun i a b => by omega⟩
theorem lri_step {wl D D' t k k' p1 v1 p2 v2 x q w2 : Int} {cy cy1 cy2 wy : Int → Int} (h : LRI wl D cy wy t k) (hk : k < wl) (hs1 : st1 cy cy1 p1 v1) (hp1 : p1 = k) (hv1 : v1 = wy (k - 1)) (hs2 : st1 cy1 cy2 p2 v2) (hp2 : p2 = 25 + wl - k) (hv2 : v2 = wy (k - 1)) (hx : x = wy (k - 1)) (hq : bvp q = bvp 1 <<< x.toNat) (hD : bvp D' = bvp D ||| bvp q) (hk' : k' = k + 1) (_ : w2 = w2) : LRI wl D' cy2 wy t k' := by
  obtain ⟨a1, a2, a3, a4, a5, a6, a7, a8, a9⟩ := h
  have w25 := rnp_le a1 a2 a3
  have hb : 0 ≤ wy (k - 1) ∧ wy (k - 1) < 25 := by
    rcases a1 with z | ⟨z1, z2, z3⟩
    · omega
    · have := z2 (k - 1) (by omega) (by omega); exact ⟨this.1, this.2.1⟩
  have old : ∀ j, 0 ≤ j → j ≠ k → j ≠ 25 + wl - k → cy2 j = cy j := fun j j0 j1 j2 => by rw [(hs2 j j0).2 (by omega), (hs1 j j0).2 (by omega)]
  refine ⟨a1, a2, a3, by omega, by omega, by rw [old 0 (by omega) (by omega) (by omega)]; exact a6, by rw [old 25 (by omega) (by omega) (by omega)]; exact a7, (bit_or hD _).mpr (Or.inl a8), fun i i0 i1 => ?_⟩
  by_cases e : i = k
  · refine ⟨?_, ?_, (bit_or hD _).mpr (Or.inr ?_)⟩
    · rw [(hs2 i (by omega)).2 (by omega), (hs1 i (by omega)).1 (by omega), e]; exact hv1
    · rw [(hs2 _ (by omega)).1 (by omega), e]; exact hv2
    · rw [e, ← hx, bit_shl hq rfl (by omega) (by omega) (by omega)]
  · have := a9 i i0 (by omega)
    refine ⟨?_, ?_, (bit_or hD _).mpr (Or.inl this.2.2)⟩
    · rw [old i (by omega) e (by omega)]; exact this.1
    · rw [old _ (by omega) (by omega) (by omega)]; exact this.2.1
theorem cyc_ring {wl D t k C p1 v1 p2 v2 : Int} {cy wy ln ln1 ln2 : Int → Int} (h : LRI wl D cy wy t k) (hk : wl ≤ k) (hC : C = 2) (hs1 : st1 ln ln1 p1 v1) (hp1 : p1 = 0) (hv1 : v1 = wl) (hs2 : st1 ln1 ln2 p2 v2) (hp2 : p2 = 1) (hv2 : v2 = wl) : CYR C D cy ln2 := by
  obtain ⟨a1, a2, a3, a4, a5, a6, a7, a8, a9⟩ := h
  have w25 := rnp_le a1 a2 a3
  have l0 : ln2 0 = wl := by rw [(hs2 0 (by omega)).2 (by omega), (hs1 0 (by omega)).1 (by omega)]; exact hv1
  have l1 : ln2 1 = wl := by rw [(hs2 1 (by omega)).1 (by omega)]; exact hv2
  rcases a1 with z | ⟨z1, z2, z3⟩
  · intro c c0 c1
    have lc : ln2 c = 0 := by
      by_cases e : c = 0
      · rw [e, l0]; exact z
      · rw [show c = 1 by omega, l1]; exact z
    rw [lc]
    exact ⟨by omega, fun i j a b q => by omega, fun i a b => by omega⟩
  · have r0 : ∀ i, 1 ≤ i → i < wl → cy i = wy (i - 1) ∧ cy (25 + wl - i) = wy (i - 1) ∧ bit D (wy (i - 1)) := fun i a b => a9 i a (by omega)
    intro c c0 c1
    by_cases e : c = 0
    · subst e
      rw [l0]
      refine ⟨by omega, fun i j i0 ij j1 => ?_, fun i i0 i1 => ?_⟩
      · rw [show 25 * (0 : Int) + i = i by omega, show 25 * (0 : Int) + j = j by omega, (r0 j (by omega) (by omega)).1]
        by_cases y : i = 0
        · rw [y, a6]; exact fun q => (z2 (j - 1) (by omega) (by omega)).2.2 q.symm
        · rw [(r0 i (by omega) (by omega)).1]; exact z3 _ _ (by omega) (by omega) (by omega)
      · rw [show 25 * (0 : Int) + i = i by omega]
        by_cases y : i = 0
        · rw [y, a6]; exact ⟨a2, a3, a8⟩
        · have q := r0 i (by omega) (by omega)
          have := z2 (i - 1) (by omega) (by omega)
          rw [q.1]; exact ⟨this.1, this.2.1, q.2.2⟩
    · rw [show c = 1 by omega, l1]
      have r1 : ∀ i, 1 ≤ i → i < wl → cy (25 * 1 + i) = wy (wl - i - 1) ∧ bit D (wy (wl - i - 1)) := fun i a b => by
        have q := r0 (wl - i) (by omega) (by omega)
        refine ⟨?_, q.2.2⟩
        have := q.2.1
        rw [show 25 + wl - (wl - i) = 25 * 1 + i by omega] at this; exact this
      have r10 : cy (25 * 1 + 0) = t := a7
      refine ⟨by omega, fun i j i0 ij j1 => ?_, fun i i0 i1 => ?_⟩
      · rw [(r1 j (by omega) (by omega)).1]
        by_cases y : i = 0
        · rw [y, r10]; exact fun q => (z2 _ (by omega) (by omega)).2.2 q.symm
        · rw [(r1 i (by omega) (by omega)).1]; exact fun q => z3 _ _ (by omega) (by omega) (by omega) q.symm
      · by_cases y : i = 0
        · rw [y, r10]; exact ⟨a2, a3, a8⟩
        · have q := r1 i (by omega) (by omega)
          have := z2 (wl - i - 1) (by omega) (by omega)
          rw [q.1]; exact ⟨this.1, this.2.1, q.2⟩
def BTD (D t : Int) : Prop := bit D t
theorem btd_of {wl D t k : Int} {cy wy : Int → Int} (h : LRI wl D cy wy t k) : BTD D t := h.2.2.2.2.2.2.2.1
