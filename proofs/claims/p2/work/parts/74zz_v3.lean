-- the reference's trees: who is under whom (levels alone), shifts, children, roots
def LVE (n : Int) (ab lv : Int → Int) : Prop := ∀ j, 0 ≤ j → j < n → (0 < lv j → 0 ≤ ab j) ∧ (0 ≤ ab j → (0 ≤ lv (ab j) ∧ ab j < n) ∧ lv (ab j) + 1 = lv j)
def UN1 (lv : Int → Int) (i top k : Int) : Prop := (i = top → k = top) ∧ (k = i ∨ k < 0 ∨ lv k < lv i)
def UNQ2 (lv : Int → Int) (i top z : Int) : Prop := (i = top → z ≠ 0) ∧ (z ≠ 0 → i = top ∨ lv top < lv i)
def AH1 (ab : Int → Int) (i p k : Int) : Prop := 0 ≤ i → ab i = p → k = i
def AHP (ab : Int → Int) (i p c z : Int) : Prop := 0 ≤ i → i < c → ab i = p → z ≠ 0
def TTn (ab lv pt : Int → Int) (n p c many : Int) : Int := if many ≤ 0 then CTL ab lv n (lv p) p + pxs (kid ab p) c else pxs (hang ab) n + pt c - 1
def TRAA (r : Int) (A nx ab lv pt : Int → Int) (p c many : Int) : Prop := TRT (A r) nx (TTn ab lv pt (A r) p c many) ∧ TTn ab lv pt (A r) p c many ≤ 23
def TRZ (r : Int) (A nx ab lv pt : Int → Int) (p c many : Int) : Prop := TRT (A r) nx (TTn ab lv pt (A r) p c many + 1)
def NEB (r : Int) (A ab lv pt : Int → Int) (p c many f : Int) : Prop := ((0 ≤ c ∧ c < A r) ∧ 0 ≤ f ∧ f < A r ∧ f ≠ c) ∧ (lv f = lv c ∧ 0 ≤ lv c ∧ lv c < A r) ∧ ((0 < many ∧ pt f < pt c) ∨ (many ≤ 0 ∧ f < c ∧ ab f = p))
def NEP (r : Int) (A ab lv pt : Int → Int) (p c many : Int) : Prop := ∃ f, NEB r A ab lv pt p c many f
def NR8 (r : Int) (A nx ab lv pt : Int → Int) (p c many d l : Int) : Prop := TRAA r A nx ab lv pt p c many ∧ NEP r A ab lv pt p c many ∧ ((d = -1000000 ∧ l ≤ lv c) ∨ FND (A r) nx d)
def NR3 (r : Int) (A nx ab lv pt : Int → Int) (p c many d l mo le i : Int) : Prop := NR8 r A nx ab lv pt p c many d l ∧ (mo = -1000000 ∨ ∃ a, (0 ≤ a ∧ a < A r) ∧ mo = nx a) ∧ (le = 1000000 ∨ ∃ b, (0 ≤ b ∧ b < A r) ∧ le = nx b) ∧ (-1000000 ≤ mo ∧ le ≤ 1000000) ∧ ∃ f, NEB r A ab lv pt p c many f ∧ (lv c = l → (f < i → nx f ≤ mo) ∧ (c < i → le ≤ nx c))
def NR7 (r : Int) (A nx ab lv pt : Int → Int) (p c many d i : Int) : Prop := ∃ nx0, TRAA r A nx0 ab lv pt p c many ∧ FND (A r) nx0 d ∧ (∀ j, 0 ≤ j → j < A r → nx j = nx0 j ∨ nx j = nx0 j + d) ∧ ∀ j, i ≤ j → nx j = nx0 j
theorem nr8_start {r p c many d l : Int} {A nx ab lv pt : Int → Int} (h : TRAA r A nx ab lv pt p c many) (g : NEP r A ab lv pt p c many) (hd : d = -1000000) (hl : l = 0) : NR8 r A nx ab lv pt p c many d l := by
  obtain ⟨f, g1, g2, g3⟩ := g
  exact ⟨h, ⟨f, g1, g2, g3⟩, Or.inl ⟨hd, by omega⟩⟩
theorem nr3_start {r p c many d l mo le i : Int} {A nx ab lv pt : Int → Int} (h : NR8 r A nx ab lv pt p c many d l) (hm : mo = -1000000) (hl : le = 1000000) (hi : i = 0) : NR3 r A nx ab lv pt p c many d l mo le i := by
  obtain ⟨f, hf⟩ := h.2.1
  refine ⟨h, Or.inl hm, Or.inl hl, ⟨by omega, by omega⟩, f, hf, fun _ => ⟨fun a => ?_, fun a => ?_⟩⟩
  · have := hf.1; omega
  · have := hf.1; omega
theorem nr3_skip {r p c many d l mo le i i' : Int} {A nx ab lv pt : Int → Int} (h : NR3 r A nx ab lv pt p c many d l mo le i) (hi : i' = i + 1) (hl : lv i ≠ l) : NR3 r A nx ab lv pt p c many d l mo le i' := by
  obtain ⟨h1, h2, h3, h4, f, hf, hh⟩ := h
  refine ⟨h1, h2, h3, h4, f, hf, fun e => ⟨fun a => ?_, fun a => ?_⟩⟩
  · have q : f ≠ i := fun q => hl (by rw [← q, hf.2.1.1]; exact e)
    exact (hh e).1 (by omega)
  · have q : c ≠ i := fun q => hl (by rw [← q]; exact e)
    exact (hh e).2 (by omega)
theorem nr3_under {r p c many d l mo le le' i i' z v : Int} {A nx ab lv pt : Int → Int} (h : NR3 r A nx ab lv pt p c many d l mo le i) (hi : i' = i + 1) (i0 : 0 ≤ i) (i1 : i < A r) (hl : lv i = l) (hz : z ≠ 0) (hu : UNQ2 lv i c z) (hv : v = nx i) (hm : (le' = le ∨ le' = v) ∧ le' ≤ le ∧ le' ≤ v) : NR3 r A nx ab lv pt p c many d l mo le' i' := by
  obtain ⟨h1, h2, h3, h4, f, hf, hh⟩ := h
  refine ⟨h1, h2, ?_, ⟨h4.1, by omega⟩, f, hf, fun e => ⟨fun a => ?_, fun a => ?_⟩⟩
  · rcases hm.1 with q | q
    · rw [q]; exact h3
    · exact Or.inr ⟨i, ⟨i0, i1⟩, by omega⟩
  · have q : f ≠ i := fun q => by
      rcases hu.2 hz with w | w
      · exact hf.1.2.2.2 (by omega)
      · rw [hl, ← e] at w; omega
    exact (hh e).1 (by omega)
  · by_cases q : c = i
    · rw [q]; omega
    · have := (hh e).2 (by omega); omega
theorem nr3_ahead {r p c many d l mo mo' le i i' z v : Int} {A nx ab lv pt : Int → Int} (h : NR3 r A nx ab lv pt p c many d l mo le i) (hi : i' = i + 1) (i0 : 0 ≤ i) (i1 : i < A r) (hz : z = 0) (hu : UNQ2 lv i c z) (hv : v = nx i) (hm : (mo' = mo ∨ mo' = v) ∧ mo ≤ mo' ∧ v ≤ mo') : NR3 r A nx ab lv pt p c many d l mo' le i' := by
  obtain ⟨h1, h2, h3, h4, f, hf, hh⟩ := h
  refine ⟨h1, ?_, h3, ⟨by omega, h4.2⟩, f, hf, fun e => ⟨fun a => ?_, fun a => ?_⟩⟩
  · rcases hm.1 with q | q
    · rw [q]; exact h2
    · exact Or.inr ⟨i, ⟨i0, i1⟩, by omega⟩
  · by_cases q : f = i
    · rw [q]; omega
    · have := (hh e).1 (by omega); omega
  · have q : c ≠ i := fun q => (hu.1 q.symm) hz
    exact (hh e).2 (by omega)
theorem nr3_other {r p c many d l mo le i i' z : Int} {A nx ab lv pt : Int → Int} (h : NR3 r A nx ab lv pt p c many d l mo le i) (hi : i' = i + 1) (i0 : 0 ≤ i) (hz : z = 0) (hu : UNQ2 lv i c z) (hn : (0 < many ∧ pt c ≤ pt i) ∨ (many ≤ 0 ∧ ∃ y, AHP ab i p c y ∧ y = 0)) : NR3 r A nx ab lv pt p c many d l mo le i' := by
  obtain ⟨h1, h2, h3, h4, f, hf, hh⟩ := h
  refine ⟨h1, h2, h3, h4, f, hf, fun e => ⟨fun a => ?_, fun a => ?_⟩⟩
  · have q : f ≠ i := fun q => by
      rcases hn with ⟨w, u⟩ | ⟨w, y, u, u0⟩
      · rcases hf.2.2 with x | x
        · rw [q] at x; omega
        · omega
      · rcases hf.2.2 with x | x
        · omega
        · exact u i0 (by omega) (by rw [← q]; exact x.2.2) u0
    exact (hh e).1 (by omega)
  · have q : c ≠ i := fun q => (hu.1 q.symm) hz
    exact (hh e).2 (by omega)
theorem nr8_next {r p c many d d' l l' mo le i : Int} {A nx ab lv pt : Int → Int} (h : NR3 r A nx ab lv pt p c many d l mo le i) (hi : A r ≤ i) (hl : l' = l + 1) (hd : (-1000000 < mo ∧ le < 1000000 ∧ ((d' = d ∨ d' = mo + 4 - le) ∧ d ≤ d' ∧ mo + 4 - le ≤ d')) ∨ ((mo ≤ -1000000 ∨ 1000000 ≤ le) ∧ d' = d)) : NR8 r A nx ab lv pt p c many d' l' := by
  obtain ⟨h1, h2, h3, h4, f, hf, hh⟩ := h
  refine ⟨h1.1, h1.2.1, ?_⟩
  rcases hd with ⟨m1, l1, k, k1, k2⟩ | ⟨m, k⟩
  · rcases h2 with q | ⟨a, ha, ea⟩
    · omega
    · rcases h3 with q | ⟨b, hb, eb⟩
      · omega
      · right
        rcases k with k | k
        · rcases h1.2.2 with ⟨w, _⟩ | w
          · exact Or.inr ⟨by omega, b, a, hb, ha, by omega⟩
          · rw [k]; exact w
        · exact Or.inl ⟨a, b, ha, hb, by omega⟩
  · rw [k]
    rcases h1.2.2 with ⟨w, u⟩ | w
    · by_cases e : lv c = l
      · right
        have g := hf.1
        have p1 := (hh e).1 (by omega)
        have p2 := (hh e).2 (by omega)
        rcases m with m | m
        · exact Or.inr ⟨w, c, f, ⟨by omega, by omega⟩, ⟨by omega, by omega⟩, by omega⟩
        · exact Or.inr ⟨w, c, f, ⟨by omega, by omega⟩, ⟨by omega, by omega⟩, by omega⟩
      · exact Or.inl ⟨w, by omega⟩
    · exact Or.inr w
theorem nr7_start {r p c many d l i : Int} {A nx ab lv pt : Int → Int} (h : NR8 r A nx ab lv pt p c many d l) (hl : A r ≤ l) : NR7 r A nx ab lv pt p c many d i := by
  refine ⟨nx, h.1, ?_, fun j _ _ => Or.inl rfl, fun j _ => rfl⟩
  rcases h.2.2 with ⟨_, u⟩ | w
  · obtain ⟨f, hf⟩ := h.2.1
    have := hf.2.1
    exfalso; omega
  · exact w
theorem nr7_keep {r p c many d i i' : Int} {A nx ab lv pt : Int → Int} (h : NR7 r A nx ab lv pt p c many d i) (hi : i ≤ i') : NR7 r A nx ab lv pt p c many d i' := by
  obtain ⟨nx0, a, b, e, g⟩ := h
  exact ⟨nx0, a, b, e, fun j q => g j (by omega)⟩
theorem nr7_step {r p c many d i i' s v u : Int} {A nx nx' ab lv pt : Int → Int} (h : NR7 r A nx ab lv pt p c many d i) (i0 : 0 ≤ i) (hi : i' = i + 1) (hs : st1 nx nx' s v) (hss : s = i) (hu : u = nx i) (hv : v = u + d) : NR7 r A nx' ab lv pt p c many d i' := by
  obtain ⟨nx0, a, b, e, g⟩ := h
  refine ⟨nx0, a, b, fun j j0 j1 => ?_, fun j q => ?_⟩
  · by_cases q : j = i
    · rw [(hs j j0).1 (by omega), q]
      have := g i (by omega)
      right; omega
    · rw [(hs j j0).2 (by omega)]; exact e j j0 j1
  · rw [(hs j (by omega)).2 (by omega)]; exact g j (by omega)
theorem nr7_end {r p c many d i : Int} {A nx ab lv pt : Int → Int} (h : NR7 r A nx ab lv pt p c many d i) : TRZ r A nx ab lv pt p c many := by
  obtain ⟨nx0, a, b, e, g⟩ := h
  exact trt_shift a.1 b e rfl
theorem trt_bd4 {n t j : Int} {nx : Int → Int} (h : TRT n nx t) (ht : t ≤ 24) (j0 : 0 ≤ j) (j1 : j < n) : -67108864 ≤ nx j ∧ nx j ≤ 67108864 := by
  obtain ⟨t0, lo, hi, p, b, c⟩ := h
  have := pow_le2 (a := t.toNat) (b := 24) (by omega)
  have := c j j0 j1
  have : (2 : Int) ^ 24 = 16777216 := by decide
  omega
theorem fnd_bd {n t d : Int} {nx : Int → Int} (h : TRT n nx t) (ht : t ≤ 24) (hd : FND n nx d) : -134217728 ≤ d ∧ d ≤ 134217732 := by
  rcases hd with ⟨a, b, ⟨p, q⟩, ⟨r, s⟩, e⟩ | ⟨e, _⟩
  · have := trt_bd4 h ht p q
    have := trt_bd4 h ht r s
    omega
  · omega
theorem nr7_bd {r p c many d i : Int} {A nx ab lv pt : Int → Int} (h : NR7 r A nx ab lv pt p c many d i) (i0 : 0 ≤ i) (i1 : i < A r) : (-67108864 ≤ nx i ∧ nx i ≤ 67108864) ∧ -134217728 ≤ d ∧ d ≤ 134217732 := by
  obtain ⟨nx0, a, b, e, g⟩ := h
  rw [g i (by omega)]
  exact ⟨trt_bd4 a.1 (by have := a.2; omega) i0 i1, fnd_bd a.1 (by have := a.2; omega) b⟩
-- the children of a node
def CHX (r : Int) (A nx ab lv : Int → Int) (i t : Int) : Prop := (LVE (A r) ab lv ∧ (0 ≤ A r ∧ A r ≤ 24) ∧ 0 ≤ lv i ∧ 0 ≤ i ∧ i < A r) ∧ TRT (A r) nx t
def CHA (r : Int) (A nx ab lv : Int → Int) (i : Int) : Prop := CHX r A nx ab lv i (CTL ab lv (A r) (lv i) i)
def CHB (r : Int) (A nx ab lv : Int → Int) (i : Int) : Prop := CHX r A nx ab lv i (CTL ab lv (A r) (lv i) (i + 1))
def CH7 (r : Int) (A nx ab lv : Int → Int) (i f l c : Int) : Prop := CHX r A nx ab lv i (CTL ab lv (A r) (lv i) i + pxs (kid ab i) c) ∧ (0 ≤ c ∧ c ≤ A r) ∧ (f = -1 ∨ ((0 ≤ f ∧ f < c ∧ ab f = i) ∧ 0 ≤ l ∧ l < A r))
def CHK (r : Int) (A ab lv : Int → Int) (i f l c : Int) : Prop := (LVE (A r) ab lv ∧ (0 ≤ A r ∧ A r ≤ 24) ∧ 0 ≤ lv i ∧ 0 ≤ i ∧ i < A r) ∧ (0 ≤ c ∧ c ≤ A r) ∧ (f = -1 ∨ ((0 ≤ f ∧ f < c ∧ ab f = i) ∧ 0 ≤ l ∧ l < A r))
theorem chk_of {r i f l c : Int} {A nx ab lv : Int → Int} (h : CH7 r A nx ab lv i f l c) : CHK r A ab lv i f l c := ⟨h.1.1, h.2.1, h.2.2⟩
theorem lv_cnt {n : Int} {ab lv : Int → Int} (h : LVE n ab lv) (m : Nat) : ∀ c, 0 ≤ c → c < n → lv c = (m : Int) → (m : Int) + 1 ≤ pxs (fun x => if 0 ≤ lv x ∧ lv x ≤ (m : Int) then 1 else 0) n := by
  induction m with
  | zero =>
    intro c c0 c1 e
    have z := pxs_one (f := fun _ => 0) (g := fun x => if x = c then 1 else 0) (x := c) (d := 1) n (fun x _ _ q => if_neg q) c0 c1 (by simp)
    have z2 : 0 ≤ pxs (fun _ => (0 : Int)) n := pxs_lb n (fun _ => by omega)
    have := pxs_mono (f := fun x => if x = c then 1 else 0) (g := fun x => if 0 ≤ lv x ∧ lv x ≤ ((0 : Nat) : Int) then 1 else 0) n (fun x _ _ => by
      by_cases q : x = c
      · show (if x = c then (1 : Int) else 0) ≤ _
        rw [if_pos q, if_pos (by rw [q, e]; omega)]; omega
      · show (if x = c then (1 : Int) else 0) ≤ if 0 ≤ lv x ∧ lv x ≤ ((0 : Nat) : Int) then 1 else 0
        rw [if_neg q]
        by_cases w : 0 ≤ lv x ∧ lv x ≤ ((0 : Nat) : Int)
        · rw [if_pos w]; omega
        · rw [if_neg w]; omega)
    omega
  | succ m ih =>
    intro c c0 c1 e
    have q := (h c c0 c1).1 (by omega)
    have q2 := (h c c0 c1).2 q
    have := ih (ab c) q q2.1.2 (by omega)
    have z := pxs_one (f := fun x => if 0 ≤ lv x ∧ lv x ≤ (m : Int) then 1 else 0) (g := fun x => if x = c then 1 else if 0 ≤ lv x ∧ lv x ≤ (m : Int) then 1 else 0) (x := c) (d := 1) n (fun x _ _ q => by show (if x = c then (1 : Int) else _) = _; rw [if_neg q]) c0 c1 (by
      show (if c = c then (1 : Int) else _) = (if 0 ≤ lv c ∧ lv c ≤ (m : Int) then 1 else 0) + 1
      rw [if_pos rfl, if_neg (by omega)]; omega)
    have := pxs_mono (f := fun x => if x = c then 1 else if 0 ≤ lv x ∧ lv x ≤ (m : Int) then 1 else 0) (g := fun x => if 0 ≤ lv x ∧ lv x ≤ ((m + 1 : Nat) : Int) then 1 else 0) n (fun x _ _ => by
      show (if x = c then (1 : Int) else if 0 ≤ lv x ∧ lv x ≤ (m : Int) then 1 else 0) ≤ if 0 ≤ lv x ∧ lv x ≤ ((m + 1 : Nat) : Int) then 1 else 0
      by_cases q : x = c
      · rw [if_pos q, if_pos (by rw [q, e]; omega)]; omega
      · rw [if_neg q]
        by_cases w : 0 ≤ lv x ∧ lv x ≤ (m : Int)
        · rw [if_pos w, if_pos (by omega)]; omega
        · rw [if_neg w]
          by_cases w2 : 0 ≤ lv x ∧ lv x ≤ ((m + 1 : Nat) : Int)
          · rw [if_pos w2]; omega
          · rw [if_neg w2]; omega)
    omega
theorem lvl_lt {n c : Int} {ab lv : Int → Int} (h : LVE n ab lv) (c0 : 0 ≤ c) (c1 : c < n) (l0 : 0 ≤ lv c) : lv c < n := by
  have := lv_cnt h (lv c).toNat c c0 c1 (by omega)
  have := pxs_ub (f := fun x => if 0 ≤ lv x ∧ lv x ≤ ((lv c).toNat : Int) then 1 else 0) n (by omega) (fun x => by
    show (if 0 ≤ lv x ∧ lv x ≤ ((lv c).toNat : Int) then (1 : Int) else 0) ≤ 1
    by_cases w : 0 ≤ lv x ∧ lv x ≤ ((lv c).toNat : Int)
    · rw [if_pos w]; omega
    · rw [if_neg w]; omega)
  omega
theorem ch7_start {r i f l c : Int} {A nx ab lv : Int → Int} (h : CHA r A nx ab lv i) (hf : f = -1) (hc : c = 0) : CH7 r A nx ab lv i f l c := by
  refine ⟨⟨h.1, ?_⟩, ⟨by omega, by have := h.1; omega⟩, Or.inl hf⟩
  rw [pxs_0 (n := c) (by omega)]
  exact trt_le h.2 (by omega)
theorem kid_le {ab : Int → Int} {i c c' : Int} (c0 : 0 ≤ c) (hc : c' = c + 1) : pxs (kid ab i) c ≤ pxs (kid ab i) c' := by
  rw [hc, pxs_S c0]
  have : 0 ≤ kid ab i c := by unfold kid; by_cases q : ab c = i; rw [if_pos q]; omega; rw [if_neg q]; omega
  omega
theorem ch7_skip {r i f l c c' : Int} {A nx ab lv : Int → Int} (h : CH7 r A nx ab lv i f l c) (hc : c' = c + 1) (c1 : c < A r) : CH7 r A nx ab lv i f l c' := by
  obtain ⟨⟨h1, h2⟩, h3, h4⟩ := h
  have := kid_le (ab := ab) (i := i) h3.1 hc
  exact ⟨⟨h1, trt_le h2 (by omega)⟩, ⟨by omega, by omega⟩, by omega⟩
theorem ch7_first {r i f f' l l' c c' v : Int} {A nx ab lv : Int → Int} (h : CH7 r A nx ab lv i f l c) (hc : c' = c + 1) (c1 : c < A r) (hv : v = ab c) (hi : v = i) (hf : f' = c) (hl : l' = c) : CH7 r A nx ab lv i f' l' c' := by
  obtain ⟨⟨h1, h2⟩, h3, h4⟩ := h
  have := kid_le (ab := ab) (i := i) h3.1 hc
  exact ⟨⟨h1, trt_le h2 (by omega)⟩, ⟨by omega, by omega⟩, Or.inr ⟨⟨by omega, by omega, by rw [hf]; omega⟩, by omega, by omega⟩⟩
theorem ch7_pre {r i f l c v many : Int} {A nx ab lv pt : Int → Int} (h : CH7 r A nx ab lv i f l c) (c1 : c < A r) (hv : v = ab c) (hi : v = i) (hf : 0 ≤ f) (hm : many = 0) : TRAA r A nx ab lv pt i c many ∧ NEP r A ab lv pt i c many := by
  obtain ⟨⟨h1, h2⟩, h3, h4⟩ := h
  have e : TTn ab lv pt (A r) i c many = CTL ab lv (A r) (lv i) i + pxs (kid ab i) c := by unfold TTn; rw [if_pos (by omega)]
  have q := h4.resolve_left (by omega)
  have hc0 := (h1.1 c h3.1 c1).2 (by omega)
  have hf0 := (h1.1 f (by omega) (by omega)).2 (by omega)
  have ec : ab c = i := by omega
  have ef : ab f = i := q.1.2.2
  rw [ec] at hc0
  rw [ef] at hf0
  refine ⟨⟨by rw [e]; exact h2, ?_⟩, f, ⟨⟨h3.1, c1⟩, by omega, by omega, by omega⟩, ⟨by omega, by omega, ?_⟩, Or.inr ⟨by omega, by omega, ef⟩⟩
  · rw [e]
    have k1 : pxs (kid ab i) (c + 1) = pxs (kid ab i) c + 1 := by
      rw [pxs_S h3.1]; unfold kid; rw [if_pos ec]
    have k2 : pxs (kid ab i) (c + 1) ≤ pxs (kid ab i) (A r) := by
      have mono : ∀ m : Int, c + 1 ≤ m → pxs (kid ab i) (c + 1) ≤ pxs (kid ab i) m := by
        intro m
        refine pxs_ind (P := fun m => c + 1 ≤ m → pxs (kid ab i) (c + 1) ≤ pxs (kid ab i) m) ?_ ?_ m
        · intro m hm h; exfalso; omega
        · intro m hm ih h
          by_cases w : c + 1 ≤ m
          · have := ih w
            have := kid_le (ab := ab) (i := i) hm (c' := m + 1) rfl
            omega
          · rw [show m + 1 = c + 1 by omega]; omega
      exact mono _ (by omega)
    have k3 := ctl_kid (ab := ab) (lv := lv) (n := A r) (l := lv i) (i := i) (i' := i + 1) rfl (by omega) rfl
    have k4 := ctl_all (ab := ab) (lv := lv) (n := A r) (l := lv i) (i := i + 1)
    have k5 := pxs_ub (f := hang ab) (A r) (by omega) (fun c => by unfold hang; by_cases w : 0 ≤ ab c; rw [if_pos w]; omega; rw [if_neg w]; omega)
    omega
  · exact lvl_lt h1.1 h3.1 c1 (by omega)
theorem ch7_next {r i f l l' c c' v many : Int} {A nx' ab lv pt : Int → Int} (h : CHK r A ab lv i f l c) (hc : c' = c + 1) (c1 : c < A r) (hv : v = ab c) (hi : v = i) (hf : 0 ≤ f) (hm : many = 0) (hl : l' = c) (hz : TRZ r A nx' ab lv pt i c many) : CH7 r A nx' ab lv i f l' c' := by
  obtain ⟨h1, h3, h4⟩ := h
  have q := h4.resolve_left (by omega)
  have e : TTn ab lv pt (A r) i c many = CTL ab lv (A r) (lv i) i + pxs (kid ab i) c := by unfold TTn; rw [if_pos (by omega)]
  unfold TRZ at hz
  rw [e] at hz
  refine ⟨⟨h1, trt_le hz ?_⟩, ⟨by omega, by omega⟩, Or.inr ⟨⟨by omega, by omega, q.1.2.2⟩, by omega, by omega⟩⟩
  rw [hc, pxs_S h3.1]
  unfold kid
  rw [if_pos (by omega)]
  omega
theorem ch7_end {r i f l c s v a b : Int} {A nx nx' ab lv : Int → Int} (h : CH7 r A nx ab lv i f l c) (c1 : A r ≤ c) (hs : st1 nx nx' s v) (hv : (f < 0 ∧ v = 0) ∨ (0 ≤ f ∧ a = nx f ∧ b = nx l ∧ 2 * v ≤ a + b ∧ a + b ≤ 2 * v + 1)) : CHB r A nx' ab lv i := by
  obtain ⟨⟨h1, h2⟩, h3, h4⟩ := h
  have ec : c = A r := by omega
  have k3 := ctl_kid (ab := ab) (lv := lv) (n := A r) (l := lv i) (i := i) (i' := i + 1) rfl (by omega) rfl
  refine ⟨h1, ?_⟩
  rw [k3, ← ec]
  rw [ec] at h2 ⊢
  rcases hv with ⟨_, e⟩ | ⟨q, ea, eb, e1, e2⟩
  · exact trt_put (a := 0) (b := 0) h2 hs (Or.inl e)
  · have w := h4.resolve_left (by omega)
    exact trt_put (a := f) (b := l) h2 hs (Or.inr ⟨⟨by omega, by omega⟩, ⟨by omega, by omega⟩, by omega, by omega⟩)
-- the whole tree: roots, hanging
def hlv (lv : Int → Int) (c : Int) : Int := if 0 ≤ lv c then 1 else 0
def RTPT (pt root : Int → Int) (k : Int) : Prop := ∀ q, 0 ≤ q → q < k → pt (root q) = q
def RTI (pt root : Int → Int) (k : Int) : Prop := RTPT pt root k ∧ (root k = -1 ∨ pt (root k) = k)
def LVZ (pt lv root : Int → Int) (n p : Int) : Prop := (∀ c, 0 ≤ c → c < n → 0 ≤ lv c → pt c < p) ∧ (∀ q, 0 ≤ q → q < p → 0 ≤ root q ∧ lv (root q) = 0) ∧ p ≤ pxs (hlv lv) n
def BFS (r : Int) (A ab lv pt root : Int → Int) (many : Int) : Prop := (∀ q, 0 ≤ q → q < many → (0 ≤ root q ∧ root q < A r) ∧ lv (root q) = 0 ∧ pt (root q) = q) ∧ pxs (hang ab) (A r) + many ≤ pxs (hlv lv) (A r) ∧ LVE (A r) ab lv ∧ 0 ≤ A r ∧ A r ≤ 24
theorem rti_step {k : Int} {pt root root' : Int → Int} {s v : Int} (h : RTI pt root k) (hs : st1 root root' s v) (hss : s = k) (k0 : 0 ≤ k) (hv : v = -1 ∨ pt v = k) : RTI pt root' k := by
  refine ⟨fun q a b => ?_, ?_⟩
  · rw [(hs q a).2 (by omega)]; exact h.1 q a b
  · rw [(hs k k0).1 (by omega)]; exact hv
theorem rti_of {k : Int} {pt root root' : Int → Int} {s v : Int} (h : RTPT pt root k) (hs : st1 root root' s v) (hss : s = k) (k0 : 0 ≤ k) (hv : v = -1) : RTI pt root' k := by
  refine ⟨fun q a b => ?_, ?_⟩
  · rw [(hs q a).2 (by omega)]; exact h q a b
  · rw [(hs k k0).1 (by omega)]; exact Or.inl hv
theorem rtp_next {k k' : Int} {pt root : Int → Int} (h : RTI pt root k) (hk : k' = k + 1) (k1 : 0 ≤ root k) : RTPT pt root k' := by
  intro q a b
  by_cases e : q = k
  · rw [e]; exact h.2.resolve_left (by omega)
  · exact h.1 q a (by omega)
theorem lvz_start {pt lv ab root : Int → Int} {n m p : Int} (h : ∀ c, 0 ≤ c → c < n → lv c = -1) (hp : p = 0) : LVZ pt lv root n p := by
  refine ⟨fun c a b d => ?_, fun q a b => ?_, ?_⟩
  · have := h c a b; exfalso; omega
  · exfalso; omega
  · rw [hp]; exact pxs_lb n (fun c => by unfold hlv; by_cases w : 0 ≤ lv c; rw [if_pos w]; omega; rw [if_neg w]; omega)
theorem lvz_step {pt lv lv' root : Int → Int} {n p p' s v : Int} (h : LVZ pt lv root n p) (hr : pt (root p) = p) (r0 : 0 ≤ root p) (r1 : root p < n) (hp : p' = p + 1) (hs : st1 lv lv' s v) (hss : s = root p) (hv : v = 0) : LVZ pt lv' root n p' := by
  have ng : lv (root p) < 0 := by
    by_cases w : 0 ≤ lv (root p)
    · have := h.1 _ r0 r1 w; omega
    · omega
  refine ⟨fun c a b d => ?_, fun q a b => ?_, ?_⟩
  · by_cases q : c = root p
    · rw [q, hr]; omega
    · rw [(hs c a).2 (by omega)] at d
      have := h.1 c a b d; omega
  · by_cases e : root q = root p
    · rw [e]; exact ⟨r0, by rw [(hs _ r0).1 hss.symm]; exact hv⟩
    · by_cases e2 : q = p
      · exact absurd (congrArg root e2) e
      · have z := h.2.1 q a (by omega)
        exact ⟨z.1, by rw [(hs _ z.1).2 (by omega)]; exact z.2⟩
  · have := pxs_one (f := hlv lv) (g := hlv lv') (x := root p) (d := 1) n (fun c a b q => by unfold hlv; rw [(hs c a).2 (by omega)]) r0 r1 (by
      unfold hlv
      rw [(hs _ r0).1 hss.symm, if_pos (by omega), if_neg (by omega)]; omega)
    have := h.2.2
    omega
theorem hang_0 {ab : Int → Int} (n : Int) (h : ∀ c, 0 ≤ c → c < n → ab c = -1) : pxs (hang ab) n = 0 := by
  have a : pxs (hang ab) n ≤ pxs (fun _ => 0) n := pxs_mono n (fun c a b => by unfold hang; rw [if_neg (by have := h c a b; omega)]; omega)
  have b : 0 ≤ pxs (hang ab) n := pxs_lb n (fun c => by unfold hang; by_cases w : 0 ≤ ab c; rw [if_pos w]; omega; rw [if_neg w]; omega)
  have c : ∀ m : Int, pxs (fun _ => (0 : Int)) m = 0 := by
    intro m
    refine pxs_ind (P := fun m => pxs (fun _ => (0 : Int)) m = 0) (fun m hm => pxs_0 hm) (fun m hm ih => by rw [pxs_S hm, ih]; omega) m
  have := c n
  omega
theorem bfs_start {r n many : Int} {A ab lv pt root : Int → Int} (h : LVZ pt lv root n many) (hp : RTPT pt root many) (hr : RTK root n many) (ha : ABI ab lv n) (hn : n = A r) (n0 : 0 ≤ n) (n1 : n ≤ 24) : BFS r A ab lv pt root many := by
  subst hn
  refine ⟨fun q a b => ⟨hr q a b, (h.2.1 q a b).2, hp q a b⟩, ?_, ?_, n0, n1⟩
  · rw [hang_0 _ (fun c a b => (ha c a b).1)]
    have := h.2.2
    omega
  · intro j a b
    have := ha j a b
    exact ⟨fun q => by omega, fun q => by omega⟩
theorem bfs_hang {r many i f p v q w u : Int} {A ab ab' lv lv' pt root : Int → Int} (h : BFS r A ab lv pt root many) (i0 : 0 ≤ i) (i1 : i < A r) (f0 : 0 ≤ f) (f1 : f < A r) (hi : lv i < 0) (hf : 0 ≤ lv f) (hs : st1 ab ab' p v) (hp : p = i) (hv : v = f) (ht : st1 lv lv' q w) (hq : q = i) (hu : u = lv f) (hw : w = u + 1) : BFS r A ab' lv' pt root many := by
  obtain ⟨h1, h2, h3, h4⟩ := h
  rw [hp, hv] at hs
  rw [hq] at ht
  have hab : ab i < 0 := by
    by_cases z : 0 ≤ ab i
    · have := ((h3 i i0 i1).2 z); omega
    · omega
  have up : ∀ j, 0 ≤ j → j ≠ i → lv' j = lv j := fun j a b => (ht j a).2 b
  have ua : ∀ j, 0 ≤ j → j ≠ i → ab' j = ab j := fun j a b => (hs j a).2 b
  have ep : lv' i = w := (ht i i0).1 rfl
  have ea : ab' i = f := (hs i i0).1 rfl
  refine ⟨fun q a b => ?_, ?_, ?_, h4⟩
  · have z := h1 q a b
    refine ⟨z.1, ?_, z.2.2⟩
    rw [up _ z.1.1 (fun e => by rw [e] at z; omega)]
    exact z.2.1
  · have e1 := pxs_one (f := hang ab) (g := hang ab') (x := i) (d := 1) (A r) (fun c a b q => by unfold hang; rw [ua c a q]) i0 i1 (by
      unfold hang; rw [ea, if_pos f0, if_neg (by omega)]; omega)
    have e2 := pxs_one (f := hlv lv) (g := hlv lv') (x := i) (d := 1) (A r) (fun c a b q => by unfold hlv; rw [up c a q]) i0 i1 (by
      unfold hlv; rw [ep, if_pos (by omega), if_neg (by omega)]; omega)
    omega
  · intro j a b
    have vp : f ≠ i := fun e => by rw [e] at hf; omega
    by_cases e : j = i
    · subst e
      rw [ep, ea, up f f0 vp]
      exact ⟨fun _ => f0, fun _ => ⟨⟨hf, f1⟩, by omega⟩⟩
    · rw [up j a e, ua j a e]
      refine ⟨(h3 j a b).1, fun z => ?_⟩
      have y := (h3 j a b).2 z
      rw [up _ z (fun e2 => by rw [e2] at y; omega)]
      exact y
-- going down the levels, then the roots
def TL7 (r : Int) (A nx ab lv : Int → Int) (l i : Int) : Prop := TRT (A r) nx (CTL ab lv (A r) l i)
def TL3 (r : Int) (A nx ab lv : Int → Int) (l : Int) : Prop := TRT (A r) nx (CTL ab lv (A r) l 0)
def TLR (r : Int) (A nx ab : Int → Int) (p : Int) : Prop := TRT (A r) nx (pxs (hang ab) (A r) + p - 1)
def NX0 (nx : Int → Int) (i : Int) : Prop := ∀ j, 0 ≤ j → j < i → nx j = 0
theorem nx0_step {nx nx' : Int → Int} {i i' s v : Int} (h : NX0 nx i) (hi : i' = i + 1) (hs : st1 nx nx' s v) (hss : s = i) (hv : v = 0) : NX0 nx' i' := by
  intro j a b
  by_cases e : j = i
  · rw [(hs j a).1 (by omega)]; exact hv
  · rw [(hs j a).2 (by omega)]; exact h j a (by omega)
theorem tl3_start {r n l : Int} {A nx ab lv : Int → Int} (h : NX0 nx n) (hn : n = A r) : TL3 r A nx ab lv l := by
  refine ⟨ctl_0, 0, 0, ⟨by omega, by omega⟩, ?_, fun j a b => ?_⟩
  · have := pow_le2 (a := 0) (b := (CTL ab lv (A r) l 0).toNat) (by omega)
    have e : (2 : Int) ^ 0 = 1 := rfl
    omega
  · rw [h j a (by omega)]; omega
theorem tl7_start {r l i : Int} {A nx ab lv : Int → Int} (h : TL3 r A nx ab lv l) (hi : i = 0) : TL7 r A nx ab lv l i := by subst hi; exact h
theorem tl7_skip {r l i i' : Int} {A nx ab lv : Int → Int} (h : TL7 r A nx ab lv l i) (hi : i ≤ i') : TL7 r A nx ab lv l i' := trt_le h (ctl_le (Or.inr ⟨rfl, hi⟩))
theorem tl7_cha {r l i many : Int} {A nx ab lv pt root : Int → Int} (h : TL7 r A nx ab lv l i) (hb : BFS r A ab lv pt root many) (i0 : 0 ≤ i) (i1 : i < A r) (hl : lv i = l) (l0 : 0 ≤ l) : CHA r A nx ab lv i := by
  subst hl
  exact ⟨⟨hb.2.2.1, hb.2.2.2, l0, i0, i1⟩, h⟩
theorem tl7_chb {r l i i' : Int} {A nx ab lv : Int → Int} (h : CHB r A nx ab lv i) (hl : lv i = l) (hi : i' = i + 1) : TL7 r A nx ab lv l i' := by
  subst hl hi; exact h.2
theorem tl3_next {r l l' i : Int} {A nx ab lv : Int → Int} (h : TL7 r A nx ab lv l i) (hl : l' = l - 1) : TL3 r A nx ab lv l' := trt_le h (ctl_le (Or.inl (by omega)))
theorem tlr_start {r l p : Int} {A nx ab lv : Int → Int} (h : TL3 r A nx ab lv l) (hp : p = 1) : TLR r A nx ab p := by
  subst hp
  refine trt_le h ?_
  have := ctl_all (ab := ab) (lv := lv) (n := A r) (l := l) (i := 0)
  omega
theorem tlr_pre {r p c many : Int} {A nx ab lv pt root : Int → Int} (h : TLR r A nx ab p) (hb : BFS r A ab lv pt root many) (p1 : 1 ≤ p) (p2 : p < many) (hc : c = root p) (x : Int) : TRAA r A nx ab lv pt x c many ∧ NEP r A ab lv pt x c many := by
  obtain ⟨h1, h2, h3, h4, h5⟩ := hb
  have a := h1 p (by omega) p2
  have b := h1 0 (by omega) (by omega)
  rw [← hc] at a
  have e : TTn ab lv pt (A r) x c many = pxs (hang ab) (A r) + p - 1 := by unfold TTn; rw [if_neg (by omega), a.2.2]
  have ub := pxs_ub (f := hlv lv) (A r) h4 (fun c => by unfold hlv; by_cases w : 0 ≤ lv c; rw [if_pos w]; omega; rw [if_neg w]; omega)
  refine ⟨⟨by rw [e]; exact h, by rw [e]; omega⟩, root 0, ⟨a.1, b.1.1, b.1.2, fun q => ?_⟩, ⟨by omega, by omega, by omega⟩, Or.inl ⟨by omega, by omega⟩⟩
  rw [q] at b; omega
theorem tlr_next {r p p' c many x : Int} {A nx ab lv pt root : Int → Int} (hz : TRZ r A nx ab lv pt x c many) (hb : BFS r A ab lv pt root many) (p1 : 1 ≤ p) (p2 : p < many) (hc : c = root p) (hp : p' = p + 1) : TLR r A nx ab p' := by
  have a := hb.1 p (by omega) p2
  rw [← hc] at a
  unfold TRZ at hz
  have e : TTn ab lv pt (A r) x c many + 1 = pxs (hang ab) (A r) + p' - 1 := by unfold TTn; rw [if_neg (by omega), a.2.2]; omega
  rw [e] at hz
  exact hz
def TND (n : Int) (nx : Int → Int) : Prop := NBD nx n (-67108864) 67108864
theorem tnd_of {r p n many : Int} {A nx ab lv pt root : Int → Int} (h : TLR r A nx ab p) (hb : BFS r A ab lv pt root many) (hp : p ≤ many ∨ p ≤ 1) (hn : n = A r) (m0 : 0 ≤ many) : NBD nx n (-67108864) 67108864 := by
  subst hn
  obtain ⟨h1, h2, h3, h4, h5⟩ := hb
  have ub := pxs_ub (f := hlv lv) (A r) h4 (fun c => by unfold hlv; by_cases w : 0 ≤ lv c; rw [if_pos w]; omega; rw [if_neg w]; omega)
  exact fun j a b => trt_bd4 h (by omega) a b
def TNI (nx : Int → Int) (n i : Int) : Prop := NBD nx n (-70000000) 140000000 ∧ ∀ j, i ≤ j → 0 ≤ j → j < n → -67108864 ≤ nx j ∧ nx j ≤ 67108864
theorem tni_step {n i i' s v : Int} {nx nx' : Int → Int} (h : TNI nx n i) (hi : i' = i + 1) (hs : st1 nx nx' s v) (hss : s = i) (v0 : -70000000 ≤ v) (v1 : v ≤ 140000000) : TNI nx' n i' := by
  refine ⟨nbd_st h.1 hs (by omega) (by omega) (by omega) v0 v1, ?_⟩
  intro j a b c
  rw [(hs j b).2 (by omega)]
  exact h.2 j (by omega) b c
def TNB (nx : Int → Int) (n : Int) : Prop := NBD nx n (-67108864) 67108864
def LVN (lv : Int → Int) (i : Int) : Prop := ∀ j, 0 ≤ j → j < i → lv j = -1
theorem lvn_step {lv lv' : Int → Int} {i i' s v : Int} (h : LVN lv i) (hi : i' = i + 1) (hs : st1 lv lv' s v) (hss : s = i) (hv : v = -1) : LVN lv' i' := by
  intro j a b
  by_cases e : j = i
  · rw [(hs j a).1 (by omega)]; exact hv
  · rw [(hs j a).2 (by omega)]; exact h j a (by omega)
theorem rtp_store {k k' s v : Int} {pt root root' : Int → Int} (h : RTI pt root k) (k0 : 0 ≤ k) (hk : k' = k + 1) (hs : st1 root root' s v) (hss : s = k) (v0 : 0 ≤ v) (hv : pt v = k) : RTPT pt root' k' := by
  refine rtp_next (rti_step h hs hss k0 (Or.inr hv)) hk ?_
  rw [(hs k k0).1 (by omega)]; exact v0
theorem ch7_bd {r i f l c j : Int} {A nx ab lv : Int → Int} (h : CH7 r A nx ab lv i f l c) (hc : A r ≤ c) (j0 : 0 ≤ j) (j1 : j < A r) : -67108864 ≤ nx j ∧ nx j ≤ 67108864 := by
  obtain ⟨⟨h1, h2⟩, h3, h4⟩ := h
  refine trt_bd4 h2 ?_ j0 j1
  have k3 := ctl_kid (ab := ab) (lv := lv) (n := A r) (l := lv i) (i := i) (i' := i + 1) rfl (by omega) rfl
  have k4 := ctl_all (ab := ab) (lv := lv) (n := A r) (l := lv i) (i := i + 1)
  have k5 := pxs_ub (f := hang ab) (A r) (by omega) (fun c => by unfold hang; by_cases w : 0 ≤ ab c; rw [if_pos w]; omega; rw [if_neg w]; omega)
  rw [show c = A r by omega]
  omega
theorem ab_hang {r i f p v q w u : Int} {A ab ab' lv lv' : Int → Int} (h : ∀ j0 : Int, 0 ≤ j0 → j0 < 24 → ((j0 + 1) ≤ A r → ((-1) ≤ lv j0 ∧ (lv j0 ≤ 24 ∧ (0 ≤ ab j0 → ((ab j0 + 1) ≤ A r ∧ (0 ≤ lv (ab j0) ∧ (lv (ab j0) + 1) ≤ lv j0))))))) (i0 : 0 ≤ i) (i1 : i < A r) (f0 : 0 ≤ f) (f1 : f < A r) (f3 : f < 24) (hi : lv i < 0) (hf : 0 ≤ lv f) (hf2 : lv f ≤ 23) (hs : st1 ab ab' p v) (hp : p = i) (hv : v = f) (ht : st1 lv lv' q w) (hq : q = i) (hu : u = lv f) (hw : w = u + 1) : ∀ j0 : Int, 0 ≤ j0 → j0 < 24 → ((j0 + 1) ≤ A r → ((-1) ≤ lv' j0 ∧ (lv' j0 ≤ 24 ∧ (0 ≤ ab' j0 → ((ab' j0 + 1) ≤ A r ∧ (0 ≤ lv' (ab' j0) ∧ (lv' (ab' j0) + 1) ≤ lv' j0)))))) := by
  rw [hp, hv] at hs
  rw [hq] at ht
  have fi : f ≠ i := fun e => by rw [e] at hf; omega
  have lf : lv' f = lv f := (ht f f0).2 fi
  intro j a b c
  have o := h j a b c
  by_cases e : j = i
  · subst e
    rw [(ht j a).1 rfl, (hs j a).1 rfl, lf]
    omega
  · rw [(ht j a).2 e, (hs j a).2 e]
    refine ⟨o.1, o.2.1, fun z => ?_⟩
    have y := o.2.2 z
    rw [(ht _ z).2 (fun e2 => by rw [e2] at y; omega)]
    exact y
