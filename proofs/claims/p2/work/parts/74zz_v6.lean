-- the class's areas: boxes in 0 .. 512
def BXA (A : Int → Int) : Prop := ∀ q, 0 ≤ q → q < 8 → HUL (A (4 * (24 + q))) (A (4 * (24 + q) + 2)) ∧ HUL (A (4 * (24 + q) + 1)) (A (4 * (24 + q) + 3))
def SPC (S : Int → Int) : Prop := HUL (S 0) (S 2) ∧ HUL (S 1) (S 3)
def BXC (d s : Int → Int) (sp dp n : Int) : Prop := BXA s ∧ dp = 0 ∧ n = 4 ∧ ∃ q, 0 ≤ q ∧ q < 8 ∧ sp = 4 * (24 + q)
def BXD (d s : Int → Int) (sp dp n : Int) : Prop := SPC d ∧ BXA s
theorem bxc_le {Dd S : Int → Int} {sp dp n : Int} (_ : 0 ≤ sp) (_ : 0 ≤ dp) (_ : 0 ≤ n) (h : BXC Dd S sp dp n) : ∀ j, 0 ≤ j → j < n → -512 ≤ S (sp + j) ∧ S (sp + j) ≤ 512 := by
  obtain ⟨ha, _, hn, q, q0, q1, hs⟩ := h
  intro j j0 j1
  have g := ha q q0 q1
  obtain ⟨⟨⟨a, b⟩, c, d⟩, ⟨e, f⟩, u, v⟩ := g
  have : j = 0 ∨ j = 1 ∨ j = 2 ∨ j = 3 := by omega
  rw [hs]
  rcases this with rfl | rfl | rfl | rfl
  · rw [Int.add_zero]; omega
  · omega
  · omega
  · omega
theorem bxc_bxd {Dd S D' S' : Int → Int} {sp dp n : Int} (_ : 0 ≤ sp) (_ : 0 ≤ dp) (_ : 0 ≤ n) (h1 : ∀ j, 0 ≤ j → D' j = if dp ≤ j ∧ j < dp + n then S (sp + (j - dp)) else Dd j) (h2 : (∀ j, S' j = S j) ∨ ((∀ j, S' j = D' j) ∧ ∀ j, S j = Dd j)) (h : BXC Dd S sp dp n) : BXD D' S' sp dp n := by
  obtain ⟨ha, hd, hn, q, q0, q1, hs⟩ := h
  have g := ha q q0 q1
  have d0 := h1 0 (by omega)
  have d1 := h1 1 (by omega)
  have d2 := h1 2 (by omega)
  have d3 := h1 3 (by omega)
  rw [if_pos (by omega), hs, hd] at d0 d1 d2 d3
  have r0 : D' 0 = S (4 * (24 + q)) := by rw [d0]; congr 1; omega
  have r1 : D' 1 = S (4 * (24 + q) + 1) := by rw [d1]; congr 1
  have r2 : D' 2 = S (4 * (24 + q) + 2) := by rw [d2]; congr 1
  have r3 : D' 3 = S (4 * (24 + q) + 3) := by rw [d3]; congr 1
  refine ⟨?_, ?_⟩
  · unfold SPC; rw [r0, r1, r2, r3]; exact g
  · rcases h2 with e | ⟨e, f⟩
    · intro p p0 p1
      rw [e, e, e, e]; exact ha p p0 p1
    · intro p p0 p1
      have z : ∀ j : Int, 96 ≤ j → S' j = S j := fun j hj => by
        rw [e, h1 j (by omega), if_neg (by omega), f]
      rw [z _ (by omega), z _ (by omega), z _ (by omega), z _ (by omega)]
      exact ha p p0 p1
theorem bxa_0 {A : Int → Int} (h : ∀ j, 0 ≤ j → j < 128 → A j = 0) : BXA A := by
  intro q a b
  rw [h _ (by omega) (by omega), h _ (by omega) (by omega), h _ (by omega) (by omega), h _ (by omega) (by omega)]
  exact ⟨⟨⟨by omega, by omega⟩, by omega, by omega⟩, ⟨by omega, by omega⟩, by omega, by omega⟩
theorem bxa_set {A0 A1 A2 A3 A4 : Int → Int} {i p0 p1 p2 p3 x y w h : Int} (hb : BXA A0) (i0 : 0 ≤ i) (hx : HUL x w) (hy : HUL y h) (s0 : st1 A0 A1 p0 x) (s1 : st1 A1 A2 p1 y) (s2 : st1 A2 A3 p2 w) (s3 : st1 A3 A4 p3 h) (e0 : p0 = 4 * i) (e1 : p1 = 4 * i + 1) (e2 : p2 = 4 * i + 2) (e3 : p3 = 4 * i + 3) : BXA A4 := by
  intro q a b
  by_cases c : 24 + q = i
  · subst c
    rw [(s3 (4 * (24 + q)) (by omega)).2 (by omega), (s2 (4 * (24 + q)) (by omega)).2 (by omega), (s1 (4 * (24 + q)) (by omega)).2 (by omega), (s0 (4 * (24 + q)) (by omega)).1 (by omega)]
    rw [(s3 (4 * (24 + q) + 1) (by omega)).2 (by omega), (s2 (4 * (24 + q) + 1) (by omega)).2 (by omega), (s1 (4 * (24 + q) + 1) (by omega)).1 (by omega)]
    rw [(s3 (4 * (24 + q) + 2) (by omega)).2 (by omega), (s2 (4 * (24 + q) + 2) (by omega)).1 (by omega), (s3 (4 * (24 + q) + 3) (by omega)).1 (by omega)]
    exact ⟨hx, hy⟩
  · have r : ∀ d : Int, 0 ≤ d → d < 4 → A4 (4 * (24 + q) + d) = A0 (4 * (24 + q) + d) := fun d d0 d1 => by
      rw [(s3 _ (by omega)).2 (by omega), (s2 _ (by omega)).2 (by omega), (s1 _ (by omega)).2 (by omega), (s0 _ (by omega)).2 (by omega)]
    have r0 := r 0 (by omega) (by omega)
    rw [Int.add_zero] at r0
    rw [r0, r 1 (by omega) (by omega), r 2 (by omega) (by omega), r 3 (by omega) (by omega)]
    exact hb q a b
-- sums of sizes that are not below 0
theorem pxs_up {f : Int → Int} {a b : Int} (h : ∀ j, a ≤ j → j < b → 0 ≤ f j) (a0 : 0 ≤ a) (ab : a ≤ b) : pxs f a ≤ pxs f b := by
  have key : ∀ b : Int, (∀ j, a ≤ j → j < b → 0 ≤ f j) → a ≤ b → pxs f a ≤ pxs f b := by
    intro b
    refine pxs_ind (P := fun b => (∀ j, a ≤ j → j < b → 0 ≤ f j) → a ≤ b → pxs f a ≤ pxs f b) ?_ ?_ b
    · intro n hn _ hab; rw [show a = n by omega]; omega
    · intro n hn ih h1 hab
      by_cases e : a = n + 1
      · rw [e]; omega
      · rw [pxs_S hn]
        have := ih (fun j p q => h1 j p (by omega)) (by omega)
        have := h1 n (by omega) (by omega)
        omega
  exact key b h ab
theorem pxs_2400 {f : Int → Int} {b : Int} (h : ∀ j, 0 ≤ j → j < b → 0 ≤ f j ∧ f j ≤ 2400) (b0 : 0 ≤ b) : pxs f b ≤ 2400 * b := by
  have key : ∀ b : Int, (∀ j, 0 ≤ j → j < b → 0 ≤ f j ∧ f j ≤ 2400) → 0 ≤ b → pxs f b ≤ 2400 * b := by
    intro b
    refine pxs_ind (P := fun b => (∀ j, 0 ≤ j → j < b → 0 ≤ f j ∧ f j ≤ 2400) → 0 ≤ b → pxs f b ≤ 2400 * b) ?_ ?_ b
    · intro n hn _ hab; rw [pxs_0 hn]; omega
    · intro n hn ih h1 hab
      rw [pxs_S hn]
      have := ih (fun j p q => h1 j p (by omega)) hn
      have := h1 n hn (by omega)
      omega
  exact key b h b0
def SZB (f : Int → Int) : Prop := ∀ j, 0 ≤ j → j < 32 → 0 ≤ f j ∧ f j ≤ 2400
def RWS6 (is : Int → Int) (a b s t : Int) : Prop := (0 ≤ a ∧ a ≤ b ∧ b ≤ 32) ∧ s = pxs is b - pxs is a ∧ 0 ≤ s ∧ s ≤ t ∧ t ≤ 76800
def RWK (is : Int → Int) (a b s k p : Int) : Prop := (0 ≤ a ∧ a ≤ b ∧ b ≤ 32) ∧ s = pxs is b - pxs is a ∧ s ≤ 76800 ∧ (a ≤ k ∧ k ≤ b) ∧ p = pxs is k - pxs is a
def RWA (S : Int → Int) (t a c : Int) : Prop := (t ≠ 0 ∧ a = S 2 ∧ BTW c (S 3)) ∨ (t = 0 ∧ a = S 3 ∧ BTW c (S 2))
def RT16 (m : Int) (is : Int → Int) (k t : Int) : Prop := (0 ≤ k ∧ k ≤ m ∧ m ≤ 32) ∧ t = pxs is k
def RT26 (m : Int) (is : Int → Int) (a t : Int) : Prop := (0 ≤ a ∧ a ≤ m ∧ m ≤ 32) ∧ t = pxs is m - pxs is a
def RT36 (m : Int) (is : Int → Int) (a b k s t : Int) : Prop := (0 ≤ a ∧ a ≤ k ∧ k ≤ b ∧ b ≤ m ∧ m ≤ 32) ∧ s = pxs is k - pxs is a ∧ t = pxs is m - pxs is a
theorem rt1_bd {m k t : Int} {is : Int → Int} (h : RT16 m is k t) (z : SZB is) : 0 ≤ t ∧ t ≤ 76800 := by
  obtain ⟨a, e⟩ := h
  have p := pxs_up (f := is) (a := 0) (b := k) (fun j u v => (z j u (by omega)).1) (by omega) (by omega)
  have q := pxs_2400 (f := is) (b := k) (fun j u v => z j u (by omega)) (by omega)
  rw [pxs_0 (n := 0) (by omega)] at p
  omega
theorem rt1_step {m k t k' t' v : Int} {is : Int → Int} (h : RT16 m is k t) (km : k < m) (hv : v = is k) (hk : k' = k + 1) (ht : t' = t + v) : RT16 m is k' t' := by
  refine ⟨by have := h.1; omega, ?_⟩
  rw [hk, pxs_S h.1.1, ht, h.2, hv]
theorem rt2_start {m k t a : Int} {is : Int → Int} (h : RT16 m is k t) (km : m ≤ k) (ha : a = 0) : RT26 m is a t := by
  refine ⟨by have := h.1; omega, ?_⟩
  rw [h.2, show k = m by have := h.1; omega, ha, pxs_0 (n := 0) (by omega)]; omega
theorem rt3_start {m a t b k s : Int} {is : Int → Int} (h : RT26 m is a t) (hb : a ≤ b) (bm : b ≤ m) (hk : k = a) (hs : s = 0) : RT36 m is a b k s t := by
  refine ⟨by have := h.1; omega, ?_, h.2⟩
  rw [hk, hs]; omega
theorem rt3_step {m a t b k s k' s' v : Int} {is : Int → Int} (h : RT36 m is a b k s t) (kb : k < b) (hv : v = is k) (hk : k' = k + 1) (hs : s' = s + v) : RT36 m is a b k' s' t := by
  refine ⟨by have := h.1; omega, ?_, h.2.2⟩
  rw [hk, pxs_S (by have := h.1; omega), hs, h.2.1, hv]; omega
theorem rt3_bd {m a t b k s : Int} {is : Int → Int} (h : RT36 m is a b k s t) (z : SZB is) : (0 ≤ s ∧ s ≤ t) ∧ t ≤ 76800 := by
  obtain ⟨q, hs, ht⟩ := h
  have p1 := pxs_up (f := is) (a := a) (b := k) (fun j u v => (z j (by omega) (by omega)).1) (by omega) (by omega)
  have p2 := pxs_up (f := is) (a := k) (b := m) (fun j u v => (z j (by omega) (by omega)).1) (by omega) (by omega)
  have p3 := pxs_up (f := is) (a := 0) (b := a) (fun j u v => (z j (by omega) (by omega)).1) (by omega) (by omega)
  have p4 := pxs_2400 (f := is) (b := m) (fun j u v => z j u (by omega)) (by omega)
  rw [pxs_0 (n := 0) (by omega)] at p3
  omega
theorem rt3_rws {m a t b k s : Int} {is : Int → Int} (h : RT36 m is a b k s t) (kb : b ≤ k) (z : SZB is) : RWS6 is a b s t := by
  have g := rt3_bd h z
  obtain ⟨q, hs, ht⟩ := h
  refine ⟨by omega, ?_, g.1.1, g.1.2, g.2⟩
  rw [hs, show k = b by omega]
theorem rt2_next {m a t b k s a' t' : Int} {is : Int → Int} (h : RT36 m is a b k s t) (kb : b ≤ k) (ha : a' = b) (ht : t' = t - s) : RT26 m is a' t' := by
  obtain ⟨q, hs, e⟩ := h
  refine ⟨by omega, ?_⟩
  rw [ht, hs, e, ha, show k = b by omega]; omega
theorem rwk_start {a b s t k p : Int} {is : Int → Int} (h : RWS6 is a b s t) (hk : k = a) (hp : p = 0) : RWK is a b s k p := by
  obtain ⟨q, hs, s0, s1, t1⟩ := h
  refine ⟨q, hs, by omega, by omega, ?_⟩
  rw [hk, hp]; omega
theorem rwk_step {a b s k p k' p' v : Int} {is : Int → Int} (h : RWK is a b s k p) (kb : k < b) (hv : v = is k) (hk : k' = k + 1) (hp : p' = p + v) : RWK is a b s k' p' := by
  obtain ⟨q, hs, s1, r, e⟩ := h
  refine ⟨q, hs, s1, by omega, ?_⟩
  rw [hk, pxs_S (by omega), hp, e, hv]; omega
theorem rwk_bd {a b s k p : Int} {is : Int → Int} (h : RWK is a b s k p) (z : SZB is) : 0 ≤ p ∧ p ≤ s ∧ s ≤ 76800 := by
  obtain ⟨q, hs, s1, r, e⟩ := h
  have p1 := pxs_up (f := is) (a := a) (b := k) (fun j u v => (z j (by omega) (by omega)).1) (by omega) (by omega)
  have p2 := pxs_up (f := is) (a := k) (b := b) (fun j u v => (z j (by omega) (by omega)).1) (by omega) (by omega)
  omega
theorem btw_q {a o u z p : Int} (hz : z = Int.tdiv p u) (hp : p = a * o) (o0 : 0 ≤ o) (o1 : o ≤ u) (u0 : 0 < u) : BTW z a := by
  rw [hp] at hz; exact btw_div o0 o1 u0 hz
theorem spc_top {S S1 S2 : Int → Int} {c p q v w a b : Int} (h : SPC S) (hc : BTW c (S 3)) (s1 : st1 S S1 p v) (s2 : st1 S1 S2 q w) (hp : p = 1) (hq : q = 3) (ha : a = S 1) (hv : v = a + c) (hb : b = S1 3) (hw : w = b - c) : SPC S2 := by
  have e3 : S1 3 = S 3 := (s1 3 (by omega)).2 (by omega)
  have n0 : S2 0 = S 0 := by rw [(s2 0 (by omega)).2 (by omega), (s1 0 (by omega)).2 (by omega)]
  have n2 : S2 2 = S 2 := by rw [(s2 2 (by omega)).2 (by omega), (s1 2 (by omega)).2 (by omega)]
  have n1 : S2 1 = v := by rw [(s2 1 (by omega)).2 (by omega), (s1 1 (by omega)).1 (by omega)]
  have n3 : S2 3 = w := by rw [(s2 3 (by omega)).1 (by omega)]
  unfold SPC
  rw [n0, n1, n2, n3]
  exact ⟨h.1, hul_st h.2 hc (by omega) (by omega)⟩
theorem spc_side {S S1 S2 : Int → Int} {c p q v w a b : Int} (h : SPC S) (hc : BTW c (S 2)) (s1 : st1 S S1 p v) (s2 : st1 S1 S2 q w) (hp : p = 0) (hq : q = 2) (ha : a = S 0) (hv : v = a + c) (hb : b = S1 2) (hw : w = b - c) : SPC S2 := by
  have e3 : S1 2 = S 2 := (s1 2 (by omega)).2 (by omega)
  have n1 : S2 1 = S 1 := by rw [(s2 1 (by omega)).2 (by omega), (s1 1 (by omega)).2 (by omega)]
  have n3 : S2 3 = S 3 := by rw [(s2 3 (by omega)).2 (by omega), (s1 3 (by omega)).2 (by omega)]
  have n0 : S2 0 = v := by rw [(s2 0 (by omega)).2 (by omega), (s1 0 (by omega)).1 (by omega)]
  have n2 : S2 2 = w := by rw [(s2 2 (by omega)).1 (by omega)]
  unfold SPC
  rw [n0, n1, n2, n3]
  exact ⟨hul_st h.1 hc (by omega) (by omega), h.2⟩
