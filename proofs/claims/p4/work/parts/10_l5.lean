/-! reaching, strong, orders, turnEdges: the edges as they are turned have no ring -/
def WRE (r : Int) (A R : Int → Int) : Prop := (∀ i, 0 ≤ i → i < A r → R (24 * i + i) ≠ 0) ∧ ∀ e, 0 ≤ e → e < A (r + 1) → R (24 * A (r + 267 + e) + A (r + 315 + e)) ≠ 0
def WT (r : Int) (A R : Int → Int) (k : Int) : Prop := ∀ c, 0 ≤ c → c < k → ∀ i j, 0 ≤ i → i < A r → 0 ≤ j → j < A r → R (24 * i + c) ≠ 0 → R (24 * c + j) ≠ 0 → R (24 * i + j) ≠ 0
def WEN (r : Int) (A R : Int → Int) : Prop := (A r ≤ 24 ∧ SG A r) ∧ WRE r A R ∧ WT r A R (A r)
def WR1 (R : Int → Int) (k : Int) : Prop := ∀ i, 0 ≤ i → i < k → R (24 * i + i) ≠ 0
def WR2 (r : Int) (A R : Int → Int) (k : Int) : Prop := (∀ i, 0 ≤ i → i < A r → R (24 * i + i) ≠ 0) ∧ ∀ e, 0 ≤ e → e < k → R (24 * A (r + 267 + e) + A (r + 315 + e)) ≠ 0
theorem ne0_st {R R' : Int → Int} {p v x : Int} (hs : st1 R R' p v) (hv : v ≠ 0) (x0 : 0 ≤ x) (h : R x ≠ 0) : R' x ≠ 0 := by
  by_cases e : x = p
  · rw [(hs x x0).1 e]; exact hv
  · rw [(hs x x0).2 e]; exact h
theorem wr1_step {R R' : Int → Int} {k k' p v : Int} (h : WR1 R k) (k0 : 0 ≤ k) (hk : k' = k + 1) (hs : st1 R R' p v) (hp : p = 24 * k + k) (hv : v = 1) : WR1 R' k' := by
  intro i a b
  by_cases e : i = k
  · rw [(hs _ (by omega)).1 (by rw [hp, e])]; omega
  · exact ne0_st hs (by omega) (by omega) (h i a (by omega))
theorem wr2_start {r : Int} {A R : Int → Int} {k i : Int} (h : WR1 R i) (hi : A r ≤ i) (hk : k = 0) : WR2 r A R k := ⟨fun j a b => h j a (by omega), fun e a b => by omega⟩
theorem wr2_step {r : Int} {A R R' : Int → Int} {k k' p v t d : Int} (h : WR2 r A R k) (k0 : 0 ≤ k) (hk : k' = k + 1) (hs : st1 R R' p v) (ht : t = A (r + 267 + k)) (hd : d = A (r + 315 + k)) (t0 : 0 ≤ t) (d0 : 0 ≤ d) (hp : p = 24 * t + d) (hv : v = 1) (hb : ∀ e, 0 ≤ e → e < k → 0 ≤ 24 * A (r + 267 + e) + A (r + 315 + e)) : WR2 r A R' k' := by
  refine ⟨fun i a b => ne0_st hs (by omega) (by omega) (h.1 i a b), fun e a b => ?_⟩
  by_cases z : e = k
  · rw [z, ← ht, ← hd, (hs _ (by omega)).1 hp.symm]; omega
  · exact ne0_st hs (by omega) (hb e a (by omega)) (h.2 e a (by omega))
theorem wr2_more {r : Int} {A R R' : Int → Int} {k p v : Int} (h : WR2 r A R k) (hs : st1 R R' p v) (hv : v = 1) (hb : ∀ e, 0 ≤ e → e < k → 0 ≤ 24 * A (r + 267 + e) + A (r + 315 + e)) : WR2 r A R' k := ⟨fun i a b => ne0_st hs (by omega) (by omega) (h.1 i a b), fun e a b => ne0_st hs (by omega) (hb e a b) (h.2 e a b)⟩
theorem sg_ends {r e : Int} {A : Int → Int} (h : SG A r) (e0 : 0 ≤ e) (e1 : e < A (r + 1)) : 0 ≤ A (r + 267 + e) ∧ A (r + 267 + e) < A r ∧ 0 ≤ A (r + 315 + e) ∧ A (r + 315 + e) < A r ∧ A (r + 267 + e) ≠ A (r + 315 + e) := h.2.1 e e0 e1
def WTK (r : Int) (A R : Int → Int) (k : Int) : Prop := SG A r ∧ WRE r A R ∧ WT r A R k
def WM (r : Int) (A R : Int → Int) (k i j : Int) : Prop := ∃ R0, WTK r A R0 k ∧ (0 ≤ k ∧ k < A r ∧ 0 ≤ i ∧ 0 ≤ j) ∧ ∀ a b, 0 ≤ a → a < A r → 0 ≤ b → b < A r → (((a < i ∨ (a = i ∧ b < j)) → (R (24 * a + b) ≠ 0 ↔ R0 (24 * a + b) ≠ 0 ∨ (R0 (24 * a + k) ≠ 0 ∧ R0 (24 * k + b) ≠ 0))) ∧ (¬ (a < i ∨ (a = i ∧ b < j)) → R (24 * a + b) = R0 (24 * a + b)))
theorem wtk_start {r : Int} {A R : Int → Int} {e k : Int} (hg : SG A r) (h : WR2 r A R e) (he : A (r + 1) ≤ e) (hk : k = 0) : WTK r A R k := ⟨hg, ⟨h.1, fun f a b => h.2 f a (by omega)⟩, fun c a b => by omega⟩
theorem wm_start {r : Int} {A R : Int → Int} {k i j : Int} (h : WTK r A R k) (k0 : 0 ≤ k) (k1 : k < A r) (hi : i = 0) (hj : j = 0) : WM r A R k i j := ⟨R, h, by omega, fun a b a0 a1 b0 b1 => ⟨fun z => by omega, fun _ => rfl⟩⟩
theorem wm_row {r : Int} {A R : Int → Int} {k i i' j j' : Int} (h : WM r A R k i j) (hj : A r ≤ j) (hi : i' = i + 1) (hj' : j' = 0) : WM r A R k i' j' := by
  obtain ⟨R0, h1, h2, h3⟩ := h
  refine ⟨R0, h1, by omega, fun a b a0 a1 b0 b1 => ⟨fun z => (h3 a b a0 a1 b0 b1).1 (by omega), fun z => (h3 a b a0 a1 b0 b1).2 (by omega)⟩⟩
theorem wm_step {r : Int} {A R R' : Int → Int} {k i j j' p v x y z : Int} (h : WM r A R k i j) (i1 : i < A r) (j1 : j < A r) (n24 : A r ≤ 24) (hj : j' = j + 1) (hs : st1 R R' p v) (hp : p = 24 * i + j) (hx : x = R (24 * i + j)) (hy : y = R (24 * i + k)) (hz : z = R (24 * k + j)) (hv : v ≠ 0 ↔ x ≠ 0 ∨ (y ≠ 0 ∧ z ≠ 0)) : WM r A R' k i j' := by
  obtain ⟨R0, h1, h2, h3⟩ := h
  have e1 : x = R0 (24 * i + j) := by rw [hx]; exact (h3 i j (by omega) i1 (by omega) j1).2 (by omega)
  have e2 : y ≠ 0 ↔ R0 (24 * i + k) ≠ 0 := by
    rw [hy]
    have := h3 i k (by omega) i1 (by omega) (by omega)
    by_cases q : k < j
    · rw [this.1 (Or.inr ⟨rfl, q⟩)]
      exact ⟨fun w => by rcases w with w | w; exact w; exact w.1, fun w => Or.inl w⟩
    · rw [this.2 (by omega)]
  have e3 : z ≠ 0 ↔ R0 (24 * k + j) ≠ 0 := by
    rw [hz]
    have := h3 k j (by omega) (by omega) (by omega) j1
    by_cases q : k < i
    · rw [this.1 (Or.inl q)]
      exact ⟨fun w => by rcases w with w | w; exact w; exact w.2, fun w => Or.inl w⟩
    · rw [this.2 (by omega)]
  refine ⟨R0, h1, by omega, fun a b a0 a1 b0 b1 => ?_⟩
  by_cases q : a = i ∧ b = j
  · rw [q.1, q.2]
    refine ⟨fun _ => ?_, fun w => by omega⟩
    rw [(hs _ (by omega)).1 hp.symm, hv, e1, e2, e3]
  · have ne : 24 * a + b ≠ p := by omega
    rw [(hs _ (by omega)).2 ne]
    exact ⟨fun w => (h3 a b a0 a1 b0 b1).1 (by omega), fun w => (h3 a b a0 a1 b0 b1).2 (by omega)⟩
theorem wm_end {r : Int} {A R : Int → Int} {k k' i j : Int} (h : WM r A R k i j) (hi : A r ≤ i) (hk : k' = k + 1) : WTK r A R k' := by
  obtain ⟨R0, ⟨hg, h1, hT⟩, h2, h3⟩ := h
  have E : ∀ a b, 0 ≤ a → a < A r → 0 ≤ b → b < A r → (R (24 * a + b) ≠ 0 ↔ R0 (24 * a + b) ≠ 0 ∨ (R0 (24 * a + k) ≠ 0 ∧ R0 (24 * k + b) ≠ 0)) := fun a b a0 a1 b0 b1 => (h3 a b a0 a1 b0 b1).1 (Or.inl (by omega))
  refine ⟨hg, ⟨fun i a b => (E i i a b a b).2 (Or.inl (h1.1 i a b)), fun e a b => ?_⟩, fun c c0 c1 i j i0 i1 j0 j1 hR hR' => ?_⟩
  · have s := sg_ends hg a b
    exact (E _ _ s.1 s.2.1 s.2.2.1 s.2.2.2.1).2 (Or.inl (h1.2 e a b))
  · have cn : c < A r := by omega
    rw [E i c i0 i1 c0 cn] at hR
    rw [E c j c0 cn j0 j1] at hR'
    rw [E i j i0 i1 j0 j1]
    by_cases q : c = k
    · subst q
      right
      exact ⟨by rcases hR with w | w; exact w; exact w.1, by rcases hR' with w | w; exact w; exact w.2⟩
    · have T := fun i j i0 i1 j0 j1 => hT c c0 (by omega) i j i0 i1 j0 j1
      rcases hR with w | w <;> rcases hR' with w' | w'
      · exact Or.inl (T i j i0 i1 j0 j1 w w')
      · exact Or.inr ⟨T i k i0 i1 (by omega) (by omega) w w'.1, w'.2⟩
      · exact Or.inr ⟨w.1, T k j (by omega) (by omega) j0 j1 w.2 w'⟩
      · exact Or.inr ⟨w.1, w'.2⟩
theorem wen_of {r : Int} {A R : Int → Int} {k : Int} (h : WTK r A R k) (hk : A r ≤ k) : WEN r A R := ⟨⟨h.1.1.2.1, h.1⟩, h.2.1, fun c c0 c1 => h.2.2 c c0 (by omega)⟩
/-! strong -/
def mutl (R : Int → Int) (a b : Int) : Prop := R (24 * a + b) ≠ 0 ∧ R (24 * b + a) ≠ 0
def SOI (r : Int) (A R so : Int → Int) (i many : Int) : Prop := WEN r A R ∧ 0 ≤ many ∧ (∀ a, 0 ≤ a → a < A r → so a = -1 ∨ (0 ≤ so a ∧ so a < many)) ∧ (∀ a, 0 ≤ a → a < i → a < A r → 0 ≤ so a) ∧ (∀ a b, 0 ≤ a → a < A r → 0 ≤ b → b < A r → 0 ≤ so a → 0 ≤ so b → (so a = so b ↔ mutl R a b)) ∧ ∀ a b, 0 ≤ a → a < A r → 0 ≤ b → b < A r → 0 ≤ so a → mutl R a b → 0 ≤ so b
def SOJ (r : Int) (A R so : Int → Int) (i j many : Int) : Prop := ∃ s0, SOI r A R s0 i many ∧ s0 i < 0 ∧ (0 ≤ i ∧ i < A r ∧ i ≤ j) ∧ ∀ b, 0 ≤ b → b < A r → (((i ≤ b ∧ b < j ∧ mutl R i b) → so b = many) ∧ (¬ (i ≤ b ∧ b < j ∧ mutl R i b) → so b = s0 b))
def SO0 (so : Int → Int) (i : Int) : Prop := ∀ a, 0 ≤ a → a < i → so a = -1
theorem so0_step {F F' : Int → Int} {i i' p v : Int} (h : SO0 F i) (hi : i' = i + 1) (hs : st1 F F' p v) (hp : p = i) (hv : v = -1) : SO0 F' i' := by
  intro x a b
  by_cases e : x = p
  · rw [(hs x a).1 e, hv]
  · rw [(hs x a).2 e]; exact h x a (by omega)
theorem soi_start {r : Int} {A R so : Int → Int} {i j many : Int} (h : WEN r A R) (h0 : SO0 so j) (hj : A r ≤ j) (hi : i = 0) (hm : many = 0) : SOI r A R so i many := by
  have z : ∀ a, 0 ≤ a → a < A r → so a = -1 := fun a x y => h0 a x (by omega)
  exact ⟨h, by omega, fun a x y => Or.inl (z a x y), fun a x y => by omega, fun a b x y _ _ e => by rw [z a x y] at e; omega, fun a b x y _ _ e => by rw [z a x y] at e; omega⟩
theorem soi_skip {r : Int} {A R so : Int → Int} {i i' many : Int} (h : SOI r A R so i many) (hi : i' = i + 1) (hs : 0 ≤ so i) : SOI r A R so i' many := by
  obtain ⟨h1, h2, h3, h4, h5⟩ := h
  refine ⟨h1, h2, h3, fun a x y z => ?_, h5⟩
  by_cases e : a = i
  · rw [e]; exact hs
  · exact h4 a x (by omega) z
theorem soj_start {r : Int} {A R so : Int → Int} {i j many : Int} (h : SOI r A R so i many) (i0 : 0 ≤ i) (i1 : i < A r) (hs : so i < 0) (hj : j = i) : SOJ r A R so i j many := ⟨so, h, hs, by omega, fun b _ _ => ⟨fun z => by omega, fun _ => rfl⟩⟩
theorem soj_take {r : Int} {A R so so' : Int → Int} {i j j' many p v : Int} (h : SOJ r A R so i j many) (j1 : j < A r) (hj : j' = j + 1) (h1 : R (24 * i + j) ≠ 0) (h2 : R (24 * j + i) ≠ 0) (hs : st1 so so' p v) (hp : p = j) (hv : v = many) : SOJ r A R so' i j' many := by
  obtain ⟨s0, q1, q2, q3, q4⟩ := h
  refine ⟨s0, q1, q2, by omega, fun b b0 b1 => ?_⟩
  by_cases e : b = j
  · refine ⟨fun _ => by rw [(hs b b0).1 (by omega), hv], fun z => absurd ⟨by omega, by omega, by rw [e]; exact ⟨h1, h2⟩⟩ z⟩
  · rw [(hs b b0).2 (by omega)]
    exact ⟨fun z => (q4 b b0 b1).1 ⟨z.1, by omega, z.2.2⟩, fun z => (q4 b b0 b1).2 (fun w => z ⟨w.1, by omega, w.2.2⟩)⟩
theorem soj_skip {r : Int} {A R so : Int → Int} {i j j' many : Int} (h : SOJ r A R so i j many) (hj : j' = j + 1) (hm : ¬ (R (24 * i + j) ≠ 0 ∧ R (24 * j + i) ≠ 0)) : SOJ r A R so i j' many := by
  obtain ⟨s0, q1, q2, q3, q4⟩ := h
  refine ⟨s0, q1, q2, by omega, fun b b0 b1 => ⟨fun z => (q4 b b0 b1).1 ⟨z.1, ?_, z.2.2⟩, fun z => (q4 b b0 b1).2 (fun w => z ⟨w.1, by omega, w.2.2⟩)⟩⟩
  by_cases e : b = j
  · subst e; exact absurd z.2.2 hm
  · omega
theorem mutl_tr {r : Int} {A R : Int → Int} (h : WEN r A R) {a b c : Int} (a0 : 0 ≤ a) (a1 : a < A r) (b0 : 0 ≤ b) (b1 : b < A r) (c0 : 0 ≤ c) (c1 : c < A r) (h1 : mutl R a b) (h2 : mutl R b c) : mutl R a c := ⟨h.2.2 b b0 b1 a c a0 a1 c0 c1 h1.1 h2.1, h.2.2 b b0 b1 c a c0 c1 a0 a1 h2.2 h1.2⟩
theorem soj_end {r : Int} {A R so : Int → Int} {i i' j many many' : Int} (h : SOJ r A R so i j many) (hj : A r ≤ j) (hi : i' = i + 1) (hm : many' = many + 1) : SOI r A R so i' many' := by
  obtain ⟨s0, ⟨w, h2, h3, h4, h5, h6⟩, q2, q3, q4⟩ := h
  have low : ∀ b, 0 ≤ b → b < A r → mutl R i b → i ≤ b := fun b b0 b1 m => by
    by_cases e : i ≤ b
    · exact e
    · have := h6 b i b0 b1 (by omega) (by omega) (h4 b b0 (by omega) b1) ⟨m.2, m.1⟩
      omega
  have ya : ∀ b, 0 ≤ b → b < A r → mutl R i b → so b = many := fun b b0 b1 m => (q4 b b0 b1).1 ⟨low b b0 b1 m, by omega, m⟩
  have na : ∀ b, 0 ≤ b → b < A r → ¬ mutl R i b → so b = s0 b := fun b b0 b1 m => (q4 b b0 b1).2 (fun z => m z.2.2)
  have rf : mutl R i i := ⟨w.2.1.1 i (by omega) (by omega), w.2.1.1 i (by omega) (by omega)⟩
  refine ⟨w, by omega, fun a a0 a1 => ?_, fun a a0 a1 a2 => ?_, fun a b a0 a1 b0 b1 sa sb => ?_, fun a b a0 a1 b0 b1 sa m => ?_⟩
  · by_cases m : mutl R i a
    · rw [ya a a0 a1 m]; omega
    · rw [na a a0 a1 m]; have := h3 a a0 a1; omega
  · by_cases e : a = i
    · rw [e, ya i (by omega) (by omega) rf]; omega
    · by_cases m : mutl R i a
      · rw [ya a a0 a2 m]; omega
      · rw [na a a0 a2 m]; exact h4 a a0 (by omega) a2
  · by_cases m : mutl R i a <;> by_cases m' : mutl R i b
    · rw [ya a a0 a1 m, ya b b0 b1 m']
      exact ⟨fun _ => mutl_tr w a0 a1 (by omega) (by omega) b0 b1 ⟨m.2, m.1⟩ m', fun _ => rfl⟩
    · rw [ya a a0 a1 m, na b b0 b1 m']
      rw [na b b0 b1 m'] at sb
      have := h3 b b0 b1
      exact ⟨fun e => by omega, fun e => absurd (mutl_tr w (by omega) (by omega) a0 a1 b0 b1 m e) m'⟩
    · rw [ya b b0 b1 m', na a a0 a1 m]
      rw [na a a0 a1 m] at sa
      have := h3 a a0 a1
      exact ⟨fun e => by omega, fun e => absurd (mutl_tr w (by omega) (by omega) b0 b1 a0 a1 m' ⟨e.2, e.1⟩) m⟩
    · rw [na a a0 a1 m] at sa ⊢
      rw [na b b0 b1 m'] at sb ⊢
      exact h5 a b a0 a1 b0 b1 sa sb
  · by_cases m1 : mutl R i b
    · rw [ya b b0 b1 m1]; omega
    · have m2 : ¬ mutl R i a := fun z => m1 (mutl_tr w (by omega) (by omega) a0 a1 b0 b1 z m)
      rw [na a a0 a1 m2] at sa
      rw [na b b0 b1 m1]
      exact h6 a b a0 a1 b0 b1 sa m
def STG (r : Int) (A so : Int → Int) (many : Int) : Prop := SG A r ∧ ∃ c : Int → Int, (∀ i, 0 ≤ i → i < A r → 0 ≤ so i ∧ so i < many) ∧ (∀ i j, 0 ≤ i → i < A r → 0 ≤ j → j < A r → so i = so j → c i = c j) ∧ ∀ e, 0 ≤ e → e < A (r + 1) → so (A (r + 267 + e)) ≠ so (A (r + 315 + e)) → c (A (r + 267 + e)) < c (A (r + 315 + e))
theorem stg_of {r : Int} {A R so : Int → Int} {i many : Int} (h : SOI r A R so i many) (hi : A r ≤ i) : STG r A so many := by
  obtain ⟨w, h2, h3, h4, h5, h6⟩ := h
  have nn : ∀ a, 0 ≤ a → a < A r → 0 ≤ so a := fun a a0 a1 => h4 a a0 (by omega) a1
  refine ⟨w.1.2, fun i => - sm (fun j => if R (24 * i + j) ≠ 0 then 1 else 0) (A r), fun a a0 a1 => ?_, fun a b a0 a1 b0 b1 e => ?_, fun e e0 e1 ne => ?_⟩
  · have := h3 a a0 a1; have := nn a a0 a1; omega
  · have m := (h5 a b a0 a1 b0 b1 (nn a a0 a1) (nn b b0 b1)).1 e
    have := sm_congr (f := fun j => if R (24 * a + j) ≠ 0 then 1 else 0) (g := fun j => if R (24 * b + j) ≠ 0 then (1 : Int) else 0) (n := A r) (fun j j0 j1 => by
      (try simp only [])
      have q1 : R (24 * a + j) ≠ 0 → R (24 * b + j) ≠ 0 := w.2.2 a a0 a1 b j b0 b1 j0 j1 m.2
      have q2 : R (24 * b + j) ≠ 0 → R (24 * a + j) ≠ 0 := w.2.2 b b0 b1 a j a0 a1 j0 j1 m.1
      by_cases z : R (24 * a + j) ≠ 0
      · rw [if_pos z, if_pos (q1 z)]
      · rw [if_neg z, if_neg (fun y => z (q2 y))])
    (try simp only [])
    omega
  · have s := sg_ends w.1.2 e0 e1
    have hr := w.2.1.2 e e0 e1
    generalize A (r + 267 + e) = t at *
    generalize A (r + 315 + e) = d at *
    have nm : R (24 * d + t) = 0 := by
      by_cases z : R (24 * d + t) = 0
      · exact z
      · exact absurd ((h5 t d s.1 s.2.1 s.2.2.1 s.2.2.2.1 (nn t s.1 s.2.1) (nn d s.2.2.1 s.2.2.2.1)).2 ⟨hr, z⟩) ne
    have := smlt (f := fun j => if R (24 * d + j) ≠ 0 then 1 else 0) (g := fun j => if R (24 * t + j) ≠ 0 then (1 : Int) else 0) (n := A r) (i := t) s.1 s.2.1 (fun j j0 j1 => by
      (try simp only [])
      have q : R (24 * d + j) ≠ 0 → R (24 * t + j) ≠ 0 := w.2.2 d s.2.2.1 s.2.2.2.1 t j s.1 s.2.1 j0 j1 hr
      by_cases z : R (24 * d + j) ≠ 0
      · rw [if_pos z, if_pos (q z)]; omega
      · rw [if_neg z]; split <;> omega) (by
      (try simp only [])
      rw [if_neg (fun z => z nm), if_pos (w.2.1.1 t s.1 s.2.1)]; omega)
    (try simp only [])
    omega
/-! orders of a part: everybody stands in best -/
def SEM (o mb : Int → Int) (n : Int) : Prop := ∀ k, 0 ≤ k → k < n → ∃ j, 0 ≤ j ∧ j < n ∧ o j = mb k
def SEB (n : Int) (o mb : Int → Int) : Prop := SEM o mb n
def BST (n : Int) (be mb : Int → Int) : Prop := SEM be mb n
def BSL (n : Int) (be mb : Int → Int) (l : Int) : Prop := l < 1000000 → SEM be mb n
theorem sem_swp {o o' mb : Int → Int} {n a b : Int} (h : SEM o mb n) (a0 : 0 ≤ a) (a1 : a < n) (b0 : 0 ≤ b) (b1 : b < n) (hs : swp o o' a b) : SEM o' mb n := by
  intro k k0 k1
  obtain ⟨j, j0, j1, j2⟩ := h k k0 k1
  by_cases x : j = a
  · exact ⟨b, b0, b1, by rw [hs.2.1, ← x]; exact j2⟩
  · by_cases y : j = b
    · exact ⟨a, a0, a1, by rw [hs.1, ← y]; exact j2⟩
    · exact ⟨j, j0, j1, by rw [hs.2.2 j j0 x y]; exact j2⟩
theorem sem_cym {o mb : Int → Int} {n k : Int} (h : CYM o mb k) (hk : n ≤ k) : SEM o mb n := fun j a b => ⟨j, a, b, h j a (by omega)⟩
def CPB (be o : Int → Int) (k : Int) : Prop := ∀ j, 0 ≤ j → j < k → be j = o j
theorem cpb_step {be be' o : Int → Int} {k k' p v : Int} (h : CPB be o k) (hk : k' = k + 1) (hs : st1 be be' p v) (hp : p = k) (hv : v = o k) : CPB be' o k' := by
  intro j a b
  by_cases e : j = k
  · rw [(hs j a).1 (by omega), hv, e]
  · rw [(hs j a).2 (by omega)]; exact h j a (by omega)
theorem bst_cpb {n k : Int} {be o mb : Int → Int} (h : CPB be o k) (hk : n ≤ k) (hs : SEB n o mb) : SEM be mb n := fun j a b => by
  obtain ⟨i, i0, i1, i2⟩ := hs j a b
  exact ⟨i, i0, i1, by rw [h i i0 (by omega)]; exact i2⟩
/-- who has left stands at one of the ends -/
def GBE (n : Int) (lf be mb : Int → Int) (f l : Int) : Prop := (0 ≤ f ∧ l < n) ∧ ∀ k, 0 ≤ k → k < n → lf (mb k) = 0 → ∃ j, 0 ≤ j ∧ j < n ∧ (j < f ∨ l < j) ∧ be j = mb k
theorem gbe_start {n f l : Int} {lf be mb A : Int → Int} {r k : Int} (hM : MBN n r mb A) (hL : LMB n lf mb k) (hk : A r ≤ k) (hf : f = 0) (hl : l = n - 1) : GBE n lf be mb f l := ⟨by omega, fun t a b c => absurd c (hL t a b (by have := hM.2 t a b; omega))⟩
theorem gbe_step {n f l f' l' x q v p w : Int} {lf lf' be be' mb A : Int → Int} {r : Int} (h : GBE n lf be mb f l) (hM : MBN n r mb A) (fl : f ≤ l) (hs : st1 lf lf' q v) (hq : q = x) (hv : v = 0) (ht : st1 be be' p w) (hw : w = x) (hc : (p = l ∧ l' = l - 1 ∧ f' = f) ∨ (p = f ∧ f' = f + 1 ∧ l' = l)) : GBE n lf' be' mb f' l' := by
  refine ⟨by have := h.1; omega, fun k a b c => ?_⟩
  have m := hM.2 k a b
  by_cases e : mb k = x
  · have := h.1
    exact ⟨p, by omega, by omega, by omega, by rw [(ht p (by omega)).1 rfl, hw, e]⟩
  · rw [(hs _ m.1).2 (by omega)] at c
    obtain ⟨j, j0, j1, j2, j3⟩ := h.2 k a b c
    have := h.1
    exact ⟨j, j0, j1, by omega, by rw [(ht j j0).2 (by omega)]; exact j3⟩
theorem cnl_none {f : Int → Int} (k : Nat) (h : cnl f k ≤ 0) : ∀ v : Int, 0 ≤ v → v < k → f v = 0 := by
  induction k with
  | zero => intro v a b; exact absurd b (by push_cast; omega)
  | succ k ih =>
    intro v a b
    unfold cnl at h
    have := cnl_nn f k
    by_cases z : f (k : Int) = 0
    · rw [if_neg (fun y => y z)] at h
      by_cases e : v = k
      · rw [e]; exact z
      · exact ih (by omega) v a (by push_cast at b; omega)
    · rw [if_pos z] at h; omega
/-- all are gone when the ends have met -/
def GLE (r : Int) (A lf : Int → Int) (a b : Int) : Prop := cnl lf (A r).toNat + a ≤ b + 1
