/-! step: a row is copied -/
/-- what a caller keeps of the row: c says which -/
def CPX (A : Int → Int) (r c a b : Int) : Prop := (c = 1 → A r = a) ∧ (c = 2 → NWE r A a b) ∧ (c = 3 → 0 ≤ a ∧ a < A (r + 1)) ∧ (c = 4 → 0 ≤ a ∧ a < A r)
theorem nwe_congr {A A' : Int → Int} {r r' a b : Int} (hb : A (r + 1) ≤ 48) (h : NWE r A a b) (hc : ∀ j, 0 ≤ j → j < 363 → A' (r' + j) = A (r + j)) : NWE r' A' a b := by
  obtain ⟨n1, n2, n3, n4, n5, n6, n7⟩ := h
  have a0 := off0 hc (by omega)
  have a1 := hc 1 (by omega) (by omega)
  refine ⟨n1, by rw [a0]; exact n2, n3, by rw [a0]; exact n4, n5, by rw [a1]; exact n6, fun e e0 e1 => ?_⟩
  rw [a1] at e1
  rw [off hc 267 e (by omega) (by omega), off hc 315 e (by omega) (by omega)]
  exact n7 e e0 e1
theorem cpx_congr {A A' : Int → Int} {r r' c a b : Int} (hb : A (r + 1) ≤ 48) (h : CPX A r c a b) (hc : ∀ j, 0 ≤ j → j < 363 → A' (r' + j) = A (r + j)) : CPX A' r' c a b := by
  obtain ⟨h1, h2, h3, h4⟩ := h
  have a0 := off0 hc (by omega)
  have a1 := hc 1 (by omega) (by omega)
  exact ⟨fun q => by rw [a0]; exact h1 q, fun q => nwe_congr hb (h2 q) hc, fun q => by rw [a1]; exact h3 q, fun q => by rw [a0]; exact h4 q⟩
def T13 (A now lat : Int → Int) (g i c a b : Int) : Prop := ∃ A0, ROWS A0 now lat ∧ 0 ≤ g ∧ g < 4 ∧ now g = 30 ∧ CPX A0 (16709 * g + 16170) c a b ∧ (∀ j, 0 ≤ j → j < i → A (16709 * g + j) = A0 (16709 * g + 539 + j)) ∧ (∀ j, 0 ≤ j → (j < 16709 * g ∨ 16709 * g + i ≤ j) → A j = A0 j) ∧ 0 ≤ i ∧ i ≤ 16170
def T60 (A now lat : Int → Int) (g c a b : Int) : Prop := ROWS A now lat ∧ 0 ≤ g ∧ g < 4 ∧ now g ≤ 29 ∧ CPX A (16709 * g + 539 * now g) c a b
def T73 (A now lat : Int → Int) (g s i c a b : Int) : Prop := ∃ A0, T60 A0 now lat g c a b ∧ s = 16709 * g + 539 * now g ∧ (∀ j, 0 ≤ j → j < i → A (s + 539 + j) = A0 (s + j)) ∧ (∀ j, 0 ≤ j → (j < s + 539 ∨ s + 539 + i ≤ j) → A j = A0 j) ∧ 0 ≤ i ∧ i ≤ 539
def T130 (A now lat : Int → Int) (g c a b : Int) : Prop := ROWS A now lat ∧ 0 ≤ g ∧ g < 4 ∧ CPX A (16709 * g + 539 * now g) c a b
theorem t13_start {r g i c a b : Int} {A now lat : Int → Int} (h : RWS r A now lat) (hr : r = 16709 * g + 539 * now g) (hc : CPX A r c a b) (g0 : 0 ≤ g) (g1 : g < 4) (hn : now g = 30) (hi : i = 0) : T13 A now lat g i c a b := by
  refine ⟨A, h.1, g0, g1, hn, ?_, fun j a b => by omega, fun j _ _ => rfl, by omega, by omega⟩
  rw [hn] at hr
  rw [show 16709 * g + 16170 = r by omega]; exact hc
theorem t13_step {g i i' c a b p v q : Int} {A A' now lat : Int → Int} (h : T13 A now lat g i c a b) (hs : st1 A A' p v) (hi : i' = i + 1) (i1 : i < 16170) (hp : p = 16709 * g + i) (hv' : v = A q) (hq : q = 16709 * g + 539 + i) : T13 A' now lat g i' c a b := by
  have hv : v = A (16709 * g + 539 + i) := by rw [← hq]; exact hv'
  obtain ⟨A0, h1, h2, h3, h4, h5, h6, h7, h8, h9⟩ := h
  refine ⟨A0, h1, h2, h3, h4, h5, fun j a b => ?_, fun j a b => ?_, by omega, by omega⟩
  · by_cases q : j = i
    · rw [q, (hs _ (by omega)).1 (by omega), hv]; exact h7 _ (by omega) (by omega)
    · rw [(hs _ (by omega)).2 (by omega)]; exact h6 j a (by omega)
  · rw [(hs _ (by omega)).2 (by omega)]; exact h7 j a (by omega)
theorem t60_shift {g i c a b p v : Int} {A now now' lat : Int → Int} (h : T13 A now lat g i c a b) (hi : 16170 ≤ i) (hs : st1 now now' p v) (hp : p = g) (hv' : v = now p - 1) : T60 A now' lat g c a b := by
  have hv : v = now g - 1 := by rw [← hp]; exact hv'
  obtain ⟨A0, h1, h2, h3, h4, h5, h6, h7, h8, h9⟩ := h
  have i1 : i = 16170 := by omega
  subst i1
  have hl := (h1 g h2 h3).1
  have n1 : now' g = 29 := by rw [(hs g h2).1 hp.symm, hv]; omega
  have sg : ∀ k, 0 ≤ k → k ≤ 30 → SG A0 (16709 * g + 539 * k) := fun k a b => (h1 g h2 h3).2 k a (by omega)
  have mv : ∀ k, 0 ≤ k → k ≤ 29 → ∀ j, 0 ≤ j → j < 363 → A (16709 * g + 539 * k + j) = A0 (16709 * g + 539 * (k + 1) + j) := fun k a b j c d => by
    have := h6 (539 * k + j) (by omega) (by omega)
    rw [show 16709 * g + (539 * k + j) = 16709 * g + 539 * k + j by omega, show 16709 * g + 539 + (539 * k + j) = 16709 * g + 539 * (k + 1) + j by omega] at this
    exact this
  refine ⟨fun g' a b => ?_, h2, h3, by omega, ?_⟩
  · by_cases q : g' = g
    · rw [q]
      refine ⟨by omega, fun k k0 k1 => ?_⟩
      by_cases q2 : k = 30
      · rw [q2]
        exact sg_congr (sg 30 (by omega) (by omega)) (fun j a b => h7 _ (by omega) (by omega))
      · exact sg_congr (sg (k + 1) (by omega) (by omega)) (mv k k0 (by omega))
    · rw [(hs g' a).2 (by omega)]
      refine ⟨(h1 g' a b).1, fun k k0 k1 => sg_congr ((h1 g' a b).2 k k0 k1) (fun j c d => h7 _ (by omega) ?_)⟩
      have := (h1 g' a b).1
      rcases Int.lt_trichotomy g' g with w | w | w
      · left; omega
      · exact absurd w q
      · right; omega
  · rw [n1]
    have s30 := sg 30 (by omega) (by omega)
    rw [show 16709 * g + 16170 = 16709 * g + 539 * 30 by omega] at h5
    exact cpx_congr s30.1.2.2.2.1 h5 (mv 29 (by omega) (by omega))
theorem t60_now {r g c a b : Int} {A now lat : Int → Int} (h : RWS r A now lat) (hr : r = 16709 * g + 539 * now g) (hc : CPX A r c a b) (g0 : 0 ≤ g) (g1 : g < 4) (hn : now g ≠ 30) : T60 A now lat g c a b := by
  have := (h.1 g g0 g1).1
  exact ⟨h.1, g0, g1, by omega, by rw [← hr]; exact hc⟩
theorem t73_start {g s i c a b : Int} {A now lat : Int → Int} (h : T60 A now lat g c a b) (hs : s = 16709 * g + 539 * now g) (hi : i = 0) : T73 A now lat g s i c a b :=
  ⟨A, h, hs, fun j a b => by omega, fun j _ _ => rfl, by omega, by omega⟩
theorem t73_step {g s i i' c a b p v q : Int} {A A' now lat : Int → Int} (h : T73 A now lat g s i c a b) (hs : st1 A A' p v) (hi : i' = i + 1) (i1 : i < 539) (hp : p = s + 539 + i) (hv' : v = A q) (hq : q = s + i) : T73 A' now lat g s i' c a b := by
  have hv : v = A (s + i) := by rw [← hq]; exact hv'
  obtain ⟨A0, h1, h2, h6, h7, h8, h9⟩ := h
  have n0 := (h1.1 g h1.2.1 h1.2.2.1).1
  have g0 := h1.2.1
  refine ⟨A0, h1, h2, fun j a b => ?_, fun j a b => ?_, by omega, by omega⟩
  · by_cases q : j = i
    · rw [q, (hs _ (by omega)).1 (by omega), hv]; exact h7 _ (by omega) (by omega)
    · rw [(hs _ (by omega)).2 (by omega)]; exact h6 j a (by omega)
  · rw [(hs _ (by omega)).2 (by omega)]; exact h7 j a (by omega)
theorem t130_of {g s i c a b p v q w : Int} {A now now' lat lat' : Int → Int} (h : T73 A now lat g s i c a b) (hi : 539 ≤ i) (hs : st1 now now' p v) (hp : p = g) (hv' : v = now p + 1) (ht : st1 lat lat' q w) (hq : q = g) (hw' : w = now' q) : T130 A now' lat' g c a b := by
  have hv : v = now g + 1 := by rw [← hp]; exact hv'
  have hw : w = now' g := by rw [← hq]; exact hw'
  obtain ⟨A0, ⟨h1, g0, g1, h4, h5⟩, h2, h6, h7, h8, h9⟩ := h
  have i1 : i = 539 := by omega
  subst i1
  have hl := (h1 g g0 g1).1
  have n1 : now' g = now g + 1 := by rw [(hs g g0).1 hp.symm, hv]
  have l1 : lat' g = now' g := by rw [(ht g g0).1 hq.symm, hw]
  have sgn := (h1 g g0 g1).2 (now g) hl.1 hl.2.1
  rw [← h2] at sgn h5
  have mv : ∀ j, 0 ≤ j → j < 363 → A (s + 539 + j) = A0 (s + j) := fun j a b => h6 j a (by omega)
  have e1 : 16709 * g + 539 * now' g = s + 539 := by omega
  refine ⟨fun g' a b => ?_, g0, g1, ?_⟩
  · by_cases q : g' = g
    · rw [q]
      refine ⟨by omega, fun k k0 k1 => ?_⟩
      by_cases q2 : k = now' g
      · rw [q2, e1]; exact sg_congr sgn mv
      · exact sg_congr ((h1 g g0 g1).2 k k0 (by omega)) (fun j c d => h7 _ (by omega) (by omega))
    · rw [(hs g' a).2 (by omega), (ht g' a).2 (by omega)]
      refine ⟨(h1 g' a b).1, fun k k0 k1 => sg_congr ((h1 g' a b).2 k k0 k1) (fun j c d => h7 _ (by omega) ?_)⟩
      have := (h1 g' a b).1
      rcases Int.lt_trichotomy g' g with w | w | w
      · left; omega
      · exact absurd w q
      · right; omega
  · rw [e1]; exact cpx_congr sgn.1.2.2.2.1 h5 mv
theorem t130_rws {r g c a b : Int} {A now lat : Int → Int} (h : T130 A now lat g c a b) (hr : r = 16709 * g + 539 * now g) : RWS r A now lat ∧ CPX A r c a b := ⟨rws_now h.1 h.2.1 h.2.2.1 hr, by rw [hr]; exact h.2.2.2⟩
/-! dropEdge -/
def inc (A : Int → Int) (r f i : Int) : Prop := A (r + 267 + f) = i ∨ A (r + 315 + f) = i
/-- no edge behind e ends at i -/
def NOI (r : Int) (A : Int → Int) (e i : Int) : Prop := ∀ f, e < f → f < A (r + 1) → ¬ inc A r f i
def NOJ (r : Int) (A : Int → Int) (e i : Int) : Prop := ∀ f, e ≤ f → f < A (r + 1) → ¬ inc A r f i
def EDA (r : Int) (A : Int → Int) (e : Int) : Prop := 0 ≤ e ∧ e < A (r + 1)
def NDA (r : Int) (A : Int → Int) (i : Int) : Prop := 0 ≤ i ∧ i < A r
def DE2 (r : Int) (A now lat : Int → Int) (e k i : Int) : Prop := ∃ A0, RWS r A0 now lat ∧ 0 ≤ e ∧ e ≤ k ∧ k < A0 (r + 1) ∧ NOI r A0 e i ∧ (∀ j, 0 ≤ j → (j < r + 267 ∨ r + 459 ≤ j) → A j = A0 j) ∧ (∀ j, 0 ≤ j → j < 48 → (j < e ∨ k ≤ j) → A (r + 267 + j) = A0 (r + 267 + j) ∧ A (r + 315 + j) = A0 (r + 315 + j)) ∧ ∀ j, e ≤ j → j < k → A (r + 267 + j) = A0 (r + 267 + (j + 1)) ∧ A (r + 315 + j) = A0 (r + 315 + (j + 1))
theorem de2_start {r e k i : Int} {A now lat : Int → Int} (h : RWS r A now lat) (he : EDA r A e) (hn : NOI r A e i) (hk : k = e) : DE2 r A now lat e k i :=
  ⟨A, h, he.1, by omega, by rw [hk]; exact he.2, hn, fun _ _ _ => rfl, fun _ _ _ _ => ⟨rfl, rfl⟩, fun j a b => by omega⟩
theorem noi_m1 {r e : Int} {A now lat : Int → Int} (h : RWS r A now lat) (e0 : 0 ≤ e) : NOI r A e (-1) := fun f a b q => by
  have := (rws_sg h).2.1 f (by omega) b
  rcases q with q | q
  · have t : 0 ≤ A (r + 267 + f) := this.1
    omega
  · have t : 0 ≤ A (r + 315 + f) := this.2.2.1
    omega
theorem de2_len {r e k i : Int} {A now lat : Int → Int} (h : DE2 r A now lat e k i) : (0 ≤ r ∧ r ≤ 66297) ∧ 0 ≤ e ∧ e ≤ k ∧ k < A (r + 1) ∧ A (r + 1) ≤ 48 := by
  obtain ⟨A0, h1, h2, h3, h4, h5, h6, _⟩ := h
  have hr := rws_r h1
  have := (rws_sg h1).1
  rw [h6 (r + 1) (by omega) (by omega)]
  omega
theorem de2_step {r e k k' i : Int} {A A1 A2 A3 A4 now lat : Int → Int} {p1 v1 p2 v2 p3 v3 p4 v4 q1 q2 : Int} (h : DE2 r A now lat e k i) (hk : k' = k + 1) (k1 : k + 1 < A (r + 1)) (s1 : st1 A A1 p1 v1) (s2 : st1 A1 A2 p2 v2) (s3 : st1 A2 A3 p3 v3) (s4 : st1 A3 A4 p4 v4) (e1 : p1 = r + 267 + k) (w1' : v1 = A q1) (n1 : q1 = r + 267 + k + 1) (e2 : p2 = r + 315 + k) (w2' : v2 = A1 q2) (n2 : q2 = r + 315 + k + 1) (e3 : p3 = r + 363 + k) (e4 : p4 = r + 411 + k) : DE2 r A4 now lat e k' i ∧ A4 r = A r := by
  have w1 : v1 = A (r + 267 + k + 1) := by rw [← n1]; exact w1'
  have w2 : v2 = A1 (r + 315 + k + 1) := by rw [← n2]; exact w2'
  have hl := de2_len h
  obtain ⟨A0, h1, h2, h3, h4, h5, h6, h7, h8⟩ := h
  have em : A (r + 1) = A0 (r + 1) := h6 (r + 1) (by omega) (by omega)
  have kp : ∀ j, 0 ≤ j → j ≠ p1 → j ≠ p2 → j ≠ p3 → j ≠ p4 → A4 j = A j := fun j a b c d e => by rw [(s4 j a).2 e, (s3 j a).2 d, (s2 j a).2 c, (s1 j a).2 b]
  refine ⟨⟨A0, h1, h2, by omega, by omega, h5, fun j a b => ?_, fun j a b c => ?_, fun j a b => ?_⟩, kp r (by omega) (by omega) (by omega) (by omega) (by omega)⟩
  · rw [kp j a (by omega) (by omega) (by omega) (by omega)]; exact h6 j a b
  · rw [kp _ (by omega) (by omega) (by omega) (by omega) (by omega), kp _ (by omega) (by omega) (by omega) (by omega) (by omega)]; exact h7 j a b (by omega)
  · by_cases q : j = k
    · rw [q]
      have z := h7 (k + 1) (by omega) (by omega) (by omega)
      constructor
      · rw [(s4 _ (by omega)).2 (by omega), (s3 _ (by omega)).2 (by omega), (s2 _ (by omega)).2 (by omega), (s1 _ (by omega)).1 (by omega), w1, show r + 267 + k + 1 = r + 267 + (k + 1) by omega]; exact z.1
      · rw [(s4 _ (by omega)).2 (by omega), (s3 _ (by omega)).2 (by omega), (s2 _ (by omega)).1 (by omega), w2, (s1 _ (by omega)).2 (by omega), show r + 315 + k + 1 = r + 315 + (k + 1) by omega]; exact z.2
    · rw [kp _ (by omega) (by omega) (by omega) (by omega) (by omega), kp _ (by omega) (by omega) (by omega) (by omega) (by omega)]; exact h8 j a (by omega)
theorem de2_end {r e k i p v : Int} {A A' now lat : Int → Int} (h : DE2 r A now lat e k i) (hk : A (r + 1) ≤ k + 1) (hs : st1 A A' p v) (hp : p = r + 1) (hv' : v = A p - 1) : RWS r A' now lat ∧ NOJ r A' e i ∧ A' r = A r ∧ e ≤ A' (r + 1) := by
  have hv : v = A (r + 1) - 1 := by rw [← hp]; exact hv'
  have hl := de2_len h
  obtain ⟨A0, h1, h2, h3, h4, h5, h6, h7, h8⟩ := h
  have em : A (r + 1) = A0 (r + 1) := h6 (r + 1) (by omega) (by omega)
  have e0 : A r = A0 r := h6 r (by omega) (by omega)
  have kp : ∀ j, 0 ≤ j → j ≠ p → A' j = A j := fun j a b => (hs j a).2 b
  have kn : A' (r + 1) = A0 (r + 1) - 1 := by rw [(hs _ (by omega)).1 hp.symm, hv]; omega
  have k0 : A' r = A0 r := by rw [kp r (by omega) (by omega)]; exact e0
  have sg := rws_sg h1
  have bb := sg.1
  have ed : ∀ j, 0 ≤ j → j < A0 (r + 1) - 1 → ∃ f, (f = if j < e then j else j + 1) ∧ A' (r + 267 + j) = A0 (r + 267 + f) ∧ A' (r + 315 + j) = A0 (r + 315 + f) := fun j a b => by
    rw [kp _ (by omega) (by omega), kp _ (by omega) (by omega)]
    by_cases q : j < e
    · exact ⟨j, by rw [if_pos q], h7 j a (by omega) (Or.inl q)⟩
    · exact ⟨j + 1, by rw [if_neg q], h8 j (by omega) (by omega)⟩
  refine ⟨rws_upd h1 (fun j a b => by rw [kp j a (by omega)]; exact h6 j a (by omega)) ⟨⟨by omega, by omega, by omega, by omega, fun i' i0 i1 => by rw [kp _ (by omega) (by omega), h6 _ (by omega) (by omega)]; exact bb.2.2.2.2 i' i0 (by omega)⟩, fun j a b => ?_, fun j l a b c => ?_⟩, fun f a b => ?_, by rw [kp r (by omega) (by omega)], by omega⟩
  · rw [kn] at b
    obtain ⟨f, f0, f1, f2⟩ := ed j a b
    show 0 ≤ A' (r + 267 + j) ∧ A' (r + 267 + j) < A' r ∧ 0 ≤ A' (r + 315 + j) ∧ A' (r + 315 + j) < A' r ∧ A' (r + 267 + j) ≠ A' (r + 315 + j)
    rw [f1, f2, k0]
    exact sg.2.1 f (by rw [f0]; split <;> omega) (by rw [f0]; split <;> omega)
  · rw [kn] at c
    obtain ⟨f, f0, f1, f2⟩ := ed j a (by omega)
    obtain ⟨q, q0, q1, q2⟩ := ed l (by omega) c
    show ¬ ((A' (r + 267 + j) = A' (r + 267 + l) ∧ A' (r + 315 + j) = A' (r + 315 + l)) ∨ (A' (r + 267 + j) = A' (r + 315 + l) ∧ A' (r + 315 + j) = A' (r + 267 + l)))
    rw [f1, f2, q1, q2]
    exact sg.2.2 f q (by rw [f0]; split <;> omega) (by rw [f0, q0]; split <;> split <;> omega) (by rw [q0]; split <;> omega)
  · rw [kn] at b
    obtain ⟨f', f0, f1, f2⟩ := ed f (by omega) b
    rw [if_neg (by omega)] at f0
    unfold inc
    rw [f1, f2, f0]
    exact h5 (f + 1) (by omega) (by omega)
