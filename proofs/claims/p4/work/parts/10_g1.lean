/-! rows of graphs: A is the row of all rows, r where a row begins -/
def SZ1 (r : Int) (A : Int → Int) : Prop := ∀ i, 0 ≤ i → i < A r → 1 ≤ A (r + 219 + i)
def SG (A : Int → Int) (r : Int) : Prop := (0 ≤ A r ∧ A r ≤ 24 ∧ 0 ≤ A (r + 1) ∧ A (r + 1) ≤ 48 ∧ SZ1 r A) ∧ GOK (A r) (A (r + 1)) (fun e => A (r + 267 + e)) (fun e => A (r + 315 + e))
def ROWS (A now lat : Int → Int) : Prop := ∀ g, 0 ≤ g → g < 4 → (0 ≤ now g ∧ now g ≤ lat g ∧ lat g ≤ 30) ∧ ∀ k, 0 ≤ k → k ≤ lat g → SG A (16709 * g + 539 * k)
def RIN (lat : Int → Int) (r : Int) : Prop := ∃ g k, 0 ≤ g ∧ g < 4 ∧ 0 ≤ k ∧ k ≤ lat g ∧ k ≤ 30 ∧ r = 16709 * g + 539 * k
def RWS (r : Int) (A now lat : Int → Int) : Prop := ROWS A now lat ∧ RIN lat r
def SGR (r : Int) (A : Int → Int) : Prop := SG A r
theorem gok_congr {n m n' m' : Int} {pt ph pt' ph' : Int → Int} (hn : n' = n) (hm : m' = m) (h1 : ∀ e, 0 ≤ e → e < m → pt' e = pt e) (h2 : ∀ e, 0 ≤ e → e < m → ph' e = ph e) (h : GOK n m pt ph) : GOK n' m' pt' ph' := by
  subst hn; subst hm
  refine ⟨fun e e0 e1 => ?_, fun e f e0 ef f1 => ?_⟩
  · rw [h1 e e0 e1, h2 e e0 e1]; exact h.1 e e0 e1
  · rw [h1 e e0 (by omega), h2 e e0 (by omega), h1 f (by omega) f1, h2 f (by omega) f1]; exact h.2 e f e0 ef f1
theorem gok_more {n n' m : Int} {pt ph : Int → Int} (hn : n ≤ n') (h : GOK n m pt ph) : GOK n' m pt ph :=
  ⟨fun e e0 e1 => by have := h.1 e e0 e1; omega, h.2⟩
theorem off {A A' : Int → Int} {r r' : Int} {N : Int} (hc : ∀ j, 0 ≤ j → j < N → A' (r' + j) = A (r + j)) (c e : Int) (h0 : 0 ≤ c + e) (h1 : c + e < N) : A' (r' + c + e) = A (r + c + e) := by
  have := hc (c + e) h0 h1
  rw [show r' + (c + e) = r' + c + e by omega, show r + (c + e) = r + c + e by omega] at this
  exact this
theorem off0 {A A' : Int → Int} {r r' : Int} {N : Int} (hc : ∀ j, 0 ≤ j → j < N → A' (r' + j) = A (r + j)) (h1 : 0 < N) : A' r' = A r := by
  have := hc 0 (by omega) h1
  rw [show r' + 0 = r' by omega, show r + 0 = r by omega] at this
  exact this
theorem sg_congr {A A' : Int → Int} {r r' : Int} (h : SG A r) (hc : ∀ j, 0 ≤ j → j < 363 → A' (r' + j) = A (r + j)) : SG A' r' := by
  have a0 := off0 hc (by omega)
  have a1 := hc 1 (by omega) (by omega)
  have b := h.1
  have z : SZ1 r' A' := fun i i0 i1 => by rw [off hc 219 i (by omega) (by omega)]; exact b.2.2.2.2 i i0 (by omega)
  refine ⟨⟨by omega, by omega, by omega, by omega, z⟩, gok_congr a0 a1 (fun e e0 e1 => off hc 267 e (by omega) (by omega)) (fun e e0 e1 => off hc 315 e (by omega) (by omega)) h.2⟩
theorem rws_sg {r : Int} {A now lat : Int → Int} (h : RWS r A now lat) : SG A r := by
  obtain ⟨h1, g, k, g0, g1, k0, k1, _, hr⟩ := h
  rw [hr]; exact (h1 g g0 g1).2 k k0 k1
theorem rws_r {r : Int} {A now lat : Int → Int} (h : RWS r A now lat) : 0 ≤ r ∧ r ≤ 66297 := by
  obtain ⟨_, g, k, g0, g1, k0, _, k1, hr⟩ := h
  omega
theorem rws_upd {r : Int} {A A' now lat : Int → Int} (h : RWS r A now lat) (ho : ∀ j, 0 ≤ j → (j < r ∨ r + 539 ≤ j) → A' j = A j) (hs : SG A' r) : RWS r A' now lat := by
  refine ⟨fun g g0 g1 => ⟨(h.1 g g0 g1).1, fun k k0 k1 => ?_⟩, h.2⟩
  have hh := h
  obtain ⟨_, g', k', g0', g1', k0', k1', k2', hr⟩ := hh
  by_cases e : 16709 * g + 539 * k = r
  · rw [e]; exact hs
  · refine sg_congr ((h.1 g g0 g1).2 k k0 k1) (fun j j0 j1 => ho _ (by omega) ?_)
    rcases Int.lt_trichotomy (31 * g + k) (31 * g' + k') with q | q | q
    · left; omega
    · exfalso; omega
    · right; omega
/-- what lies beside the ends of edges may change -/
theorem rws_off {r p v : Int} {A A' now lat : Int → Int} (h : RWS r A now lat) (hs : st1 A A' p v) (hp : (r + 2 ≤ p ∧ p < r + 267 ∧ (p < r + 219 ∨ r + 243 ≤ p ∨ 1 ≤ v)) ∨ (r + 363 ≤ p ∧ p < r + 539)) : RWS r A' now lat := by
  have hr := rws_r h
  have sg := rws_sg h
  have b := sg.1
  have k : ∀ j, 0 ≤ j → j ≠ p → A' j = A j := fun j a c => (hs j a).2 c
  have e0 := k r (by omega) (by omega)
  have e1 := k (r + 1) (by omega) (by omega)
  have z : SZ1 r A' := fun i i0 i1 => by
    by_cases q : r + 219 + i = p
    · rw [(hs _ (by omega)).1 q]; omega
    · rw [k _ (by omega) q]; exact b.2.2.2.2 i i0 (by omega)
  refine rws_upd h (fun j a c => k j a (by omega)) ⟨⟨by omega, by omega, by omega, by omega, z⟩, gok_congr (k r (by omega) (by omega)) (k (r + 1) (by omega) (by omega)) (fun e e0 e1 => k _ (by omega) (by omega)) (fun e e0 e1 => k _ (by omega) (by omega)) sg.2⟩
def RCU (r : Int) (now : Int → Int) (g : Int) : Prop := r = 16709 * g + 539 * now g
theorem rws_now {r g : Int} {A now lat : Int → Int} (h : ROWS A now lat) (g0 : 0 ≤ g) (g1 : g < 4) (hr : r = 16709 * g + 539 * now g) : RWS r A now lat :=
  ⟨h, g, now g, g0, g1, (h g g0 g1).1.1, (h g g0 g1).1.2.1, by have := (h g g0 g1).1; omega, hr⟩
theorem rows_at {r g : Int} {A now lat : Int → Int} (h : ROWS A now lat) (g0 : 0 ≤ g) (g1 : g < 4) (hr : r = 16709 * g + 539 * now g) : SGR r A := rws_sg (rws_now h g0 g1 hr)
/-! plane -/
def PLN (r n m : Int) (A pt ph al : Int → Int) : Prop := SG A r ∧ n = A r ∧ m = A (r + 1) ∧ ∀ e, 0 ≤ e → e < m → pt e = A (r + 267 + e) ∧ ph e = A (r + 315 + e) ∧ al e = 1
def PL1 (r n m : Int) (A pt ph al : Int → Int) (i : Int) : Prop := SG A r ∧ n = A r ∧ m = A (r + 1) ∧ ∀ e, 0 ≤ e → e < i → pt e = A (r + 267 + e) ∧ ph e = A (r + 315 + e) ∧ al e = 1
theorem pln_gok {r n m : Int} {A pt ph al : Int → Int} (h : PLN r n m A pt ph al) : GOK n m pt ph := by
  obtain ⟨h1, h2, h3, h4⟩ := h
  exact gok_congr h2 h3 (fun e e0 e1 => (h4 e e0 (by omega)).1) (fun e e0 e1 => (h4 e e0 (by omega)).2.1) h1.2
theorem pl1_step {r n m i i' : Int} {A pt ph al pt' ph' al' : Int → Int} {p1 p2 p3 v1 v2 v3 : Int} (h : PL1 r n m A pt ph al i) (hi : i' = i + 1) (h1 : st1 pt pt' p1 v1) (h2 : st1 ph ph' p2 v2) (h3 : st1 al al' p3 v3) (e1 : p1 = i) (e2 : p2 = i) (e3 : p3 = i) (w1 : v1 = A (r + 267 + i)) (w2 : v2 = A (r + 315 + i)) (w3 : v3 = 1) : PL1 r n m A pt' ph' al' i' := by
  obtain ⟨k1, k2, k3, k4⟩ := h
  refine ⟨k1, k2, k3, fun e a b => ?_⟩
  by_cases q : e = i
  · rw [q]
    rw [q] at a
    exact ⟨((h1 i a).1 e1.symm).trans w1, ((h2 i a).1 e2.symm).trans w2, ((h3 i a).1 e3.symm).trans w3⟩
  · rw [(h1 e a).2 (by omega), (h2 e a).2 (by omega), (h3 e a).2 (by omega)]; exact k4 e a (by omega)
/-! a new edge -/
def NWE (r : Int) (A : Int → Int) (a b : Int) : Prop := 0 ≤ a ∧ a < A r ∧ 0 ≤ b ∧ b < A r ∧ a ≠ b ∧ A (r + 1) ≤ 47 ∧ ∀ e, 0 ≤ e → e < A (r + 1) → ¬ ((A (r + 267 + e) = a ∧ A (r + 315 + e) = b) ∨ (A (r + 267 + e) = b ∧ A (r + 315 + e) = a))
theorem sg_newEdge {r a b : Int} {A A' : Int → Int} (h : SG A r) (hn : NWE r A a b) (c0 : A' r = A r) (c1 : A' (r + 1) = A (r + 1) + 1) (ht : ∀ e, 0 ≤ e → e < A (r + 1) → A' (r + 267 + e) = A (r + 267 + e)) (hh : ∀ e, 0 ≤ e → e < A (r + 1) → A' (r + 315 + e) = A (r + 315 + e)) (t1 : A' (r + 267 + A (r + 1)) = a) (h1 : A' (r + 315 + A (r + 1)) = b) (hz : ∀ i, 0 ≤ i → i < A r → A' (r + 219 + i) = A (r + 219 + i)) : SG A' r := by
  obtain ⟨n1, n2, n3, n4, n5, n6, n7⟩ := hn
  have bb := h.1
  refine ⟨⟨by omega, by omega, by omega, by omega, fun i i0 i1 => by rw [hz i i0 (by omega)]; exact bb.2.2.2.2 i i0 (by omega)⟩, fun e e0 e1 => ?_, fun e f e0 ef f1 => ?_⟩
  · show 0 ≤ A' (r + 267 + e) ∧ A' (r + 267 + e) < A' r ∧ 0 ≤ A' (r + 315 + e) ∧ A' (r + 315 + e) < A' r ∧ A' (r + 267 + e) ≠ A' (r + 315 + e)
    rw [c0]
    by_cases q : e = A (r + 1)
    · rw [q, t1, h1]; exact ⟨n1, n2, n3, n4, n5⟩
    · rw [ht e e0 (by omega), hh e e0 (by omega)]; exact h.2.1 e e0 (by omega)
  · show ¬ ((A' (r + 267 + e) = A' (r + 267 + f) ∧ A' (r + 315 + e) = A' (r + 315 + f)) ∨ (A' (r + 267 + e) = A' (r + 315 + f) ∧ A' (r + 315 + e) = A' (r + 267 + f)))
    rw [ht e e0 (by omega), hh e e0 (by omega)]
    by_cases q : f = A (r + 1)
    · rw [q, t1, h1]; exact n7 e e0 (by omega)
    · rw [ht f (by omega) (by omega), hh f (by omega) (by omega)]; exact h.2.2 e f e0 ef (by omega)
theorem rws_newEdge {r a b : Int} {A A1 A2 A3 A4 A5 now lat : Int → Int} {p1 v1 p2 v2 p3 v3 p4 v4 p5 v5 : Int} (h : RWS r A now lat) (hn : NWE r A a b) (s1 : st1 A A1 p1 v1) (s2 : st1 A1 A2 p2 v2) (s3 : st1 A2 A3 p3 v3) (s4 : st1 A3 A4 p4 v4) (s5 : st1 A4 A5 p5 v5) (e1 : p1 = r + 1) (w1' : v1 = A p1 + 1) (e2 : p2 = r + 267 + A (r + 1)) (w2 : v2 = a) (e3 : p3 = r + 315 + A (r + 1)) (w3 : v3 = b) (e4 : p4 = r + 363 + A (r + 1)) (e5 : p5 = r + 411 + A (r + 1)) : RWS r A5 now lat ∧ A5 r = A r := by
  have w1 : v1 = A (r + 1) + 1 := by rw [← e1]; exact w1'
  have hr := rws_r h
  have sg := rws_sg h
  have bb := sg.1
  have n6 := hn.2.2.2.2.2.1
  have k : ∀ j, 0 ≤ j → j ≠ p1 → j ≠ p2 → j ≠ p3 → j ≠ p4 → j ≠ p5 → A5 j = A j := fun j a b c d e f => by rw [(s5 j a).2 f, (s4 j a).2 e, (s3 j a).2 d, (s2 j a).2 c, (s1 j a).2 b]
  refine ⟨rws_upd h (fun j a c => k j a (by omega) (by omega) (by omega) (by omega) (by omega)) (sg_newEdge sg hn (k _ (by omega) (by omega) (by omega) (by omega) (by omega) (by omega)) ?_ (fun e a c => k _ (by omega) (by omega) (by omega) (by omega) (by omega) (by omega)) (fun e a c => k _ (by omega) (by omega) (by omega) (by omega) (by omega) (by omega)) ?_ ?_ (fun e a c => k _ (by omega) (by omega) (by omega) (by omega) (by omega) (by omega))), k r (by omega) (by omega) (by omega) (by omega) (by omega) (by omega)⟩
  · rw [(s5 _ (by omega)).2 (by omega), (s4 _ (by omega)).2 (by omega), (s3 _ (by omega)).2 (by omega), (s2 _ (by omega)).2 (by omega), (s1 _ (by omega)).1 (by omega)]; exact w1
  · rw [(s5 _ (by omega)).2 (by omega), (s4 _ (by omega)).2 (by omega), (s3 _ (by omega)).2 (by omega), (s2 _ (by omega)).1 (by omega)]; exact w2
  · rw [(s5 _ (by omega)).2 (by omega), (s4 _ (by omega)).2 (by omega), (s3 _ (by omega)).1 (by omega)]; exact w3
/-- one more node: its size comes later -/
def RWN (r : Int) (A now lat : Int → Int) (n : Int) : Prop := ∃ A0, RWS r A0 now lat ∧ (A0 r ≤ 23 ∧ A0 r = n) ∧ A r = A0 r + 1 ∧ ∀ j, 0 ≤ j → j ≠ r → A j = A0 j
theorem rwn_start {r p v n : Int} {A A' now lat : Int → Int} (h : RWS r A now lat) (hs : st1 A A' p v) (hp : p = r) (hv' : v = A p + 1) (h24 : A r ≤ 23) (hn : n = A r) : RWN r A' now lat n := by
  have hr := rws_r h
  exact ⟨A, h, ⟨h24, hn.symm⟩, ((hs r (by omega)).1 hp.symm).trans (by rw [hv', hp]), fun j a c => (hs j a).2 (by omega)⟩
theorem rwn_r {r n : Int} {A now lat : Int → Int} (h : RWN r A now lat n) : (0 ≤ r ∧ r ≤ 66297) ∧ (1 ≤ A r ∧ A r ≤ 24) ∧ 0 ≤ A (r + 1) ∧ A (r + 1) ≤ 48 ∧ A r = n + 1 := by
  obtain ⟨A0, h1, h2, h3, h4⟩ := h
  have hr := rws_r h1
  have b := (rws_sg h1).1
  have e := h4 (r + 1) (by omega) (by omega)
  omega
theorem rwn_off {r p v n : Int} {A A' now lat : Int → Int} (h : RWN r A now lat n) (hs : st1 A A' p v) (hp : (r + 2 ≤ p ∧ p < r + 267 ∧ (p < r + 219 ∨ r + 243 ≤ p ∨ 1 ≤ v)) ∨ (r + 363 ≤ p ∧ p < r + 539)) : RWN r A' now lat n := by
  obtain ⟨A0, h1, h2, h3, h4⟩ := h
  have hr := rws_r h1
  refine ⟨fun j => if j = p then v else A0 j, rws_off (A := A0) (p := p) (v := v) h1 (fun j a => ⟨fun q => if_pos q, fun q => if_neg q⟩) hp, ?_, ?_, fun j a c => ?_⟩
  · show (if r = p then v else A0 r) ≤ 23 ∧ (if r = p then v else A0 r) = n
    rw [if_neg (by omega)]; exact h2
  · show A' r = (if r = p then v else A0 r) + 1
    rw [if_neg (by omega), (hs r (by omega)).2 (by omega)]; exact h3
  · show A' j = if j = p then v else A0 j
    by_cases q : j = p
    · rw [if_pos q]; exact (hs j a).1 q
    · rw [if_neg q, (hs j a).2 q]; exact h4 j a c
theorem rwn_fin {r p v n : Int} {A A' now lat : Int → Int} (h : RWN r A now lat n) (hs : st1 A A' p v) (hp : p = r + 219 + n) (hv : 1 ≤ v) : RWS r A' now lat := by
  have hl := rwn_r h
  obtain ⟨A0, h1, h2, h3, h4⟩ := h
  have sg := rws_sg h1
  have b := sg.1
  have k : ∀ j, 0 ≤ j → j ≠ r → j ≠ p → A' j = A0 j := fun j a c d => by rw [(hs j a).2 d]; exact h4 j a c
  have k0 : A' r = A0 r + 1 := by rw [(hs r (by omega)).2 (by omega)]; exact h3
  have k1 := k (r + 1) (by omega) (by omega) (by omega)
  have z : SZ1 r A' := fun i i0 i1 => by
    by_cases q : r + 219 + i = p
    · rw [(hs _ (by omega)).1 q]; exact hv
    · rw [k _ (by omega) (by omega) q]; exact b.2.2.2.2 i i0 (by omega)
  refine rws_upd h1 (fun j a c => k j a (by omega) (by omega)) ⟨⟨by omega, by omega, by omega, by omega, z⟩, ?_⟩
  rw [k0]
  exact gok_more (n := A0 r) (by omega) (gok_congr rfl k1 (fun e e0 e1 => k _ (by omega) (by omega) (by omega)) (fun e e0 e1 => k _ (by omega) (by omega) (by omega)) sg.2)
