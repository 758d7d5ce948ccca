/-! dropNode, the reader's rows -/
def HSP (r : Int) (A : Int → Int) (e i z : Int) : Prop := z ≠ 0 ↔ inc A r e i
def BTL (r : Int) (A : Int → Int) (a b i : Int) : Prop := ∀ e, 0 ≤ e → e < i → ¬ (inc A r e a ∧ inc A r e b ∧ a ≠ b)
def BTP (r : Int) (A : Int → Int) (a b z : Int) : Prop := z < 0 → BTL r A a b (A (r + 1))
def dec1 (i t : Int) : Int := if i < t then t - 1 else t
def cst (A A' : Int → Int) (p i : Int) : Prop := (i < A p ∧ ∃ q v, st1 A A' q v ∧ q = p ∧ v = A q - 1) ∨ (A p ≤ i ∧ A' = A)
theorem cst_is {A A' : Int → Int} {p i : Int} (p0 : 0 ≤ p) (h : cst A A' p i) : A' p = dec1 i (A p) ∧ ∀ j, 0 ≤ j → j ≠ p → A' j = A j := by
  unfold dec1
  rcases h with ⟨a, q, v, s, e, w⟩ | ⟨a, e⟩
  · rw [if_pos a]
    exact ⟨((s p p0).1 e.symm).trans (by rw [w, e]), fun j c d => (s j c).2 (by omega)⟩
  · rw [if_neg (by omega), e]
    exact ⟨rfl, fun _ _ _ => rfl⟩
def DN3 (r : Int) (A now lat : Int → Int) (i e : Int) : Prop := ∃ A0, RWS r A0 now lat ∧ 0 ≤ i ∧ i < A0 r ∧ NOI r A0 (-1) i ∧ (∀ j, 0 ≤ j → (j < r + 267 ∨ r + 363 ≤ j) → A j = A0 j) ∧ (∀ f, 0 ≤ f → f < 48 → f < e → A (r + 267 + f) = dec1 i (A0 (r + 267 + f)) ∧ A (r + 315 + f) = dec1 i (A0 (r + 315 + f))) ∧ ∀ f, 0 ≤ f → f < 48 → e ≤ f → A (r + 267 + f) = A0 (r + 267 + f) ∧ A (r + 315 + f) = A0 (r + 315 + f)
theorem dn3_start {r i e : Int} {A now lat : Int → Int} (h : RWS r A now lat) (hi : NDA r A i) (e' : Int) (hn : NOI r A e' i) (h0 : e' < 0) (he : e = 0) : DN3 r A now lat i e :=
  ⟨A, h, hi.1, hi.2, fun f a b => hn f (by omega) b, fun _ _ _ => rfl, fun f a b c => by omega, fun _ _ _ _ => ⟨rfl, rfl⟩⟩
theorem dn3_len {r i e : Int} {A now lat : Int → Int} (h : DN3 r A now lat i e) : (0 ≤ r ∧ r ≤ 66297) ∧ (0 ≤ i ∧ i < A r ∧ A r ≤ 24) ∧ 0 ≤ A (r + 1) ∧ A (r + 1) ≤ 48 := by
  obtain ⟨A0, h1, h2, h3, h4, h6, _⟩ := h
  have hr := rws_r h1
  have := (rws_sg h1).1
  rw [h6 (r + 1) (by omega) (by omega), h6 r (by omega) (by omega)]
  omega
theorem dn3_step {r i e e' : Int} {A A1 A2 now lat : Int → Int} (h : DN3 r A now lat i e) (he : e' = e + 1) (e0 : 0 ≤ e) (e1 : e < A (r + 1)) (c1 : cst A A1 (r + 267 + e) i) (c2 : cst A1 A2 (r + 315 + e) i) : DN3 r A2 now lat i e' := by
  have hl := dn3_len h
  obtain ⟨A0, h1, h2, h3, h4, h6, h7, h8⟩ := h
  obtain ⟨a1, a2⟩ := cst_is (by omega) c1
  obtain ⟨b1, b2⟩ := cst_is (by omega) c2
  have kp : ∀ j, 0 ≤ j → j ≠ r + 267 + e → j ≠ r + 315 + e → A2 j = A j := fun j a b c => by rw [b2 j a c, a2 j a b]
  refine ⟨A0, h1, h2, h3, h4, fun j a b => by rw [kp j a (by omega) (by omega)]; exact h6 j a b, fun f a b c => ?_, fun f a b c => ?_⟩
  · by_cases q : f = e
    · have z := h8 e e0 (by omega) (by omega)
      rw [q]
      exact ⟨by rw [b2 _ (by omega) (by omega), a1, z.1], by rw [b1, a2 _ (by omega) (by omega), z.2]⟩
    · rw [kp _ (by omega) (by omega) (by omega), kp _ (by omega) (by omega) (by omega)]; exact h7 f a b (by omega)
  · rw [kp _ (by omega) (by omega) (by omega), kp _ (by omega) (by omega) (by omega)]; exact h8 f a b (by omega)
def DN5 (r : Int) (A now lat : Int → Int) : Prop := ∃ A0, RWS r A0 now lat ∧ (∀ j, 0 ≤ j → (j < r ∨ r + 539 ≤ j) → A j = A0 j) ∧ (1 ≤ A r ∧ A r ≤ 24 ∧ 0 ≤ A (r + 1) ∧ A (r + 1) ≤ 48 ∧ SZ1 r A) ∧ GOK (A r - 1) (A (r + 1)) (fun e => A (r + 267 + e)) (fun e => A (r + 315 + e))
theorem dec1_inj {i s t : Int} (hs : s ≠ i) (ht : t ≠ i) (h : dec1 i s = dec1 i t) : s = t := by
  unfold dec1 at h
  revert h
  split <;> split <;> omega
theorem dec1_rng {i t n : Int} (h0 : 0 ≤ t) (h1 : t < n) (i0 : 0 ≤ i) (i1 : i < n) (hn : t ≠ i) : 0 ≤ dec1 i t ∧ dec1 i t < n - 1 := by
  unfold dec1
  split <;> omega
theorem dn5_of {r i e : Int} {A now lat : Int → Int} (h : DN3 r A now lat i e) (he : A (r + 1) ≤ e) : DN5 r A now lat := by
  have hl := dn3_len h
  obtain ⟨A0, h1, h2, h3, h4, h6, h7, h8⟩ := h
  have em : A (r + 1) = A0 (r + 1) := h6 (r + 1) (by omega) (by omega)
  have e0 : A r = A0 r := h6 r (by omega) (by omega)
  have sg := rws_sg h1
  have bd := sg.1
  refine ⟨A0, h1, fun j a b => h6 j a (by omega), ⟨by omega, by omega, by omega, by omega, fun i' i0 i1 => by rw [h6 _ (by omega) (by omega)]; exact bd.2.2.2.2 i' i0 (by omega)⟩, fun f a b => ?_, fun f g a b c => ?_⟩
  · have z := h7 f a (by omega) (by omega)
    have y := sg.2.1 f a (by omega)
    have x := h4 f (by omega) (by omega)
    have t1 := dec1_rng y.1 y.2.1 h2 h3 (fun q => x (Or.inl q))
    have t2 := dec1_rng y.2.2.1 y.2.2.2.1 h2 h3 (fun q => x (Or.inr q))
    show 0 ≤ A (r + 267 + f) ∧ A (r + 267 + f) < A r - 1 ∧ 0 ≤ A (r + 315 + f) ∧ A (r + 315 + f) < A r - 1 ∧ A (r + 267 + f) ≠ A (r + 315 + f)
    rw [z.1, z.2, e0]
    exact ⟨t1.1, t1.2, t2.1, t2.2, fun q => y.2.2.2.2 (dec1_inj (fun q => x (Or.inl q)) (fun q => x (Or.inr q)) q)⟩
  · have z := h7 f a (by omega) (by omega)
    have z' := h7 g (by omega) (by omega) (by omega)
    have x := h4 f (by omega) (by omega)
    have x' := h4 g (by omega) (by omega)
    show ¬ ((A (r + 267 + f) = A (r + 267 + g) ∧ A (r + 315 + f) = A (r + 315 + g)) ∨ (A (r + 267 + f) = A (r + 315 + g) ∧ A (r + 315 + f) = A (r + 267 + g)))
    rw [z.1, z.2, z'.1, z'.2]
    intro w
    refine sg.2.2 f g a b (by omega) ?_
    rcases w with ⟨w1, w2⟩ | ⟨w1, w2⟩
    · exact Or.inl ⟨dec1_inj (fun q => x (Or.inl q)) (fun q => x' (Or.inl q)) w1, dec1_inj (fun q => x (Or.inr q)) (fun q => x' (Or.inr q)) w2⟩
    · exact Or.inr ⟨dec1_inj (fun q => x (Or.inl q)) (fun q => x' (Or.inr q)) w1, dec1_inj (fun q => x (Or.inr q)) (fun q => x' (Or.inl q)) w2⟩
theorem dn5_r {r : Int} {A now lat : Int → Int} (h : DN5 r A now lat) : (0 ≤ r ∧ r ≤ 66297) ∧ 1 ≤ A r ∧ A r ≤ 24 := by
  obtain ⟨A0, h1, _, h3, _⟩ := h
  exact ⟨rws_r h1, h3.1, h3.2.1⟩
theorem dn5_sz {r : Int} {A now lat : Int → Int} (h : DN5 r A now lat) : SZ1 r A := by
  obtain ⟨A0, h1, _, h3, _⟩ := h
  exact h3.2.2.2.2
theorem dn5_off {r p v : Int} {A A' now lat : Int → Int} (h : DN5 r A now lat) (hs : st1 A A' p v) (hp : r + 2 ≤ p ∧ p < r + 267 ∧ (p < r + 219 ∨ r + 243 ≤ p ∨ 1 ≤ v)) : DN5 r A' now lat := by
  have hr := dn5_r h
  obtain ⟨A0, h1, h2, h3, h4⟩ := h
  have k : ∀ j, 0 ≤ j → j ≠ p → A' j = A j := fun j a c => (hs j a).2 c
  have k0 := k r (by omega) (by omega)
  have k1 := k (r + 1) (by omega) (by omega)
  exact ⟨A0, h1, fun j a b => by rw [k j a (by omega)]; exact h2 j a b, ⟨by omega, by omega, by omega, by omega, fun i i0 i1 => by
    by_cases q : r + 219 + i = p
    · rw [(hs _ (by omega)).1 q]; omega
    · rw [k _ (by omega) q]; exact h3.2.2.2.2 i i0 (by omega)⟩, gok_congr (by rw [k0]) k1 (fun e e0 e1 => k _ (by omega) (by omega)) (fun e e0 e1 => k _ (by omega) (by omega)) h4⟩
theorem dn5_two {r p v p1 v1 k q : Int} {A A1 A2 now lat : Int → Int} (h : DN5 r A now lat) (s1 : st1 A A1 p1 v1) (h1 : r + 2 ≤ p1 ∧ p1 < r + 219) (s2 : st1 A1 A2 p v) (hp : p = r + 219 + k) (hv : v = A1 q) (hq : q = r + 219 + k + 1) (k0 : 0 ≤ k) (k1 : k + 1 < A r) : DN5 r A2 now lat := by
  have d := dn5_off h s1 (by omega)
  have hr := dn5_r h
  have e : A1 r = A r := (s1 r (by omega)).2 (by omega)
  have z := dn5_sz d (k + 1) (by omega) (by omega)
  rw [show r + 219 + (k + 1) = q by omega, ← hv] at z
  exact dn5_off d s2 (by omega)
theorem dn5_end {r p v : Int} {A A' now lat : Int → Int} (h : DN5 r A now lat) (hs : st1 A A' p v) (hp : p = r) (hv' : v = A p - 1) : RWS r A' now lat := by
  have hv : v = A r - 1 := by rw [← hp]; exact hv'
  have hr := dn5_r h
  obtain ⟨A0, h1, h2, h3, h4⟩ := h
  have k : ∀ j, 0 ≤ j → j ≠ p → A' j = A j := fun j a c => (hs j a).2 c
  have k0 : A' r = A r - 1 := ((hs r (by omega)).1 hp.symm).trans hv
  have k1 := k (r + 1) (by omega) (by omega)
  exact rws_upd h1 (fun j a b => by rw [k j a (by omega)]; exact h2 j a b) ⟨⟨by omega, by omega, by omega, by omega, fun i i0 i1 => by rw [k _ (by omega) (by omega)]; exact h3.2.2.2.2 i i0 (by omega)⟩, gok_congr k0 k1 (fun e e0 e1 => k _ (by omega) (by omega)) (fun e e0 e1 => k _ (by omega) (by omega)) h4⟩
/-! back -/
theorem rows_back {A now now' lat : Int → Int} {g p v : Int} (h : ROWS A now lat) (g0 : 0 ≤ g) (g1 : g < 4) (hs : st1 now now' p v) (hp : p = g) (h0 : 0 ≤ v) (h1 : v ≤ lat g) : ROWS A now' lat := by
  intro g' a b
  have z := h g' a b
  refine ⟨?_, z.2⟩
  by_cases q : g' = g
  · rw [q, (hs g g0).1 hp.symm]; rw [q] at z; omega
  · rw [(hs g' a).2 (by omega)]; exact z.1
/-! clear, read -/
def RWX (A now lat : Int → Int) (r : Int) : Prop := RWS r A now lat
def CL2 (A now lat : Int → Int) (r i : Int) : Prop := ∃ A0, RWS r A0 now lat ∧ (∀ j, 0 ≤ j → (j < r ∨ r + 539 ≤ j) → A j = A0 j) ∧ ∀ j, 0 ≤ j → j < i → A (r + j) = 0
theorem cl2_start {r i : Int} {A now lat : Int → Int} (h : RWX A now lat r) (hi : i = 0) : CL2 A now lat r i := ⟨A, h, fun _ _ _ => rfl, fun j a b => by omega⟩
theorem cl2_step {r i i' p v : Int} {A A' now lat : Int → Int} (h : CL2 A now lat r i) (hi : i' = i + 1) (i0 : 0 ≤ i) (i1 : i < 539) (hs : st1 A A' p v) (hp : p = r + i) (hv : v = 0) : CL2 A' now lat r i' := by
  obtain ⟨A0, h1, h2, h3⟩ := h
  have hr := rws_r h1
  refine ⟨A0, h1, fun j a b => by rw [(hs j a).2 (by omega)]; exact h2 j a b, fun j a b => ?_⟩
  by_cases q : j = i
  · rw [q, (hs _ (by omega)).1 (by omega)]; exact hv
  · rw [(hs _ (by omega)).2 (by omega)]; exact h3 j a (by omega)
theorem cl2_end {r i p v q w : Int} {A A1 A2 now lat : Int → Int} (h : CL2 A now lat r i) (hi : 539 ≤ i) (hs : st1 A A1 p v) (hp : p = r + 2) (ht : st1 A1 A2 q w) (hq : q = r + 531) : RWX A2 now lat r := by
  obtain ⟨A0, h1, h2, h3⟩ := h
  have hr := rws_r h1
  have k : ∀ j, 0 ≤ j → j ≠ p → j ≠ q → A2 j = A j := fun j a c d => by rw [(ht j a).2 d, (hs j a).2 c]
  have z0 := h3 0 (by omega) (by omega)
  rw [show r + 0 = r by omega] at z0
  have z1 := h3 1 (by omega) (by omega)
  have k0 := k r (by omega) (by omega) (by omega)
  have k1 := k (r + 1) (by omega) (by omega) (by omega)
  exact rws_upd h1 (fun j a b => by rw [k j a (by omega) (by omega)]; exact h2 j a b) ⟨⟨by omega, by omega, by omega, by omega, fun i i0 i1 => by omega⟩, fun e e0 e1 => by omega, fun e f e0 ef f1 => by omega⟩
def FRS (F : Int → Int) : Prop := SG F 0
def FR1 (r : Int) (A F : Int → Int) (i : Int) : Prop := ∀ j, 0 ≤ j → j < i → F j = A (r + j)
theorem frs_of {r i : Int} {A F now lat : Int → Int} (h : RWS r A now lat) (hf : FR1 r A F i) (hi : 539 ≤ i) : FRS F := sg_congr (rws_sg h) (fun j a b => by rw [show (0 : Int) + j = j by omega]; exact hf j a (by omega))
def RD2 (r : Int) (A now lat F : Int → Int) (i : Int) : Prop := FRS F ∧ ∃ A0, RWS r A0 now lat ∧ (∀ j, 0 ≤ j → (j < r ∨ r + 539 ≤ j) → A j = A0 j) ∧ ∀ j, 0 ≤ j → j < i → A (r + j) = F j
theorem rd2_start {r i : Int} {A F now lat : Int → Int} (h : RWS r A now lat) (hf : FRS F) (hi : i = 0) : RD2 r A now lat F i := ⟨hf, A, h, fun _ _ _ => rfl, fun j a b => by omega⟩
theorem rd2_step {r i i' p v : Int} {A A' F now lat : Int → Int} (h : RD2 r A now lat F i) (hi : i' = i + 1) (i0 : 0 ≤ i) (i1 : i < 539) (hs : st1 A A' p v) (hp : p = r + i) (hv : v = F i) : RD2 r A' now lat F i' := by
  obtain ⟨hf, A0, h1, h2, h3⟩ := h
  have hr := rws_r h1
  refine ⟨hf, A0, h1, fun j a b => by rw [(hs j a).2 (by omega)]; exact h2 j a b, fun j a b => ?_⟩
  by_cases q : j = i
  · rw [q, (hs _ (by omega)).1 (by omega)]; exact hv
  · rw [(hs _ (by omega)).2 (by omega)]; exact h3 j a (by omega)
theorem rd2_end {r i : Int} {A F now lat : Int → Int} (h : RD2 r A now lat F i) (hi : 539 ≤ i) : ROWS A now lat := by
  obtain ⟨hf, A0, h1, h2, h3⟩ := h
  exact (rws_upd h1 h2 (sg_congr (r := 0) hf (fun j a b => by rw [show (0 : Int) + j = j by omega]; exact h3 j a (by omega)))).1
theorem rows_new {r g p v q w : Int} {A now now' lat lat' : Int → Int} (h : RWS r A now lat) (g0 : 0 ≤ g) (g1 : g < 4) (hs : st1 now now' p v) (hp : p = g) (hv : v = 0) (ht : st1 lat lat' q w) (hq : q = g) (hw : w = 0) : ROWS A now' lat' := by
  intro g' a b
  have z := h.1 g' a b
  by_cases e : g' = g
  · rw [e, (hs g g0).1 hp.symm, (ht g g0).1 hq.symm, hv, hw]
    rw [e] at z
    exact ⟨by omega, fun k k0 k1 => z.2 k k0 (by omega)⟩
  · rw [(hs g' a).2 (by omega), (ht g' a).2 (by omega)]; exact z
/-- what a name that was met is good for -/
def MET (r fault : Int) (A : Int → Int) (before z : Int) : Prop := fault = 0 → (0 ≤ z ∧ z < A r) ∧ (0 ≤ before → NWE r A before z)
def MEB (r : Int) (A : Int → Int) (before : Int) : Prop := 0 ≤ before → before < A r
def EDI (r fault : Int) (A : Int → Int) (a : Int) : Prop := fault = 0 → 0 ≤ a ∧ a < A r
def NDB (r : Int) (A : Int → Int) (z : Int) : Prop := z = -1 ∨ (0 ≤ z ∧ z < A r)
theorem nwe_old {r a z : Int} {A now lat : Int → Int} (h : RWS r A now lat) (hz : 0 ≤ z) (hz1 : z < A r) (ha : MEB r A a) (a0 : 0 ≤ a) (hne : z ≠ a) (hb : BTL r A z a (A (r + 1))) (he : A (r + 1) ≤ 47) : NWE r A a z :=
  ⟨a0, ha a0, hz, hz1, fun q => hne q.symm, he, fun e e0 e1 w => hb e e0 e1 (by
    rcases w with ⟨w1, w2⟩ | ⟨w1, w2⟩
    · exact ⟨Or.inr w2, Or.inl w1, hne⟩
    · exact ⟨Or.inl w1, Or.inr w2, hne⟩)⟩
/-- a node that is new has no edge -/
theorem nwe_new {r a z p v : Int} {A A' now lat : Int → Int} (h : RWS r A now lat) (hs : st1 A A' p v) (hp : p = r) (hv' : v = A p + 1) (hz : z = A r) (ha : MEB r A a) (a0 : 0 ≤ a) (he : A (r + 1) ≤ 47) : NWE r A' a z := by
  have hv : v = A r + 1 := by rw [← hp]; exact hv'
  have hr := rws_r h
  have sg := rws_sg h
  have b := sg.1
  have k : ∀ j, 0 ≤ j → j ≠ p → A' j = A j := fun j a c => (hs j a).2 c
  have k0 : A' r = A r + 1 := ((hs r (by omega)).1 hp.symm).trans hv
  have a1 := ha a0
  refine ⟨a0, by omega, by omega, by omega, by omega, by rw [k _ (by omega) (by omega)]; exact he, fun e e0 e1 w => ?_⟩
  rw [k _ (by omega) (by omega)] at e1
  rw [k _ (by omega) (by omega), k _ (by omega) (by omega)] at w
  have := sg.2.1 e e0 e1
  have t1 : A (r + 267 + e) < A r := this.2.1
  have t2 : A (r + 315 + e) < A r := this.2.2.2.1
  omega
/-- what lies beside them may change -/
theorem nwe_off {r a z p v : Int} {A A' : Int → Int} (h0 : 0 ≤ r) (h : NWE r A a z) (hs : st1 A A' p v) (hp : (r + 2 ≤ p ∧ p < r + 267) ∨ r + 363 ≤ p) : NWE r A' a z := by
  obtain ⟨n1, n2, n3, n4, n5, n6, n7⟩ := h
  have k : ∀ j, 0 ≤ j → j ≠ p → A' j = A j := fun j a c => (hs j a).2 c
  refine ⟨n1, by rw [k _ h0 (by omega)]; exact n2, n3, by rw [k _ h0 (by omega)]; exact n4, n5, by rw [k _ (by omega) (by omega)]; exact n6, fun e e0 e1 => ?_⟩
  rw [k _ (by omega) (by omega)] at e1
  rw [k _ (by omega) (by omega), k _ (by omega) (by omega)]
  exact n7 e e0 e1
def MEN (r : Int) (A : Int → Int) (before z : Int) : Prop := (0 ≤ z ∧ z < A r) ∧ (0 ≤ before → NWE r A before z)
theorem men_off {r a z p v : Int} {A A' : Int → Int} (h0 : 0 ≤ r) (h : MEN r A a z) (hs : st1 A A' p v) (hp : (r + 2 ≤ p ∧ p < r + 267) ∨ r + 363 ≤ p) : MEN r A' a z :=
  ⟨by rw [(hs r (by omega)).2 (by omega)]; exact h.1, fun q => nwe_off h0 (h.2 q) hs hp⟩
def DX2 (r : Int) (A now lat : Int → Int) (e k : Int) : Prop := DE2 r A now lat e k (-1)
def CPn (r : Int) (A : Int → Int) (a b : Int) : Prop := CPX A r 1 a b
def CPe (r : Int) (A : Int → Int) (a b : Int) : Prop := CPX A r 2 a b
def CPd (r : Int) (A : Int → Int) (a b : Int) : Prop := CPX A r 3 a b
def CPv (r : Int) (A : Int → Int) (a b : Int) : Prop := CPX A r 4 a b
def T13n (A now lat : Int → Int) (g i a b : Int) : Prop := T13 A now lat g i 1 a b
def T13e (A now lat : Int → Int) (g i a b : Int) : Prop := T13 A now lat g i 2 a b
def T13d (A now lat : Int → Int) (g i a b : Int) : Prop := T13 A now lat g i 3 a b
def T13v (A now lat : Int → Int) (g i a b : Int) : Prop := T13 A now lat g i 4 a b
def T13x (A now lat : Int → Int) (g i : Int) : Prop := T13 A now lat g i 0 0 0
def T73n (A now lat : Int → Int) (g s i a b : Int) : Prop := T73 A now lat g s i 1 a b
def T73e (A now lat : Int → Int) (g s i a b : Int) : Prop := T73 A now lat g s i 2 a b
def T73d (A now lat : Int → Int) (g s i a b : Int) : Prop := T73 A now lat g s i 3 a b
def T73v (A now lat : Int → Int) (g s i a b : Int) : Prop := T73 A now lat g s i 4 a b
def T73x (A now lat : Int → Int) (g s i : Int) : Prop := T73 A now lat g s i 0 0 0
def T130n (A now lat : Int → Int) (g a b : Int) : Prop := T130 A now lat g 1 a b
def T130e (A now lat : Int → Int) (g a b : Int) : Prop := T130 A now lat g 2 a b
def T130d (A now lat : Int → Int) (g a b : Int) : Prop := T130 A now lat g 3 a b
def T130v (A now lat : Int → Int) (g a b : Int) : Prop := T130 A now lat g 4 a b
def T130x (A now lat : Int → Int) (g : Int) : Prop := T130 A now lat g 0 0 0
theorem cpx_0 {A : Int → Int} {r : Int} : CPX A r 0 0 0 := ⟨fun q => by omega, fun q => by omega, fun q => by omega, fun q => by omega⟩
/-! isOuter -/
def OUI (r n m : Int) (A pt ph : Int → Int) (i : Int) : Prop := SG A r ∧ n = A r ∧ m = A (r + 1) + i ∧ GOK (n + 1) m pt ph ∧ (∀ e, 0 ≤ e → e < A (r + 1) → pt e < n ∧ ph e < n) ∧ ∀ e, A (r + 1) ≤ e → e < m → pt e = e - A (r + 1) ∧ ph e = n
theorem oui_start {r n m i : Int} {A pt ph al : Int → Int} (h : PLN r n m A pt ph al) (hi : i = 0) : OUI r n m A pt ph i := by
  have g := pln_gok h
  obtain ⟨h1, h2, h3, h4⟩ := h
  refine ⟨h1, h2, by omega, gok_more (by omega) g, fun e a b => ?_, fun e a b => by omega⟩
  have := g.1 e a (by omega)
  exact ⟨this.2.1, this.2.2.2.1⟩
theorem oui_step {r n m m' i i' p v q w : Int} {A pt pt' ph ph' : Int → Int} (h : OUI r n m A pt ph i) (i0 : 0 ≤ i) (i1 : i < A r) (hi : i' = i + 1) (hm : m' = m + 1) (hs : st1 pt pt' p v) (hp : p = m) (hv : v = i) (ht : st1 ph ph' q w) (hq : q = m) (hw : w = n) : OUI r n m' A pt' ph' i' := by
  obtain ⟨h1, h2, h3, h4, h5, h6⟩ := h
  have b := h1.1
  have e1 : ∀ j, 0 ≤ j → j < m → pt' j = pt j ∧ ph' j = ph j := fun j a b => ⟨(hs j a).2 (by omega), (ht j a).2 (by omega)⟩
  have e2 : pt' m = i ∧ ph' m = n := ⟨((hs m (by omega)).1 hp.symm).trans hv, ((ht m (by omega)).1 hq.symm).trans hw⟩
  refine ⟨h1, h2, by omega, ⟨fun e a b => ?_, fun e f a b c => ?_⟩, fun e a b => by rw [(e1 e a (by omega)).1, (e1 e a (by omega)).2]; exact h5 e a b, fun e a b => ?_⟩
  · by_cases q : e = m
    · rw [q, e2.1, e2.2]; omega
    · rw [(e1 e a (by omega)).1, (e1 e a (by omega)).2]; exact h4.1 e a (by omega)
  · rw [(e1 e a (by omega)).1, (e1 e a (by omega)).2]
    by_cases q : f = m
    · rw [q, e2.1, e2.2]
      by_cases z : e < A (r + 1)
      · have := h5 e a z; omega
      · have := h6 e (by omega) (by omega); omega
    · rw [(e1 f (by omega) (by omega)).1, (e1 f (by omega) (by omega)).2]; exact h4.2 e f a b (by omega)
  · by_cases q : e = m
    · rw [q, e2.1, e2.2]; omega
    · rw [(e1 e (by omega) (by omega)).1, (e1 e (by omega) (by omega)).2]; exact h6 e a (by omega)
theorem nda_off {r i p v : Int} {A A' : Int → Int} (h0 : 0 ≤ r) (h : NDA r A i) (hs : st1 A A' p v) (hp : p ≠ r) : NDA r A' i := by
  unfold NDA; rw [(hs r h0).2 (by omega)]; exact h
theorem nda_eq {r i : Int} {A A' : Int → Int} (h : NDA r A i) (e : A' r = A r) : NDA r A' i := by
  unfold NDA; rw [e]; exact h
theorem men_new {r a z p v : Int} {A A' now lat : Int → Int} (h : RWS r A now lat) (hs : st1 A A' p v) (hp : p = r) (hv : v = A p + 1) (hz : z = A r) (ha : MEB r A a) (he : a < 0 ∨ A (r + 1) ≠ 48) : MEN r A' a z := by
  have hr := rws_r h
  have b := (rws_sg h).1
  refine ⟨?_, fun q => nwe_new h hs hp hv hz ha q (by omega)⟩
  rw [(hs r (by omega)).1 hp.symm, hv, hp]
  omega
theorem men_old {r a z : Int} {A now lat : Int → Int} (h : RWS r A now lat) (hz : NDB r A z) (z0 : 0 ≤ z) (ha : MEB r A a) (hc : a < 0 ∨ (z ≠ a ∧ BTL r A z a (A (r + 1)) ∧ A (r + 1) ≠ 48)) : MEN r A a z := by
  have b := (rws_sg h).1
  have z1 : z < A r := by
    rcases hz with q | q
    · omega
    · exact q.2
  refine ⟨⟨z0, z1⟩, fun q => ?_⟩
  rcases hc with c | ⟨c1, c2, c3⟩
  · omega
  · exact nwe_old h z0 z1 ha q c1 c2 (by omega)
