/-! bestOrder, ring, putBest -/
def DSM (n : Int) (o : Int → Int) : Prop := DIS o n
def ORQ (n : Int) (o : Int → Int) (g : Int) : Prop := ORM o n g
def ORZ (n : Int) (o : Int → Int) (g z : Int) : Prop := z ≠ 0 → ORM o n g
def ORR (n : Int) (o : Int → Int) (g z : Int) : Prop := ORN o n g z
def OZ2 (o : Int → Int) (n g z : Int) : Prop := z ≠ 0 → ORM o n g
theorem orm_start {o : Int → Int} {n g : Int} (n0 : 0 ≤ n) (n8 : n ≤ 8) (hg : g = 16777216) : ORM o n g := by
  have := VO_bd (o := o) n0 n8
  unfold ORM; omega
theorem orm_pos {o : Int → Int} {n g : Int} (n0 : 0 ≤ n) (n8 : n ≤ 8) (h : ORM o n g) : 1 ≤ g := by
  have := VO_bd (o := o) n0 n8
  unfold ORM at h; omega
def MBD (n : Int) (mb : Int → Int) : Prop := ∀ s t, 0 ≤ s → s < t → t < n → mb s ≠ mb t
def MBI (n : Int) (mb : Int → Int) (i : Int) : Prop := (∀ s t, 0 ≤ s → s < t → t < n → mb s ≠ mb t) ∧ ∀ s, 0 ≤ s → s < n → mb s < i
theorem mbi_take {n n' i i' p v : Int} {mb mb' : Int → Int} (h : MBI n mb i) (n0 : 0 ≤ n) (hs : st1 mb mb' p v) (hp : p = n) (hv : v = i) (hn : n' = n + 1) (hi : i' = i + 1) : MBI n' mb' i' := by
  refine ⟨fun s t s0 st t1 => ?_, fun s s0 s1 => ?_⟩
  · rw [(hs s s0).2 (by omega)]
    by_cases q : t = n
    · rw [q, (hs n n0).1 hp.symm, hv]; have := h.2 s s0 (by omega); omega
    · rw [(hs t (by omega)).2 (by omega)]; exact h.1 s t s0 st (by omega)
  · by_cases q : s = n
    · rw [q, (hs n n0).1 hp.symm, hv]; omega
    · rw [(hs s s0).2 (by omega)]; have := h.2 s s0 (by omega); omega
theorem mbi_skip {n i i' : Int} {mb : Int → Int} (h : MBI n mb i) (hi : i' = i + 1) : MBI n mb i' := ⟨h.1, fun s a b => by have := h.2 s a b; omega⟩
def CYM (o mb : Int → Int) (k : Int) : Prop := ∀ t, 0 ≤ t → t < k → o t = mb t
theorem dis_cym {n k : Int} {o mb : Int → Int} (h : MBD n mb) (hc : CYM o mb k) (hk : n ≤ k) : DIS o n := fun s t s0 st t1 => by
  rw [hc s s0 (by omega), hc t (by omega) (by omega)]; exact h s t s0 st t1
def IDN (o : Int → Int) (k : Int) : Prop := ∀ t, 0 ≤ t → t < k → o t = t
def PRM (o : Int → Int) (n : Int) : Prop := ∀ v, 0 ≤ v → v < n → ∃ k, 0 ≤ k ∧ k < n ∧ o k = v
theorem idn_dis {o : Int → Int} {n k : Int} (h : IDN o k) (hk : n ≤ k) : DIS o n ∧ PRM o n := ⟨fun s t s0 st t1 => by rw [h s s0 (by omega), h t (by omega) (by omega)]; omega, fun v a b => ⟨v, a, b, h v a (by omega)⟩⟩
theorem idn_step {o o' : Int → Int} {k k' p v : Int} (h : IDN o k) (hk : k' = k + 1) (hs : st1 o o' p v) (hp : p = k) (hv : v = k) : IDN o' k' := by
  intro t a b
  by_cases q : t = k
  · rw [(hs t a).1 (by omega)]; omega
  · rw [(hs t a).2 (by omega)]; exact h t a (by omega)
/-- all but i, in n - 1 places -/
def WOI (o : Int → Int) (n i : Int) : Prop := ∀ v, 0 ≤ v → v < n → v ≠ i → ∃ k, 0 ≤ k ∧ k < n - 1 ∧ o k = v
def PB0 (o : Int → Int) (n i k : Int) : Prop := (PRM o n ∧ 0 ≤ i ∧ i < n) ∧ ∀ j, 0 ≤ j → j < k → o j ≠ i
theorem pb0_lt {o : Int → Int} {n i k : Int} (h : PB0 o n i k) : k < n := by
  obtain ⟨⟨h1, h2, h3⟩, h4⟩ := h
  obtain ⟨j, j0, j1, j2⟩ := h1 i h2 h3
  exact Classical.byContradiction (fun z => h4 j j0 (by omega) j2)
theorem pb0_next {o : Int → Int} {n i k k' : Int} (h : PB0 o n i k) (hk : k' = k + 1) (hn : o k ≠ i) : PB0 o n i k' := by
  refine ⟨h.1, fun j a b => ?_⟩
  by_cases q : j = k
  · rw [q]; exact hn
  · exact h.2 j a (by omega)
def PB1 (o : Int → Int) (n i k : Int) : Prop := (0 ≤ i ∧ i < n) ∧ ∃ o0 at', PRM o0 n ∧ o0 at' = i ∧ (0 ≤ at' ∧ at' ≤ k ∧ k ≤ n - 1) ∧ (∀ t, 0 ≤ t → t < at' → o t = o0 t) ∧ (∀ t, at' ≤ t → t < k → o t = o0 (t + 1)) ∧ ∀ t, k ≤ t → t < n → o t = o0 t
theorem pb1_start {o : Int → Int} {n i k : Int} (h : PB0 o n i k) (k0 : 0 ≤ k) (he : o k = i) : PB1 o n i k := ⟨h.1.2, o, k, h.1.1, he, ⟨k0, by omega, by have := pb0_lt h; omega⟩, fun _ _ _ => rfl, fun t a b => by omega, fun _ _ _ => rfl⟩
theorem pb1_step {o o' : Int → Int} {n i k k' p v r : Int} (h : PB1 o n i k) (hk : k' = k + 1) (k1 : k + 1 < n) (hs : st1 o o' p v) (hp : p = k) (hv : v = o r) (hr : r = k + 1) : PB1 o' n i k' := by
  obtain ⟨hi, o0, a, h1, h2, h3, h4, h5, h6⟩ := h
  refine ⟨hi, o0, a, h1, h2, by omega, fun t t0 t1 => by rw [(hs t t0).2 (by omega)]; exact h4 t t0 t1, fun t t0 t1 => ?_, fun t t0 t1 => by rw [(hs t (by omega)).2 (by omega)]; exact h6 t (by omega) t1⟩
  by_cases q : t = k
  · rw [q, (hs k (by omega)).1 hp.symm, hv, hr]; exact h6 (k + 1) (by omega) (by omega)
  · rw [(hs t (by omega)).2 (by omega)]; exact h5 t t0 (by omega)
theorem pb1_end {o : Int → Int} {n i k : Int} (h : PB1 o n i k) (hk : n ≤ k + 1) : WOI o n i ∧ 0 ≤ i ∧ i < n := by
  obtain ⟨hi, o0, a, h1, h2, h3, h4, h5, h6⟩ := h
  refine ⟨fun v v0 v1 vn => ?_, hi⟩
  obtain ⟨j, j0, j1, j2⟩ := h1 v v0 v1
  have : j ≠ a := fun e => vn (by rw [← j2, e]; exact h2)
  by_cases q : j < a
  · exact ⟨j, j0, by omega, by rw [h4 j j0 q]; exact j2⟩
  · refine ⟨j - 1, by omega, by omega, ?_⟩
    rw [h5 (j - 1) (by omega) (by omega), show j - 1 + 1 = j by omega]; exact j2
def WO2 (o : Int → Int) (n i : Int) : Prop := WOI o n i ∧ 0 ≤ i ∧ i < n
def PB2 (o : Int → Int) (n i p k : Int) : Prop := ∃ o0, WO2 o0 n i ∧ (1 ≤ p ∧ p ≤ k ∧ k ≤ n - 1) ∧ (∀ t, 0 ≤ t → t < k → o t = o0 t) ∧ ∀ t, k < t → t < n → o t = o0 (t - 1)
theorem pb2_start {o : Int → Int} {n i p k : Int} (h : WO2 o n i) (p1 : 1 ≤ p) (pn : p < n) (hk : k = n - 1) : PB2 o n i p k := ⟨o, h, by omega, fun _ _ _ => rfl, fun t a b => by omega⟩
theorem pb2_step {o o' : Int → Int} {n i p k k' s v r : Int} (h : PB2 o n i p k) (hk : k' = k - 1) (k1 : p < k) (hs : st1 o o' s v) (hss : s = k) (hv : v = o r) (hr : r = k - 1) : PB2 o' n i p k' := by
  obtain ⟨o0, h1, h2, h3, h4⟩ := h
  refine ⟨o0, h1, by omega, fun t t0 t1 => by rw [(hs t t0).2 (by omega)]; exact h3 t t0 (by omega), fun t t0 t1 => ?_⟩
  by_cases q : t = k
  · rw [q, (hs k (by omega)).1 hss.symm, hv, hr]; exact h3 (k - 1) (by omega) (by omega)
  · rw [(hs t (by omega)).2 (by omega)]; exact h4 t (by omega) t1
/-- i stands at p -/
def PB3 (o : Int → Int) (n i p k : Int) : Prop := ∃ o0, WO2 o0 n i ∧ (1 ≤ p ∧ p ≤ k ∧ k ≤ n - 1) ∧ (∀ t, 0 ≤ t → t < k → o t = o0 t) ∧ ∀ t, k < t → t < n → o t = o0 (t - 1)
theorem pb3_start {o o' : Int → Int} {n i p k q s v : Int} (h : PB2 o n i p k) (hk : k ≤ p) (hs : st1 o o' s v) (hss : s = p) (hq : q = p) : PB3 o' n i p q := by
  obtain ⟨o0, h1, h2, h3, h4⟩ := h
  exact ⟨o0, h1, by omega, fun t t0 t1 => by rw [(hs t t0).2 (by omega)]; exact h3 t t0 (by omega), fun t t0 t1 => by rw [(hs t (by omega)).2 (by omega)]; exact h4 t (by omega) t1⟩
theorem pb3_step {o o' : Int → Int} {n i p k k' s v r : Int} (h : PB3 o n i p k) (hk : k' = k + 1) (k1 : k + 1 < n) (hs : st1 o o' s v) (hss : s = k) (hv : v = o r) (hr : r = k + 1) : PB3 o' n i p k' := by
  obtain ⟨o0, h1, h2, h3, h4⟩ := h
  refine ⟨o0, h1, by omega, fun t t0 t1 => ?_, fun t t0 t1 => by rw [(hs t (by omega)).2 (by omega)]; exact h4 t (by omega) t1⟩
  by_cases q : t = k
  · rw [q, (hs k (by omega)).1 hss.symm, hv, hr, h4 (k + 1) (by omega) k1]; congr 1; omega
  · rw [(hs t t0).2 (by omega)]; exact h3 t t0 (by omega)
theorem pb3_end {o : Int → Int} {n i p k : Int} (h : PB3 o n i p k) (hk : n ≤ k + 1) : WO2 o n i := by
  obtain ⟨o0, h1, h2, h3, h4⟩ := h
  refine ⟨fun v v0 v1 vn => ?_, h1.2⟩
  obtain ⟨j, j0, j1, j2⟩ := h1.1 v v0 v1 vn
  exact ⟨j, j0, j1, by rw [h3 j j0 (by omega)]; exact j2⟩
theorem pb2_end {o o' : Int → Int} {n i p k s v : Int} (h : PB2 o n i p k) (hk : k ≤ p) (hs : st1 o o' s v) (hss : s = p) (hv : v = i) : PRM o' n := by
  obtain ⟨o0, h1, h2, h3, h4⟩ := h
  intro x x0 x1
  by_cases q : x = i
  · exact ⟨p, by omega, by omega, by rw [(hs p (by omega)).1 hss.symm, hv, q]⟩
  · obtain ⟨j, j0, j1, j2⟩ := h1.1 x x0 x1 q
    by_cases z : j < p
    · exact ⟨j, j0, by omega, by rw [(hs j j0).2 (by omega), h3 j j0 (by omega)]; exact j2⟩
    · exact ⟨j + 1, by omega, by omega, by rw [(hs _ (by omega)).2 (by omega), h4 (j + 1) (by omega) (by omega), show j + 1 - 1 = j by omega]; exact j2⟩
theorem pb_len {o : Int → Int} {n i p k : Int} (h : PB2 o n i p k) : 1 ≤ p ∧ p ≤ k ∧ k ≤ n - 1 := by obtain ⟨_, _, a, _⟩ := h; exact a
theorem pb3_len {o : Int → Int} {n i p k : Int} (h : PB3 o n i p k) : 1 ≤ p ∧ p ≤ k ∧ k ≤ n - 1 := by obtain ⟨_, _, a, _⟩ := h; exact a
theorem pb1_len {o : Int → Int} {n i k : Int} (h : PB1 o n i k) : 0 ≤ k ∧ k ≤ n - 1 := by obtain ⟨_, _, _, _, _, a, _⟩ := h; omega
