/-! setOrder -/
theorem inj_sur {f : Int → Int} {n v : Int} (h1 : ∀ j, 0 ≤ j → j < n → 0 ≤ f j ∧ f j < n) (h2 : ∀ i j, 0 ≤ i → i < j → j < n → f i ≠ f j) (v0 : 0 ≤ v) (v1 : v < n) : ∃ j, 0 ≤ j ∧ j < n ∧ f j = v := by
  refine Classical.byContradiction (fun no => ?_)
  have := pigeon (q := fun j => if j = n then v else f j) (n := n) (m := n + 1) (by omega) (fun k a b => by
    (try simp only [])
    split
    · omega
    · exact h1 k a (by omega)) (fun i j a b c => by
    (try simp only [])
    rw [if_neg (show ¬ i = n by omega)]
    by_cases e : j = n
    · rw [if_pos e]; exact fun w => no ⟨i, a, by omega, w⟩
    · rw [if_neg e]; exact h2 i j a b (by omega))
  omega
def SOW (pb pp lt ro : Int → Int) (n l p k : Int) : Prop := ∀ j, 0 ≤ j → j < k → ro j = lt (76 * l + pp (pb n + n * p + j))
theorem sow_step {pb pp lt ro ro' : Int → Int} {n l p k k' q v a b c d x y z : Int} (h : SOW pb pp lt ro n l p k) (hk : k' = k + 1) (hb : b = pb n) (hc : c = n * p) (hd : d = b + c) (hx : x = d + k) (hy : y = pp x) (hz : z = a + y) (ha : a = 76 * l) (hv : v = lt z) (hs : st1 ro ro' q v) (hq : q = k) : SOW pb pp lt ro' n l p k' := by
  intro j j0 j1
  by_cases e : j = k
  · rw [(hs j j0).1 (by omega), hv, hz, hy, hx, hd, hb, hc, ha, e]
  · rw [(hs j j0).2 (by omega)]; exact h j j0 (by omega)
theorem sow_bmr {pb pm pp lt ro il ls : Int → Int} {it lm n l p k : Int} (hT : PTB pb pm pp) (hB : LSB it lm il ls lt) (h : SOW pb pp lt ro n l p k) (hk : n ≤ k) (l0 : 0 ≤ l) (l1 : l < lm) (hn : n = ls l) (n6 : n ≤ 6) (p0 : 0 ≤ p) (p1 : p < pm n) : BMR it il ro n l := by
  obtain ⟨q1, q2, q3, q4⟩ := hB.2 l l0 l1
  rw [← hn] at q1 q2 q3 q4
  obtain ⟨⟨t1, t2, t3, t4, t5⟩, t6⟩ := hT n q1.1 n6
  have e1 : n * (p + 1) ≤ n * pm n := Int.mul_le_mul_of_nonneg_left (by omega) q1.1
  rw [Int.mul_add, Int.mul_one] at e1
  have e2 := Int.mul_nonneg q1.1 p0
  have pv : ∀ j, 0 ≤ j → j < n → 0 ≤ pp (pb n + n * p + j) ∧ pp (pb n + n * p + j) < n := fun j a b => by
    have := t5 (n * p + j) (by omega) (by omega)
    rwa [show pb n + (n * p + j) = pb n + n * p + j by omega] at this
  have pd : ∀ i j, 0 ≤ i → i < j → j < n → pp (pb n + n * p + i) ≠ pp (pb n + n * p + j) := fun i j a b c => t6 p i j p0 p1 a b c
  have rv : ∀ j, 0 ≤ j → j < n → ro j = lt (76 * l + pp (pb n + n * p + j)) := fun j a b => h j a (by omega)
  have dl : ∀ i j, 0 ≤ i → i < n → 0 ≤ j → j < n → i ≠ j → lt (76 * l + i) ≠ lt (76 * l + j) := fun i j a b c d e => by
    by_cases z : i < j
    · exact q3 i j a z d
    · exact fun w => q3 j i c (by omega) b w.symm
  refine ⟨fun j a b => ?_, fun i j a b c => ?_, fun i a b c => ?_⟩
  · rw [rv j a b]; have w := pv j a b; exact q2 _ w.1 w.2
  · rw [rv i a (by omega), rv j (by omega) c]
    have w := pv i a (by omega)
    have w' := pv j (by omega) c
    exact dl _ _ w.1 w.2 w'.1 w'.2 (pd i j a b c)
  · obtain ⟨m, m0, m1, m2⟩ := q4 i a b c
    obtain ⟨j, j0, j1, j2⟩ := inj_sur (f := fun j => pp (pb n + n * p + j)) pv pd m0 m1
    exact ⟨j, j0, j1, by rw [rv j j0 j1]; (try simp only [] at j2); rw [j2]; exact m2⟩
def ISS (lm : Int) (ls : Int → Int) (a : Int) : Prop := a ≠ 0 → ∀ l, 0 ≤ l → l < lm → ls l ≤ 6
def ISI (ls : Int → Int) (l : Int) : Prop := ∀ m, 0 ≤ m → m < l → ls m ≤ 6
theorem lsb_sz {it lm l n : Int} {il ls lt : Int → Int} (h : LSB it lm il ls lt) (l0 : 0 ≤ l) (l1 : l < lm) (hn : n = ls l) : 0 ≤ n ∧ n ≤ 72 := by
  have := (h.2 l l0 l1).1; have := h.1; omega
theorem bm1_next {lt ro ro' : Int → Int} {l k k' v : Int} (h : BM1 lt ro l k) (hk : k' = k + 1) (hs : st1 ro ro' k v) (hv : v = lt ((76 * l) + k)) : BM1 lt ro' l k' := bm1_step h hk hs rfl rfl hv
theorem btp_adj {r a b z : Int} {A : Int → Int} (h : BTP r A a b z) (ha : adj r A a b) : 0 ≤ z := by
  refine Classical.byContradiction (fun n => ?_)
  obtain ⟨e, e0, e1, h1, h2, h3⟩ := ha
  exact h (by omega) e e0 e1 ⟨h1, h2, h3⟩
theorem lsa_btp {r it lm li p a b z : Int} {A tu il fj la lb : Int → Int} (h : LSA r it lm li A tu il fj la lb) (p0 : 0 ≤ p) (p1 : p < li) (ha : a = la p) (hb : b = lb p) (a1 : a < A r) (b1 : b < A r) (hz : BTP r A a b z) : 0 ≤ z := by
  have q := (h.2.2.2.1 p p0 p1).2.2.2
  rw [← ha, ← hb] at q
  exact btp_adj hz (q a1 b1)
theorem paq_step {am am' lm l k a b d q1 q2 q3 : Int} {ls lt aA aA' aB aB' aD aD' : Int → Int} (h : PAL2 am lm ls lt aA aB aD l k) (hN : PAN lm ls lt l k a b) (hc : am' = am + 1) (hd : 2 ≤ d ∧ d ≤ 202) (s1 : st1 aA aA' q1 a) (s2 : st1 aB aB' q2 b) (s3 : st1 aD aD' q3 d) (e1 : q1 = am) (e2 : q2 = am) (e3 : q3 = am) : PAP am' lm ls lt aA' aB' aD' l k := paq_apart h hc hN.1.1 hN.1.2.1 hN.1.2.2.1 hN.1.2.2.2 rfl rfl hN.2.1 hN.2.2 hd s1 s2 s3 e1 e2 e3
def ISY (lm : Int) (ls : Int → Int) : Prop := ∀ l, 0 ≤ l → l < lm → ls l ≤ 6
