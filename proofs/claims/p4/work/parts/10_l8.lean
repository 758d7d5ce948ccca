/-! list: joints, lines, the lists of the layers -/
def adj (r : Int) (A : Int → Int) (a b : Int) : Prop := ∃ e, 0 ≤ e ∧ e < A (r + 1) ∧ inc A r e a ∧ inc A r e b ∧ a ≠ b
/-- one line: from a layer to the next -/
def lnk (r it : Int) (A il : Int → Int) (a b : Int) : Prop := (0 ≤ a ∧ a < it) ∧ (0 ≤ b ∧ b < it) ∧ il b = il a + 1 ∧ (a < A r → b < A r → adj r A a b)
def LNP (r li it : Int) (A il la lb : Int → Int) : Prop := ∀ p, 0 ≤ p → p < li → lnk r it A il (la p) (lb p)
def LNX (r li it : Int) (A il la lb : Int → Int) : Prop := LNP r li (it + 1) A il la lb
theorem lnp_more {r li li' it it' a b q1 q2 : Int} {A il la la' lb lb' : Int → Int} (h : LNP r li it A il la lb) (l0 : 0 ≤ li) (hi : it ≤ it') (hl : li' = li + 1) (hn : lnk r it' A il a b) (s1 : st1 la la' q1 a) (s2 : st1 lb lb' q2 b) (e1 : q1 = li) (e2 : q2 = li) : LNP r li' it' A il la' lb' := by
  intro p x y
  by_cases z : p = li
  · rw [(s1 p x).1 (by omega), (s2 p x).1 (by omega)]; exact hn
  · rw [(s1 p x).2 (by omega), (s2 p x).2 (by omega)]
    obtain ⟨h1, h2, h3⟩ := h p x (by omega)
    exact ⟨by omega, by omega, h3⟩
theorem lnp_il {r li it q v : Int} {A il il' la lb : Int → Int} (h : LNP r li it A il la lb) (hs : st1 il il' q v) (hq : it ≤ q) : LNP r li it A il' la lb := by
  intro p x y
  obtain ⟨h1, h2, h3, h4⟩ := h p x y
  exact ⟨h1, h2, by rw [(hs _ h1.1).2 (by omega), (hs _ h2.1).2 (by omega)]; exact h3, h4⟩
theorem lyj_il {r q v : Int} {A tu il il' : Int → Int} (h : LYJ r A tu il) (hs : st1 il il' q v) (hq : A r ≤ q) : LYJ r A tu il' := by
  have e : ∀ j, 0 ≤ j → j < A r → il' j = il j := fun j a b => (hs j a).2 (by omega)
  obtain ⟨⟨h1, h2, h3⟩, h4⟩ := h
  have ej : ∀ k, 0 ≤ k → k < A (r + 1) → jn r A tu il' k = jn r A tu il k := fun k a b => by
    have f := ft_bd (tu := tu) h1 a b
    unfold jn
    rw [e _ f.1.1 f.1.2, e _ f.2.1 f.2.2]
  refine ⟨⟨h1, fun i a b => by rw [e i a b]; exact h2 i a b, fun k a b => ?_⟩, ?_⟩
  · have f := ft_bd (tu := tu) h1 a b
    rw [e _ f.1.1 f.1.2, e _ f.2.1 f.2.2]; exact h3 k a b
  · rw [sm_congr ej]; exact h4
/-- how many items and lines edges below e have made -/
def LIC (r it : Int) (A tu il fj : Int → Int) (e : Int) : Prop := LYJ r A tu il ∧ (0 ≤ e ∧ e ≤ A (r + 1)) ∧ it = A r + sm (jn r A tu il) e ∧ (∀ j, A r ≤ j → j < it → 0 ≤ il j ∧ il j ≤ 23) ∧ ∀ f, 0 ≤ f → f < e → A r ≤ fj f ∧ fj f + jn r A tu il f ≤ it
theorem sm_upto {f : Int → Int} {e m : Int} (e0 : 0 ≤ e) (h : ∀ k, 0 ≤ k → k < m → 0 ≤ f k) : ∀ n, e ≤ n → n ≤ m → sm f e ≤ sm f n := by
  intro n hn hm
  have := sm_ind (P := fun d => e + d ≤ m → sm f e ≤ sm f (e + d)) (fun _ => by rw [Int.add_zero]; exact Int.le_refl _) (fun d d0 ih hd => by
    rw [sm_succ (n := e + d) (m := e + (d + 1)) (by omega) (by omega)]
    have := ih (by omega)
    have := h (e + d) (by omega) (by omega)
    omega) (n - e) (by omega) (by omega)
  rwa [show e + (n - e) = n by omega] at this
theorem lic_bd {r it e : Int} {A tu il fj : Int → Int} (h : LIC r it A tu il fj e) : (A r ≤ it ∧ it ≤ 72) ∧ (e < A (r + 1) → it + jn r A tu il e ≤ 72) := by
  obtain ⟨⟨h1, h2⟩, h3, h4, h6, h7⟩ := h
  have nn : ∀ k, 0 ≤ k → k < A (r + 1) → 0 ≤ jn r A tu il k := fun k a b => (jn_bd h1 a b).1
  have s0 := sm_nn (f := jn r A tu il) (n := e) (fun k a b => nn k a (by omega))
  have s1 := sm_upto h3.1 nn (A (r + 1)) h3.2 (by omega)
  have n0 := h1.1.1
  refine ⟨by omega, fun lt => ?_⟩
  have s2 := sm_upto (e := e + 1) (by omega) nn (A (r + 1)) (by omega) (by omega)
  rw [sm_succ h3.1 rfl] at s2
  omega
theorem lic_zero {r it e : Int} {A tu il fj : Int → Int} (h : LYJ r A tu il) (hi : it = A r) (he : e = 0) : LIC r it A tu il fj e := by
  have n0 := h.1.1.1
  refine ⟨h, by omega, ?_, fun j a b => by omega, fun f a b => by omega⟩; rw [he, sm_zero (by omega)]; omega
/-- within edge e: l is the layer of the next joint, x the item before it -/
def LID (r it : Int) (A tu il fj : Int → Int) (e x l : Int) : Prop := ∃ i0, LIC r i0 A tu il fj e ∧ e < A (r + 1) ∧ fj e = i0 ∧ (il (frT r A tu e) + 1 ≤ l ∧ l ≤ il (toT r A tu e)) ∧ it = i0 + (l - il (frT r A tu e) - 1) ∧ il x = l - 1 ∧ (0 ≤ x ∧ x < it) ∧ ((x = frT r A tu e ∧ l = il (frT r A tu e) + 1) ∨ A r ≤ x) ∧ ∀ j, i0 ≤ j → j < it → 0 ≤ il j ∧ il j ≤ 23
theorem lid_start {r it e x l a q v ya : Int} {A tu il fj fj' : Int → Int} (h : LIC r it A tu il fj e) (e1 : e < A (r + 1)) (hs : st1 fj fj' q v) (hq : q = e) (hv : v = it) (hx : FRO r A tu e x) (ha : FRO r A tu e a) (hya : ya = il a) (hl : l = ya + 1) : LID r it A tu il fj' e x l := by
  have n := h.1.1
  have bd := lic_bd h
  have f := ft_bd (tu := tu) n.1 h.2.1.1 e1
  have st := n.2.2 e h.2.1.1 e1
  unfold FRO at hx ha
  refine ⟨it, ⟨h.1, h.2.1, h.2.2.1, h.2.2.2.1, fun g a b => ?_⟩, e1, by rw [(hs e h.2.1.1).1 hq.symm, hv], ?_, ?_, ?_, ?_, Or.inl ⟨hx, ?_⟩, fun j a b => by omega⟩
  · rw [(hs g a).2 (by omega)]; exact h.2.2.2.2 g a b
  all_goals (rw [ha] at hya; (try rw [hx]); omega)
theorem lid_step {r it it' e x x' l l' q v : Int} {A tu il il' fj : Int → Int} (h : LID r it A tu il fj e x l) (lt : l < il (toT r A tu e)) (hs : st1 il il' q v) (hq : q = it) (hv : v = l) (hx : x' = it) (hi : it' = it + 1) (hl' : l' = l + 1) : LID r it' A tu il' fj e x' l' := by
  obtain ⟨i0, h1, h2, h3, h4, h5, h7, h8, h9, h10⟩ := h
  have n := h1.1.1
  have bd := lic_bd h1
  have f := ft_bd (tu := tu) n.1 h1.2.1.1 h2
  have yb := n.2.1 _ f.2.1 f.2.2
  have ya := n.2.1 _ f.1.1 f.1.2
  have ee : ∀ j, 0 ≤ j → j < it → il' j = il j := fun j a b => (hs j a).2 (by omega)
  have ef := ee _ f.1.1 (by omega)
  have et := ee _ f.2.1 (by omega)
  have ej : ∀ k, 0 ≤ k → k < A (r + 1) → jn r A tu il' k = jn r A tu il k := fun k a b => by
    have f := ft_bd (tu := tu) n.1 a b
    unfold jn
    rw [ee _ f.1.1 (by omega), ee _ f.2.1 (by omega)]
  have es : sm (jn r A tu il') e = sm (jn r A tu il) e := sm_congr (fun k a b => ej k a (by omega))
  refine ⟨i0, ⟨lyj_il h1.1 hs (by omega), h1.2.1, by rw [es]; exact h1.2.2.1, fun j a b => by rw [ee j (by omega) (by omega)]; exact h1.2.2.2.1 j a b, fun g a b => by rw [ej g a (by omega)]; exact h1.2.2.2.2 g a b⟩, h2, h3, ?_, ?_, ?_, by omega, Or.inr (by omega), fun j a b => ?_⟩
  · rw [ef, et]; omega
  · rw [ef]; omega
  · rw [hx, (hs it (by omega)).1 hq.symm]; omega
  · by_cases z : j = it
    · rw [(hs j (by omega)).1 (by omega)]; omega
    · rw [ee j (by omega) (by omega)]; exact h10 j a (by omega)
theorem lid_end {r it e e' x l : Int} {A tu il fj : Int → Int} (h : LID r it A tu il fj e x l) (ge : il (toT r A tu e) ≤ l) (he : e' = e + 1) : LIC r it A tu il fj e' := by
  obtain ⟨i0, h1, h2, h3, h4, h5, h7, h8, h9, h10⟩ := h
  have jv : jn r A tu il e = l - il (frT r A tu e) - 1 := by unfold jn; omega
  have e0 := h1.2.1
  refine ⟨h1.1, by omega, ?_, fun j a b => ?_, fun g a b => ?_⟩
  · rw [he, sm_succ e0.1 rfl]; have := h1.2.2.1; omega
  · by_cases z : j < i0
    · exact h1.2.2.2.1 j a z
    · exact h10 j (by omega) b
  · by_cases z : g = e
    · have := (lic_bd h1).1; subst z; rw [h3]; omega
    · have := h1.2.2.2.2 g a (by omega)
      have := (lic_bd h1).1
      have := jn_bd h1.1.1 e0.1 h2
      omega
theorem lid_bd {r it e x l : Int} {A tu il fj : Int → Int} (h : LID r it A tu il fj e x l) : (A r ≤ it ∧ it ≤ 72 ∧ 0 ≤ x ∧ x < it ∧ 1 ≤ l ∧ l ≤ 23) ∧ (l < il (toT r A tu e) → it + 1 ≤ 72) := by
  obtain ⟨i0, h1, h2, h3, h4, h5, h7, h8, h9, h10⟩ := h
  have n := h1.1.1
  have bd := lic_bd h1
  have f := ft_bd (tu := tu) n.1 h1.2.1.1 h2
  have yb := n.2.1 _ f.2.1 f.2.2
  have ya := n.2.1 _ f.1.1 f.1.2
  have b2 := bd.2 h2
  unfold jn at b2
  refine ⟨by omega, fun lt => by omega⟩
theorem inc_ft {r e : Int} {A tu : Int → Int} : inc A r e (frT r A tu e) ∧ inc A r e (toT r A tu e) := by
  unfold frT toT inc
  split
  · exact ⟨Or.inr rfl, Or.inl rfl⟩
  · exact ⟨Or.inl rfl, Or.inr rfl⟩
theorem lid_ln1 {r it e x l q v : Int} {A tu il il' fj : Int → Int} (h : LID r it A tu il fj e x l) (hs : st1 il il' q v) (hq : q = it) (hv : v = l) : lnk r (it + 1) A il' x it := by
  obtain ⟨i0, h1, h2, h3, h4, h5, h7, h8, h9, h10⟩ := h
  have n := (lic_bd h1).1
  refine ⟨by omega, by omega, ?_, fun a b => by omega⟩
  rw [(hs it (by omega)).1 hq.symm, (hs x h8.1).2 (by omega)]; omega
theorem lid_ln2 {r it e x l b : Int} {A tu il fj : Int → Int} (h : LID r it A tu il fj e x l) (ge : il (toT r A tu e) ≤ l) (hb : TOO r A tu e b) : lnk r it A il x b := by
  obtain ⟨i0, h1, h2, h3, h4, h5, h7, h8, h9, h10⟩ := h
  have n := (lic_bd h1).1
  have f := ft_bd (tu := tu) h1.1.1.1 h1.2.1.1 h2
  have st := h1.1.1.2.2 e h1.2.1.1 h2
  unfold TOO at hb
  rw [hb]
  refine ⟨by omega, by omega, by omega, fun a b => ?_⟩
  rcases h9 with w | w
  · rw [w.1]
    exact ⟨e, h1.2.1.1, h2, inc_ft.1, inc_ft.2, fun z => by rw [z] at st; omega⟩
  · omega
/-- all that never changes once the layers are listed -/
def LSA (r it lm li : Int) (A tu il fj la lb : Int → Int) : Prop := LYJ r A tu il ∧ (A r ≤ it ∧ it ≤ 72 ∧ 0 ≤ li ∧ li ≤ 120 ∧ 0 ≤ lm ∧ lm ≤ 24) ∧ (∀ i, 0 ≤ i → i < it → 0 ≤ il i ∧ il i < lm) ∧ LNP r li it A il la lb ∧ ∀ e, 0 ≤ e → e < A (r + 1) → A r ≤ fj e ∧ fj e + jn r A tu il e ≤ it
def LM1 (il : Int → Int) (lm i : Int) : Prop := (0 ≤ lm ∧ lm ≤ 24) ∧ ∀ j, 0 ≤ j → j < i → 0 ≤ il j ∧ il j < lm
def LMF (lm : Int) (il : Int → Int) (i : Int) : Prop := LM1 il lm i
def LIF (r it : Int) (A tu il fj : Int → Int) : Prop := LIC r it A tu il fj (A (r + 1))
theorem lif_il {r it i : Int} {A tu il fj : Int → Int} (h : LIF r it A tu il fj) (i0 : 0 ≤ i) (i1 : i < it) : 0 ≤ il i ∧ il i ≤ 23 := by
  by_cases z : i < A r
  · exact h.1.1.2.1 i i0 z
  · exact h.2.2.2.1 i (by omega) i1
theorem lm1_step {r it i i' lm lm' v : Int} {A tu il fj : Int → Int} (h : LM1 il lm i) (hF : LIF r it A tu il fj) (i0 : 0 ≤ i) (i1 : i < it) (hi : i' = i + 1) (hv : v = il i) (hm : (lm' = lm ∧ v + 1 ≤ lm) ∨ (lm' = v + 1 ∧ lm ≤ v + 1)) : LM1 il lm' i' := by
  have b := lif_il hF i0 i1
  refine ⟨by have := h.1; omega, fun j a c => ?_⟩
  by_cases e : j = i
  · subst e; omega
  · have := h.2 j a (by omega); omega
theorem lsa_of {r it lm li i : Int} {A tu il fj la lb : Int → Int} (hF : LIF r it A tu il fj) (hN : LNP r li it A il la lb) (hM : LM1 il lm i) (hi : it ≤ i) (hl : 0 ≤ li ∧ li ≤ 120) : LSA r it lm li A tu il fj la lb := by
  have b := (lic_bd hF).1
  refine ⟨hF.1, by have := hM.1; omega, fun j x y => hM.2 j x (by omega), hN, hF.2.2.2.2⟩
/-- one layer's list -/
def lay (it : Int) (il ls lt : Int → Int) (l : Int) : Prop := (0 ≤ ls l ∧ ls l ≤ it) ∧ (∀ k, 0 ≤ k → k < ls l → (0 ≤ lt (76 * l + k) ∧ lt (76 * l + k) < it) ∧ il (lt (76 * l + k)) = l) ∧ (∀ j k, 0 ≤ j → j < k → k < ls l → lt (76 * l + j) ≠ lt (76 * l + k)) ∧ ∀ i, 0 ≤ i → i < it → il i = l → ∃ k, 0 ≤ k ∧ k < ls l ∧ lt (76 * l + k) = i
def LLS (it : Int) (il ls lt : Int → Int) (l : Int) : Prop := ∀ m, 0 ≤ m → m < l → lay it il ls lt m
def LSB (it lm : Int) (il ls lt : Int → Int) : Prop := it ≤ 72 ∧ LLS it il ls lt lm
def LLI (it : Int) (il ls lt : Int → Int) (l i : Int) : Prop := (0 ≤ l ∧ 0 ≤ i ∧ it ≤ 72) ∧ LLS it il ls lt l ∧ (0 ≤ ls l ∧ ls l ≤ i) ∧ (∀ k, 0 ≤ k → k < ls l → (0 ≤ lt (76 * l + k) ∧ lt (76 * l + k) < i) ∧ il (lt (76 * l + k)) = l) ∧ (∀ j k, 0 ≤ j → j < k → k < ls l → lt (76 * l + j) ≠ lt (76 * l + k)) ∧ ∀ x, 0 ≤ x → x < i → il x = l → ∃ k, 0 ≤ k ∧ k < ls l ∧ lt (76 * l + k) = x
theorem lay_keep {it m l : Int} {il ls ls' lt lt' : Int → Int} (h : lay it il ls lt m) (it72 : it ≤ 72) (m0 : 0 ≤ m) (e1 : ls' m = ls m) (e2 : ∀ k, 0 ≤ k → k < 76 → lt' (76 * m + k) = lt (76 * m + k)) : lay it il ls' lt' m := by
  obtain ⟨h1, h2, h3, h4⟩ := h
  refine ⟨by rw [e1]; exact h1, fun k a b => ?_, fun j k a b c => ?_, fun i a b c => ?_⟩
  · rw [e1] at b; rw [e2 k a (by omega)]; exact h2 k a b
  · rw [e1] at c; rw [e2 k (by omega) (by omega), e2 j a (by omega)]; exact h3 j k a b c
  · obtain ⟨k, k0, k1, k2⟩ := h4 i a b c
    exact ⟨k, k0, by rw [e1]; exact k1, by rw [e2 k k0 (by omega)]; exact k2⟩
theorem lli_start {it l i q v : Int} {il ls ls' lt : Int → Int} (h : LLS it il ls lt l) (l0 : 0 ≤ l) (it72 : it ≤ 72) (hs : st1 ls ls' q v) (hq : q = l) (hv : v = 0) (hi : i = 0) : LLI it il ls' lt l i := by
  have e : ls' l = 0 := by rw [(hs l l0).1 hq.symm, hv]
  refine ⟨by omega, fun m a b => lay_keep (l := l) (h m a b) it72 a ((hs m a).2 (by omega)) (fun _ _ _ => rfl), by omega, fun k a b => by omega, fun j k a b c => by omega, fun x a b => by omega⟩
theorem lli_skip {it l i i' v : Int} {il ls lt : Int → Int} (h : LLI it il ls lt l i) (hi : i' = i + 1) (hv : v = il i) (ne : v ≠ l) : LLI it il ls lt l i' := by
  obtain ⟨h0, h1, h2, h3, h4, h5⟩ := h
  refine ⟨by omega, h1, by omega, fun k a b => by have := h3 k a b; omega, h4, fun x a b c => ?_⟩
  by_cases e : x = i
  · subst e; omega
  · exact h5 x a (by omega) c
theorem lli_take {it l i i' v q w p x : Int} {il ls ls' lt lt' : Int → Int} (h : LLI it il ls lt l i) (i1 : i < it) (hi : i' = i + 1) (hv : v = il i) (e : v = l) (hs : st1 lt lt' q w) (hq : q = 76 * l + ls l) (hw : w = i) (ht : st1 ls ls' p x) (hp : p = l) (hx : x = ls l + 1) : LLI it il ls' lt' l i' := by
  obtain ⟨h0, h1, h2, h3, h4, h5⟩ := h
  have en : ls' l = ls l + 1 := by rw [(ht l h0.1).1 hp.symm, hx]
  have ek : ∀ k, 0 ≤ k → k < ls l → lt' (76 * l + k) = lt (76 * l + k) := fun k a b => (hs _ (by omega)).2 (by omega)
  have el : lt' (76 * l + ls l) = i := by rw [(hs _ (by omega)).1 hq.symm, hw]
  refine ⟨by omega, fun m a b => lay_keep (l := l) (h1 m a b) h0.2.2 a ((ht m a).2 (by omega)) (fun k a b => (hs _ (by omega)).2 (by omega)), by omega, fun k a b => ?_, fun j k a b c => ?_, fun y a b c => ?_⟩
  · by_cases z : k = ls l
    · rw [z, el]; omega
    · rw [ek k a (by omega)]; have := h3 k a (by omega); omega
  · by_cases z : k = ls l
    · rw [z, el, ek j a (by omega)]; have := h3 j a (by omega); omega
    · rw [ek k (by omega) (by omega), ek j a (by omega)]; exact h4 j k a b (by omega)
  · by_cases z : y = i
    · exact ⟨ls l, by omega, by omega, by rw [el, z]⟩
    · obtain ⟨k, k0, k1, k2⟩ := h5 y a (by omega) c
      exact ⟨k, k0, by omega, by rw [ek k k0 k1]; exact k2⟩
theorem lli_end {it l l' i : Int} {il ls lt : Int → Int} (h : LLI it il ls lt l i) (hi : i = it) (hl : l' = l + 1) : LLS it il ls lt l' := by
  obtain ⟨h0, h1, h2, h3, h4, h5⟩ := h
  subst hi
  intro m a b
  by_cases z : m = l
  · subst z; exact ⟨h2, h3, h4, h5⟩
  · exact h1 m a (by omega)
theorem lli_bd {it l i : Int} {il ls lt : Int → Int} (h : LLI it il ls lt l i) : 0 ≤ ls l ∧ ls l ≤ i := h.2.2.1
def LNK (r it : Int) (A il : Int → Int) (a b : Int) : Prop := lnk r it A il a b
def LNM (r it : Int) (A il : Int → Int) (a b : Int) : Prop := lnk r (it + 1) A il a b
