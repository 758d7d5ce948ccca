/-! the class's layers as lists: sizes -/
def lyf (lo : Int → Int) (l i : Int) (j : Int) : Int := if lo j < l ∨ (lo j = l ∧ j < i) then 1 else 0
def LLZ (ls : Int → Int) (l ct wd : Int) : Prop := ∀ m, 0 ≤ m → m < l → 0 ≤ ls m ∧ (m + 1 < l → ls m ≤ ls (m + 1) ∧ ls (m + 1) - ls m ≤ wd) ∧ (m + 1 = l → ls m ≤ ct ∧ ct - ls m ≤ wd)
def LL1 (lc it : Int) (lo ls : Int → Int) (ct wd l : Int) : Prop := 0 ≤ l ∧ 0 ≤ wd ∧ 0 ≤ it ∧ it ≤ 72 ∧ ct = sm (lyf lo l 0) it ∧ LLZ ls l ct wd
def LL2 (lc it : Int) (lo ls : Int → Int) (ct wd l i : Int) : Prop := 0 ≤ l ∧ 0 ≤ wd ∧ 0 ≤ it ∧ it ≤ 72 ∧ 0 ≤ i ∧ i ≤ it ∧ ct = sm (lyf lo l i) it ∧ 0 ≤ ls l ∧ ls l ≤ ct ∧ LLZ ls l (ls l) wd
def LST (lc : Int) (ls : Int → Int) (wd : Int) : Prop := ∀ m, 0 ≤ m → m < lc → 0 ≤ ls m ∧ ls m ≤ ls (m + 1) ∧ ls (m + 1) - ls m ≤ wd ∧ ls (m + 1) ≤ 72
theorem lyf_bd (lo : Int → Int) (l i j : Int) : 0 ≤ lyf lo l i j ∧ lyf lo l i j ≤ 1 := by unfold lyf; split <;> omega
theorem lyf_all {lo : Int → Int} {l i it : Int} (h : 0 ≤ it) : 0 ≤ sm (lyf lo l i) it ∧ sm (lyf lo l i) it ≤ it := by
  have := smrg (f := lyf lo l i) (lo := 0) (hi := 1) h (fun j _ _ => lyf_bd lo l i j)
  omega
theorem ll1_start {lc it : Int} {lo ls : Int → Int} {ct wd l : Int} (h0 : 0 ≤ it) (h1 : it ≤ 72) (hc : ct = 0) (hw : wd = 0) (hl : l = 0) (hlo : ∀ j, 0 ≤ j → j < it → 0 ≤ lo j) : LL1 lc it lo ls ct wd l := by
  refine ⟨by omega, by omega, h0, h1, ?_, fun m a b => by omega⟩
  rw [sm_nil (fun j a b => by unfold lyf; rw [if_neg (by have := hlo j a b; omega)])]; omega
theorem ll2_start {lc it : Int} {lo ls ls' : Int → Int} {ct wd l i p x : Int} (h : LL1 lc it lo ls ct wd l) (hs : st1 ls ls' p x) (hp : p = l) (hx : x = ct) (hi : i = 0) : LL2 lc it lo ls' ct wd l i := by
  obtain ⟨h1, h2, h3, h4, h5, h6⟩ := h
  have b := lyf_all (lo := lo) (l := l) (i := 0) h3
  have e : ls' l = ct := by rw [(hs l h1).1 (by omega)]; exact hx
  refine ⟨h1, h2, h3, h4, by omega, by omega, by rw [hi]; exact h5, by omega, by omega, fun m a c => ?_⟩
  obtain ⟨q1, q2, q3⟩ := h6 m a c
  rw [(hs m a).2 (by omega), e]
  refine ⟨q1, fun z => ?_, q3⟩
  rw [(hs (m + 1) (by omega)).2 (by omega)]; exact q2 z
theorem ll2_low {lc it : Int} {lo ls : Int → Int} {ct wd l i : Int} (h : LL2 lc it lo ls ct wd l i) (hi : i < it) (he : lo i = l) : 0 ≤ ct ∧ ct ≤ 71 ∧ ls l ≤ ct ∧ 0 ≤ ls l := by
  obtain ⟨h1, h2, h3, h4, h5, h6, h7, h8, h9, h10⟩ := h
  have b := lyf_all (lo := lo) (l := l) (i := i) h3
  have := smlt (f := lyf lo l i) (g := fun _ => 1) (n := it) (i := i) h5 hi (fun j _ _ => (lyf_bd lo l i j).2) (by unfold lyf; rw [if_neg (by omega)]; omega)
  have h2 := smrg (f := fun _ => (1 : Int)) (n := it) (lo := 1) (hi := 1) h3 (fun j _ _ => ⟨Int.le_refl _, Int.le_refl _⟩)
  omega
theorem ll2_skip {lc it : Int} {lo ls : Int → Int} {ct wd l i i' : Int} (h : LL2 lc it lo ls ct wd l i) (hi : i < it) (he : lo i ≠ l) (hi' : i' = i + 1) : LL2 lc it lo ls ct wd l i' := by
  obtain ⟨h1, h2, h3, h4, h5, h6, h7, h8, h9, h10⟩ := h
  refine ⟨h1, h2, h3, h4, by omega, by omega, ?_, h8, h9, h10⟩
  rw [h7]
  refine sm_congr (fun j a b => ?_)
  unfold lyf
  by_cases c : j = i
  · subst c
    by_cases d : lo j < l
    · rw [if_pos (Or.inl d), if_pos (Or.inl d)]
    · rw [if_neg (by omega), if_neg (by omega)]
  · by_cases d : lo j < l ∨ (lo j = l ∧ j < i)
    · rw [if_pos d, if_pos (by omega)]
    · rw [if_neg d, if_neg (by omega)]
theorem ll2_take {lc it : Int} {lo ls : Int → Int} {ct ct' wd l i i' : Int} (h : LL2 lc it lo ls ct wd l i) (hi : i < it) (he : lo i = l) (hi' : i' = i + 1) (hc : ct' = ct + 1) : LL2 lc it lo ls ct' wd l i' := by
  obtain ⟨h1, h2, h3, h4, h5, h6, h7, h8, h9, h10⟩ := h
  refine ⟨h1, h2, h3, h4, by omega, by omega, ?_, h8, by omega, h10⟩
  rw [sm_pt (f := lyf lo l i) (g := lyf lo l i') h5 hi (fun j a b c => by
    unfold lyf
    by_cases d : lo j < l ∨ (lo j = l ∧ j < i)
    · rw [if_pos d, if_pos (by omega)]
    · rw [if_neg d, if_neg (by omega)]), ← h7]
  unfold lyf
  rw [if_pos (by omega), if_neg (by omega)]; omega
theorem ll1_next {lc it : Int} {lo ls : Int → Int} {ct wd wd' l l' i : Int} (h : LL2 lc it lo ls ct wd l i) (hi : it ≤ i) (hl : l' = l + 1) (w1 : wd ≤ wd') (w2 : ct - ls l ≤ wd') : LL1 lc it lo ls ct wd' l' := by
  obtain ⟨h1, h2, h3, h4, h5, h6, h7, h8, h9, h10⟩ := h
  refine ⟨by omega, by omega, h3, h4, ?_, fun m a b => ?_⟩
  · rw [h7]
    refine sm_congr (fun j a b => ?_)
    unfold lyf
    by_cases d : lo j < l ∨ (lo j = l ∧ j < i)
    · rw [if_pos d, if_pos (by omega)]
    · rw [if_neg d, if_neg (by omega)]
  · by_cases c : m = l
    · subst c; exact ⟨h8, fun z => by omega, fun _ => ⟨h9, w2⟩⟩
    · obtain ⟨q1, q2, q3⟩ := h10 m a (by omega)
      refine ⟨q1, fun z => ?_, fun z => by omega⟩
      by_cases d : m + 1 = l
      · have := q3 d; rw [d]; omega
      · have := q2 (by omega); omega
theorem ll1_low {lc it : Int} {lo ls : Int → Int} {ct wd l : Int} (h : LL1 lc it lo ls ct wd l) : 0 ≤ ct ∧ ct ≤ 72 := by
  obtain ⟨h1, h2, h3, h4, h5, h6⟩ := h
  have b := lyf_all (lo := lo) (l := l) (i := 0) h3
  omega
theorem lst_of {lc it : Int} {lo ls ls' : Int → Int} {ct wd l p x an : Int} (h : LL1 lc it lo ls ct wd l) (hl : lc ≤ l) (hlc : l ≤ lc) (hs : st1 ls ls' p x) (hp : p = lc) (hx : x = ct) (ha : an = wd) : LST lc ls' an := fun m a b => by
  have q := ll1_low h
  obtain ⟨h1, h2, h3, h4, h5, h6⟩ := h
  subst ha
  obtain ⟨q1, q2, q3⟩ := h6 m a (by omega)
  rw [(hs m a).2 (by omega)]
  by_cases c : m + 1 = l
  · have := q3 c
    rw [(hs (m + 1) (by omega)).1 (by omega)]; omega
  · have r := q2 (by omega)
    rw [(hs (m + 1) (by omega)).2 (by omega)]
    refine ⟨q1, r.1, r.2, ?_⟩
    -- the next is at most the last
    have up : ∀ k : Nat, ∀ m, 0 ≤ m → m < l → l - m = k → ls m ≤ 72 := fun k => by
      induction k with
      | zero => intro m a b c; omega
      | succ k ih =>
        intro m a b c
        obtain ⟨_, z2, z3⟩ := h6 m a b
        by_cases d : m + 1 = l
        · have := z3 d; omega
        · have := z2 (by omega)
          have := ih (m + 1) (by omega) (by omega) (by omega)
          omega
    exact up (l - (m + 1)).toNat (m + 1) (by omega) (by omega) (by omega)
