section
/-! the class's layers as lists: sizes -/
def lyf (lo : Int → Int) (l i : Int) (j : Int) : Int := if lo j < l ∨ (lo j = l ∧ j < i) then 1 else 0
def LLZ (ls : Int → Int) (l ct wd : Int) : Prop := ∀ m, 0 ≤ m → m < l → 0 ≤ ls m ∧ (m + 1 < l → ls m ≤ ls (m + 1) ∧ ls (m + 1) - ls m ≤ wd) ∧ (m + 1 = l → ls m ≤ ct ∧ ct - ls m ≤ wd)
def LL1 (lc it : Int) (lo ls : Int → Int) (ct wd l : Int) : Prop := 0 ≤ l ∧ 0 ≤ wd ∧ 0 ≤ it ∧ it ≤ 72 ∧ ct = sm (lyf lo l 0) it ∧ LLZ ls l ct wd
def LL2 (lc it : Int) (lo ls : Int → Int) (ct wd l i : Int) : Prop := 0 ≤ l ∧ 0 ≤ wd ∧ 0 ≤ it ∧ it ≤ 72 ∧ 0 ≤ i ∧ i ≤ it ∧ ct = sm (lyf lo l i) it ∧ 0 ≤ ls l ∧ ls l ≤ ct ∧ LLZ ls l (ls l) wd
def LST (lc : Int) (ls : Int → Int) (wd : Int) : Prop := ∀ m, 0 ≤ m → m < lc → 0 ≤ ls m ∧ ls m ≤ ls (m + 1) ∧ ls (m + 1) - ls m ≤ wd ∧ ls (m + 1) ≤ 72
theorem lyf_bd (lo : Int → Int) (l i j : Int) : 0 ≤ lyf lo l i j ∧ lyf lo l i j ≤ 1 := by unfold lyf; split <;> omega
theorem lyf_all {lo : Int → Int} {l i it : Int} (h : 0 ≤ it) : 0 ≤ sm (lyf lo l i) it ∧ sm (lyf lo l i) it ≤ it := by
  have := smrg (f := lyf lo l i) (lo := 0) (hi := 1) h (fun j _ _ => lyf_bd lo l i j)
  omega
theorem ll1_start {lc it : Int} {lo ls : Int → Int} {ct wd l : Int} (h0 : 0 ≤ it) (h1 : it ≤ 72) (hc : ct = 0) (hw : wd = 0) (hl : l = 0) (hlo : ∀ j, 0 ≤ j → j < it → 0 ≤ lo j) : LL1 lc it lo ls ct wd l := by
  refine ⟨by omega, by omega, h0, h1, ?_, fun m a b => by omega⟩
  rw [sm_nil (fun j a b => by unfold lyf; rw [if_neg (by have := hlo j a b; omega)])]; omega
theorem ll2_start {lc it : Int} {lo ls ls_zq : Int → Int} {ct wd l i p x : Int} (h : LL1 lc it lo ls ct wd l) (hs : st1 ls ls_zq p x) (hp : p = l) (hx : x = ct) (hi : i = 0) : LL2 lc it lo ls_zq ct wd l i := by
  obtain ⟨h1, h2, h3, h4, h5, h6⟩ := h
  have b := lyf_all (lo := lo) (l := l) (i := 0) h3
  have e : ls_zq l = ct := by rw [(hs l h1).1 (by omega)]; exact hx
  refine ⟨h1, h2, h3, h4, by omega, by omega, by rw [hi]; exact h5, by omega, by omega, fun m a c => ?_⟩
  obtain ⟨q1, q2, q3⟩ := h6 m a c
  rw [(hs m a).2 (by omega), e]
  refine ⟨q1, fun z => ?_, q3⟩
  rw [(hs (m + 1) (by omega)).2 (by omega)]; exact q2 z
theorem ll2_low {lc it : Int} {lo ls : Int → Int} {ct wd l i : Int} (h : LL2 lc it lo ls ct wd l i) (hi : i < it) (he : lo i = l) : 0 ≤ ct ∧ ct ≤ 71 ∧ ls l ≤ ct ∧ 0 ≤ ls l := by
  obtain ⟨h1, h2, h3, h4, h5, h6, h7, h8, h9, h10⟩ := h
  have b := lyf_all (lo := lo) (l := l) (i := i) h3
  have := smlt (f := lyf lo l i) (g := fun _ => 1) (n := it) (i := i) h5 hi (fun j _ _ => (lyf_bd lo l i j).2) (by unfold lyf; rw [if_neg (by omega)]; omega)
  have h2 := smrg (f := fun _ => (1 : Int)) (n := it) (lo := 1) (hi := 1) h3 (fun j _ _ => ⟨Int.le_refl _, Int.le_refl _⟩)
  omega
theorem ll2_skip {lc it : Int} {lo ls : Int → Int} {ct wd l i i_zq : Int} (h : LL2 lc it lo ls ct wd l i) (hi : i < it) (he : lo i ≠ l) (hi_zq : i_zq = i + 1) : LL2 lc it lo ls ct wd l i_zq := by
  obtain ⟨h1, h2, h3, h4, h5, h6, h7, h8, h9, h10⟩ := h
  refine ⟨h1, h2, h3, h4, by omega, by omega, ?_, h8, h9, h10⟩
  rw [h7]
  refine sm_congr (fun j a b => ?_)
  unfold lyf
  by_cases c : j = i
  · subst c
    by_cases d : lo j < l
    · rw [if_pos (Or.inl d), if_pos (Or.inl d)]
    · rw [if_neg (by omega), if_neg (by omega)]
  · by_cases d : lo j < l ∨ (lo j = l ∧ j < i)
    · rw [if_pos d, if_pos (by omega)]
    · rw [if_neg d, if_neg (by omega)]
theorem ll2_take {lc it : Int} {lo ls : Int → Int} {ct ct_zq wd l i i_zq : Int} (h : LL2 lc it lo ls ct wd l i) (hi : i < it) (he : lo i = l) (hi_zq : i_zq = i + 1) (hc : ct_zq = ct + 1) : LL2 lc it lo ls ct_zq wd l i_zq := by
  obtain ⟨h1, h2, h3, h4, h5, h6, h7, h8, h9, h10⟩ := h
  refine ⟨h1, h2, h3, h4, by omega, by omega, ?_, h8, by omega, h10⟩
  rw [sm_pt (f := lyf lo l i) (g := lyf lo l i_zq) h5 hi (fun j a b c => by
    unfold lyf
    by_cases d : lo j < l ∨ (lo j = l ∧ j < i)
    · rw [if_pos d, if_pos (by omega)]
    · rw [if_neg d, if_neg (by omega)]), ← h7]
  unfold lyf
  rw [if_pos (by omega), if_neg (by omega)]; omega
theorem ll1_next {lc it : Int} {lo ls : Int → Int} {ct wd wd_zq l l_zq i : Int} (h : LL2 lc it lo ls ct wd l i) (hi : it ≤ i) (hl : l_zq = l + 1) (w1 : wd ≤ wd_zq) (w2 : ct - ls l ≤ wd_zq) : LL1 lc it lo ls ct wd_zq l_zq := by
  obtain ⟨h1, h2, h3, h4, h5, h6, h7, h8, h9, h10⟩ := h
  refine ⟨by omega, by omega, h3, h4, ?_, fun m a b => ?_⟩
  · rw [h7]
    refine sm_congr (fun j a b => ?_)
    unfold lyf
    by_cases d : lo j < l ∨ (lo j = l ∧ j < i)
    · rw [if_pos d, if_pos (by omega)]
    · rw [if_neg d, if_neg (by omega)]
  · by_cases c : m = l
    · subst c; exact ⟨h8, fun z => by omega, fun _ => ⟨h9, w2⟩⟩
    · obtain ⟨q1, q2, q3⟩ := h10 m a (by omega)
      refine ⟨q1, fun z => ?_, fun z => by omega⟩
      by_cases d : m + 1 = l
      · have := q3 d; rw [d]; omega
      · have := q2 (by omega); omega
theorem ll1_low {lc it : Int} {lo ls : Int → Int} {ct wd l : Int} (h : LL1 lc it lo ls ct wd l) : 0 ≤ ct ∧ ct ≤ 72 := by
  obtain ⟨h1, h2, h3, h4, h5, h6⟩ := h
  have b := lyf_all (lo := lo) (l := l) (i := 0) h3
  omega
theorem lst_of {lc it : Int} {lo ls ls_zq : Int → Int} {ct wd l p x an : Int} (h : LL1 lc it lo ls ct wd l) (hl : lc ≤ l) (hlc : l ≤ lc) (hs : st1 ls ls_zq p x) (hp : p = lc) (hx : x = ct) (ha : an = wd) : LST lc ls_zq an := fun m a b => by
  have q := ll1_low h
  obtain ⟨h1, h2, h3, h4, h5, h6⟩ := h
  subst ha
  obtain ⟨q1, q2, q3⟩ := h6 m a (by omega)
  rw [(hs m a).2 (by omega)]
  by_cases c : m + 1 = l
  · have := q3 c
    rw [(hs (m + 1) (by omega)).1 (by omega)]; omega
  · have r := q2 (by omega)
    rw [(hs (m + 1) (by omega)).2 (by omega)]
    refine ⟨q1, r.1, r.2, ?_⟩
    -- the next is at most the last
    have up : ∀ k : Nat, ∀ m, 0 ≤ m → m < l → l - m = k → ls m ≤ 72 := fun k => by
      induction k with
      | zero => intro m a b c; omega
      | succ k ih =>
        intro m a b c
        obtain ⟨_, z2, z3⟩ := h6 m a b
        by_cases d : m + 1 = l
        · have := z3 d; omega
        · have := z2 (by omega)
          have := ih (m + 1) (by omega) (by omega) (by omega)
          omega
    exact up (l - (m + 1)).toNat (m + 1) (by omega) (by omega) (by omega)
end
section
/-! a large loop's order in the class -/
def MGI (lp mb : Int → Int) (wd v cn : Int) : Prop := 0 ≤ cn ∧ 0 ≤ v ∧ (∀ s, 0 ≤ s → s < cn → 0 ≤ mb s ∧ mb s < v ∧ lp (mb s) = wd) ∧ (∀ s t, 0 ≤ s → s < t → t < cn → mb s ≠ mb t) ∧ (∀ u, 0 ≤ u → u < v → lp u = wd → ∃ s, 0 ≤ s ∧ s < cn ∧ mb s = u)
def MGD (mb : Int → Int) (cn : Int) : Prop := 0 ≤ cn ∧ (∀ s, 0 ≤ s → s < cn → 0 ≤ mb s ∧ mb s < 24) ∧ (∀ s t, 0 ≤ s → s < t → t < cn → mb s ≠ mb t)
theorem mgi_start {lp mb : Int → Int} {wd v cn : Int} (hv : v = 0) (hc : cn = 0) : MGI lp mb wd v cn := ⟨by omega, by omega, fun s a b => by omega, fun s t a b c => by omega, fun u a b => by omega⟩
theorem mgi_skip {lp mb : Int → Int} {wd v v_zq cn : Int} (h : MGI lp mb wd v cn) (hl : lp v ≠ wd) (hv : v_zq = v + 1) : MGI lp mb wd v_zq cn := by
  obtain ⟨h1, h2, h3, h4, h5⟩ := h
  refine ⟨h1, by omega, fun s a b => ?_, h4, fun u a b c => ?_⟩
  · have := h3 s a b; exact ⟨this.1, by omega, this.2.2⟩
  · by_cases e : u = v
    · exact absurd (e ▸ c) hl
    · exact h5 u a (by omega) c
theorem mgi_take {lp mb mb_zq : Int → Int} {wd v v_zq cn cn_zq p x : Int} (h : MGI lp mb wd v cn) (hl : lp v = wd) (hs : st1 mb mb_zq p x) (hp : p = cn) (hx : x = v) (hv : v_zq = v + 1) (hc : cn_zq = cn + 1) : MGI lp mb_zq wd v_zq cn_zq := by
  obtain ⟨h1, h2, h3, h4, h5⟩ := h
  have T : mb_zq cn = v := by rw [(hs cn h1).1 hp.symm, hx]
  have Nn : ∀ s, 0 ≤ s → s < cn → mb_zq s = mb s := fun s a b => (hs s a).2 (by omega)
  refine ⟨by omega, by omega, fun s a b => ?_, fun s t a b c => ?_, fun u a b c => ?_⟩
  · by_cases e : s = cn
    · rw [e, T]; exact ⟨h2, by omega, hl⟩
    · rw [Nn s a (by omega)]; have := h3 s a (by omega); exact ⟨this.1, by omega, this.2.2⟩
  · by_cases e : t = cn
    · rw [e, T, Nn s a (by omega)]; have := h3 s a (by omega); omega
    · rw [Nn s a (by omega), Nn t (by omega) (by omega)]; exact h4 s t a b (by omega)
  · by_cases e : u = v
    · exact ⟨cn, h1, by omega, by rw [T, e]⟩
    · obtain ⟨s, s0, s1, s2⟩ := h5 u a (by omega) c
      exact ⟨s, s0, by omega, by rw [Nn s s0 s1]; exact s2⟩
theorem mgd_of {lp mb : Int → Int} {wd v cn : Int} (h : MGI lp mb wd v cn) (hv : v ≤ 24) : MGD mb cn := ⟨h.1, fun s a b => ⟨(h.2.2.1 s a b).1, by have := (h.2.2.1 s a b).2.1; omega⟩, h.2.2.2.1⟩
def ORA (mb : Int → Int) (lf k : Int) : Prop := 0 ≤ k ∧ ∀ w, 0 ≤ w → w < 32 → (bit lf w ↔ ∃ s, 0 ≤ s ∧ s < k ∧ mb s = w)
theorem ora_start {mb : Int → Int} {lf k : Int} (hl : lf = 0) (hk : k = 0) : ORA mb lf k := ⟨by omega, fun w a b => ⟨fun z => absurd (hl ▸ z) (bit_zero w), fun ⟨s, s0, s1, _⟩ => by omega⟩⟩
theorem ora_step {mb : Int → Int} {lf lf_zq k k_zq p q one : Int} (h : ORA mb lf k) (hp : bvp p = bvp one <<< q.toNat) (h1 : one = 1) (hq : q = mb k) (q0 : 0 ≤ q) (hl : bvp lf_zq = bvp lf ||| bvp p) (hk : k_zq = k + 1) : ORA mb lf_zq k_zq := by
  refine ⟨by have := h.1; omega, fun w a b => ?_⟩
  rw [bit_or hl, bit_shl hp h1 q0 a b, h.2 w a b]
  constructor
  · rintro (⟨s, s0, s1, s2⟩ | e)
    · exact ⟨s, s0, by omega, s2⟩
    · exact ⟨k, h.1, by omega, by omega⟩
  · rintro ⟨s, s0, s1, s2⟩
    by_cases e : s = k
    · exact Or.inr (by rw [← s2, e, hq])
    · exact Or.inl ⟨s, s0, by omega, s2⟩
def ORL (rk mb : Int → Int) (cn lf bg en k : Int) : Prop := MGD mb cn ∧ 0 ≤ bg ∧ en < cn ∧ bg + cn - 1 - en = k ∧ (∀ w, 0 ≤ w → w < 32 → bit lf w → ∃ s, 0 ≤ s ∧ s < cn ∧ mb s = w) ∧ (∀ s, 0 ≤ s → s < cn → ¬ bit lf (mb s) → (0 ≤ rk (mb s) ∧ rk (mb s) < bg) ∨ (en < rk (mb s) ∧ rk (mb s) < cn)) ∧ (∀ s t, 0 ≤ s → s < t → t < cn → ¬ bit lf (mb s) → ¬ bit lf (mb t) → rk (mb s) ≠ rk (mb t)) ∧ (∀ r, (0 ≤ r ∧ r < bg) ∨ (en < r ∧ r < cn) → ∃ s, 0 ≤ s ∧ s < cn ∧ ¬ bit lf (mb s) ∧ rk (mb s) = r)
def ORE (rk mb : Int → Int) (cn : Int) : Prop := ∀ s t, 0 ≤ s → s < t → t < cn → rk (mb s) ≠ rk (mb t)
theorem orl_start {rk mb : Int → Int} {cn lf bg en k j : Int} (h : ORA mb lf j) (hM : MGD mb cn) (hj : j ≥ cn) (hj2 : j ≤ cn) (hb : bg = 0) (he : en = cn - 1) (hk : k = 0) : ORL rk mb cn lf bg en k := by
  have e : j = cn := by omega
  subst e
  refine ⟨hM, by omega, by omega, by omega, fun w a b z => (h.2 w a b).mp z, fun s a b z => ?_, fun s t a b c z => ?_, fun r z => by omega⟩
  · have := hM.2.1 s a b; exact absurd ((h.2 (mb s) this.1 (by omega)).mpr ⟨s, a, b, rfl⟩) z
  · have := hM.2.1 s a (by omega); exact absurd ((h.2 (mb s) this.1 (by omega)).mpr ⟨s, a, by omega, rfl⟩) z
/-- some member is left -/
theorem orl_some {rk mb : Int → Int} {cn lf bg en k : Int} (h : ORL rk mb cn lf bg en k) (hk : k < cn) : ∃ w, 0 ≤ w ∧ w < 24 ∧ bit lf w := by
  obtain ⟨hM, h1, h2, h3, h4, h5, h6, h7⟩ := h
  refine Classical.byContradiction fun c => ?_
  have np : ∀ s, 0 ≤ s → s < cn → ¬ bit lf (mb s) := fun s a b z => c ⟨mb s, (hM.2.1 s a b).1, (hM.2.1 s a b).2, z⟩
  have := inj_le (n := k) (f := fun s => if rk (mb s) < bg then rk (mb s) else rk (mb s) - en - 1 + bg) (N := cn.toNat) (by omega) (fun s hs => by
    have q := h5 s (by omega) (by omega) (np s (by omega) (by omega))
    by_cases z : rk (mb s) < bg
    · simp only [if_pos z]; omega
    · simp only [if_neg z]; omega) (fun s t st ht e => by
    have q1 := h5 s (by omega) (by omega) (np s (by omega) (by omega))
    have q2 := h5 t (by omega) (by omega) (np t (by omega) (by omega))
    have q3 := h6 s t (by omega) (by omega) (by omega) (np s (by omega) (by omega)) (np t (by omega) (by omega))
    have e_zq : (if rk (mb s) < bg then rk (mb s) else rk (mb s) - en - 1 + bg) = (if rk (mb t) < bg then rk (mb t) else rk (mb t) - en - 1 + bg) := e
    by_cases z : rk (mb s) < bg
    · by_cases z2 : rk (mb t) < bg
      · rw [if_pos z, if_pos z2] at e_zq; omega
      · rw [if_pos z, if_neg z2] at e_zq; omega
    · by_cases z2 : rk (mb t) < bg
      · rw [if_neg z, if_pos z2] at e_zq; omega
      · rw [if_neg z, if_neg z2] at e_zq; omega)
  omega
theorem orl_pos {rk mb : Int → Int} {cn lf bg en k : Int} (h : ORL rk mb cn lf bg en k) (hk : k < cn) (l0 : 0 ≤ lf) : 0 < lf := by
  obtain ⟨w, w0, w1, w2⟩ := orl_some h hk
  by_cases e : lf = 0
  · exact absurd (e ▸ w2) (bit_zero w)
  · omega
theorem orl_first {rk mb : Int → Int} {cn lf bg en k an : Int} (h : ORL rk mb cn lf bg en k) (hk : k < cn) (l0 : 0 ≤ lf) (l1 : lf ≤ 16777215) (hL : LOW lf an) : 0 ≤ an ∧ an < 24 ∧ bit lf an := by
  obtain ⟨a, b, c⟩ := hL (orl_pos h hk l0) (by omega)
  exact ⟨a, bit_lt24 l0 l1 a b c, c⟩
def PKL (lf an : Int) : Prop := an = -1 ∨ (0 ≤ an ∧ an < 24 ∧ bit lf an)
/-- one member is given its place -/
theorem orl_take {rk rk_zq mb : Int → Int} {cn lf lf_zq bg bg_zq en en_zq k k_zq x p y q r one m1 : Int} (h : ORL rk mb cn lf bg en k) (hk : k < cn) (hx : 0 ≤ x ∧ x < 24 ∧ bit lf x) (hs : st1 rk rk_zq p y) (hp : p = x) (hq : bvp q = bvp one <<< x.toNat) (h1 : one = 1) (hr : bvp r = bvp q ^^^ bvp m1) (hm : m1 = -1) (hl : bvp lf_zq = bvp lf &&& bvp r) (hk_zq : k_zq = k + 1) (hy : (y = en ∧ en_zq = en - 1 ∧ bg_zq = bg) ∨ (y = bg ∧ bg_zq = bg + 1 ∧ en_zq = en)) : ORL rk_zq mb cn lf_zq bg_zq en_zq k_zq := by
  obtain ⟨hM, a1, a2, a3, a4, a5, a6, a7⟩ := h
  obtain ⟨x0, x1, x2⟩ := hx
  have nb : ∀ w, 0 ≤ w → w < 32 → (bit lf_zq w ↔ bit lf w ∧ w ≠ x) := fun w a b => by rw [bit_and hl, bit_xor hr hm a b, bit_shl hq h1 x0 a b]
  obtain ⟨s0, s1, s2, s3⟩ := a4 x x0 (by omega) x2
  have T : rk_zq x = y := (hs x x0).1 hp.symm
  have Nn : ∀ w, 0 ≤ w → w ≠ x → rk_zq w = rk w := fun w a b => (hs w a).2 (by omega)
  have old : ∀ s, 0 ≤ s → s < cn → mb s ≠ x → ¬ bit lf_zq (mb s) → ¬ bit lf (mb s) := fun s a b c z y => z ((nb _ (hM.2.1 s a b).1 (by have := (hM.2.1 s a b).2; omega)).mpr ⟨y, c⟩)
  have rg : ∀ s, 0 ≤ s → s < cn → mb s ≠ x → ¬ bit lf_zq (mb s) → ((0 ≤ rk (mb s) ∧ rk (mb s) < bg) ∨ (en < rk (mb s) ∧ rk (mb s) < cn)) ∧ rk_zq (mb s) = rk (mb s) := fun s a b c z => ⟨a5 s a b (old s a b c z), Nn _ (hM.2.1 s a b).1 c⟩
  refine ⟨hM, by omega, by omega, by omega, fun w a b z => a4 w a b ((nb w a b).mp z).1, fun s a b z => ?_, fun s t a b c z z_zq => ?_, fun r z => ?_⟩
  · by_cases e : mb s = x
    · rw [e, T]; omega
    · have := rg s a b e z; omega
  · by_cases e : mb s = x
    · have e2 : mb t ≠ x := fun w => hM.2.2 s t a b c (e.trans w.symm)
      have := rg t (by omega) c e2 z_zq
      rw [e, T]; omega
    · by_cases e2 : mb t = x
      · have := rg s a (by omega) e z
        rw [e2, T]; omega
      · rw [(rg s a (by omega) e z).2, (rg t (by omega) c e2 z_zq).2]
        exact a6 s t a b c (old s a (by omega) e z) (old t (by omega) c e2 z_zq)
  · by_cases e : r = y
    · exact ⟨s0, s1, s2, fun w => ((nb _ (by omega) (by omega)).mp w).2 s3, by rw [s3, T, e]⟩
    · obtain ⟨s, b1, b2, b3, b4⟩ := a7 r (by omega)
      have ne : mb s ≠ x := fun w => b3 (w ▸ x2)
      exact ⟨s, b1, b2, fun w => b3 ((nb _ (hM.2.1 s b1 b2).1 (by have := (hM.2.1 s b1 b2).2; omega)).mp w).1, by rw [Nn _ (hM.2.1 s b1 b2).1 ne, b4]⟩
theorem ore_of {rk mb : Int → Int} {cn lf bg en k : Int} (h : ORL rk mb cn lf bg en k) (hk : k ≥ cn) (hk2 : k ≤ cn) : ORE rk mb cn := by
  obtain ⟨hM, a1, a2, a3, a4, a5, a6, a7⟩ := h
  have all : ∀ s, 0 ≤ s → s < cn → ¬ bit lf (mb s) := fun s0 b0 c0 d0 => by
    have hc : ∀ r : Nat, ∃ s : Int, (r : Int) < cn → 0 ≤ s ∧ s < cn ∧ ¬ bit lf (mb s) ∧ rk (mb s) = r := fun r => by
      by_cases hr : (r : Int) < cn
      · obtain ⟨s, q⟩ := a7 r (by omega); exact ⟨s, fun _ => q⟩
      · exact ⟨0, fun z => absurd z hr⟩
    obtain ⟨f, fT, fN⟩ : ∃ f : Nat → Int, f cn.toNat = s0 ∧ ∀ i, i ≠ cn.toNat → f i = Classical.choose (hc i) := ⟨fun i => if i = cn.toNat then s0 else Classical.choose (hc i), if_pos rfl, fun i e => if_neg e⟩
    have := inj_le (n := cn) (f := f) (N := cn.toNat + 1) hM.1 (fun i hi => by
      by_cases e : i = cn.toNat
      · rw [e, fT]; exact ⟨b0, c0⟩
      · rw [fN i e]; have := Classical.choose_spec (hc i) (by omega); exact ⟨this.1, this.2.1⟩) (fun i j ij hj => by
      have ei : i ≠ cn.toNat := by omega
      have qi := Classical.choose_spec (hc i) (by omega)
      rw [fN i ei]
      by_cases e : j = cn.toNat
      · rw [e, fT]; intro z; rw [z] at qi; exact qi.2.2.1 d0
      · rw [fN j e]
        have qj := Classical.choose_spec (hc j) (by omega)
        intro z; rw [z] at qi
        have := qi.2.2.2.symm.trans qj.2.2.2
        omega)
    omega
  exact fun s t a b c => a6 s t a b c (all s a (by omega)) (all t (by omega) c)
theorem low_take {lf b b_zq : Int} (hb : bit lf b_zq) (b0 : 0 ≤ b_zq) (b1 : b_zq < 24) : LOW lf b_zq := fun _ _ => ⟨b0, by omega, hb⟩
theorem pkl_of {lf an : Int} (hb : bit lf an) (b0 : 0 ≤ an) (b1 : an < 24) : PKL lf an := Or.inr ⟨b0, b1, hb⟩
end
section
/-! a way turned round, and put into the line -/
def LVW (lv : Int → Int) (k : Int) : Prop := ∀ j, 0 ≤ j → j < k → 0 ≤ lv j ∧ lv j ≤ 23
theorem lvw_start {lv : Int → Int} {k : Int} (hk : k = 0) : LVW lv k := fun j a b => by omega
theorem lvw_step {lv lv' : Int → Int} {k k_zq p x : Int} (h : LVW lv k) (hs : st1 lv lv' p x) (hp : p = k) (x0 : 0 ≤ x) (x1 : x ≤ 23) (hk : k_zq = k + 1) : LVW lv' k_zq := fun j a b => by
  by_cases e : j = k
  · rw [(hs j a).1 (by omega)]; exact ⟨x0, x1⟩
  · rw [(hs j a).2 (by omega)]; exact h j a (by omega)
/-- what is copied: nodes -/
def CPN (d s : Int → Int) (sp dp n : Int) : Prop := ∀ j, 0 ≤ j → j < n → 0 ≤ s (sp + j) ∧ s (sp + j) ≤ 23
def CP0 (d s : Int → Int) (sp dp n : Int) : Prop := n = n
theorem cpn_of {d lv : Int → Int} {sp dp n k : Int} (h : LVW lv k) (hs : sp = 0) (hn : n ≤ k) : CPN d lv sp dp n := fun j a b => by
  have := h (sp + j) (by omega) (by omega); exact this
theorem cpn_le {Dd S : Int → Int} {sp dp n : Int} (_ : 0 ≤ sp) (_ : 0 ≤ dp) (_ : 0 ≤ n) (h : CPN Dd S sp dp n) : ∀ j, 0 ≤ j → j < n → 0 ≤ S (sp + j) ∧ S (sp + j) ≤ 23 := h
theorem cpn_cp0 {Dd S D_zq S_zq : Int → Int} {sp dp n : Int} (_ : 0 ≤ sp) (_ : 0 ≤ dp) (_ : 0 ≤ n) (_ : ∀ j, 0 ≤ j → D_zq j = if dp ≤ j ∧ j < dp + n then S (sp + (j - dp)) else Dd j) (_ : (∀ j, S_zq j = S j) ∨ ((∀ j, S_zq j = D_zq j) ∧ ∀ j, S j = Dd j)) (_ : CPN Dd S sp dp n) : CP0 D_zq S_zq sp dp n := rfl
end
section
/-! the bars_zq order -/
def SYG (n : Int) (nr : Int → Int) : Prop := SYMN nr n
def ALB (n al : Int) : Prop := ∀ w, 0 ≤ w → w < 32 → bit al w → w < n
theorem alb_of {n p al one two : Int} (hp : bvp p = bvp one <<< n.toNat) (h1 : one = 1) (hm : al = p - two) (h2 : two = 1) (n0 : 0 ≤ n) (n1 : n ≤ 24) (p0 : -2147483648 ≤ p) (p1 : p ≤ 2147483647) : ALB n al := by
  have hx : (bvp p).toInt = p := by unfold bvp; rw [BitVec.toInt_ofInt]; unfold Int.bmod; simp only; split <;> omega
  have ep : p = (2 : Int) ^ n.toNat := by
    have : ∀ k : Nat, k < 25 → (bvp 1 <<< k).toInt = (2 : Int) ^ k := by decide +kernel
    rw [← hx, hp, h1]; exact this n.toNat (by omega)
  intro w w0 w1 z
  have e : al = (2 : Int) ^ n.toNat - 1 := by omega
  have : ∀ k : Nat, k < 25 → ∀ j : Nat, j < 32 → ((bvp ((2 : Int) ^ k - 1)).getLsbD j = true ↔ j < k) := by decide +kernel
  have q := this n.toNat (by omega) w.toNat (by omega)
  unfold bit at z
  rw [e, q] at z; omega
theorem frn_of {n al r fr : Int} (h : ALB n al) (hf : bvp fr = bvp al &&& bvp r) : FRN n fr := fun w a b z => h w a b ((bit_and hf w).mp z).1
end
section
/-! faces left and right of an edge -/
def FGE (en : Int) (fo : Int → Int) : Prop := 1 ≤ en ∧ ∀ d, 0 ≤ d → d < 2 * en → 0 ≤ fo d
def LFA (fo : Int → Int) (e an : Int) : Prop := an = fo (2 * e) ∨ an = fo (2 * e + 1)
theorem fge_lfa {en e an : Int} {fo : Int → Int} (h : FGE en fo) (hl : LFA fo e an) (e0 : 0 ≤ e) (e1 : e < en) : 0 ≤ an := by
  rcases hl with q | q
  · rw [q]; exact h.2 _ (by omega) (by omega)
  · rw [q]; exact h.2 _ (by omega) (by omega)
theorem lfa_0 {fo : Int → Int} {e an d : Int} (h : an = fo d) (hd : d = 2 * e) : LFA fo e an := Or.inl (by rw [h, hd])
theorem lfa_1 {fo : Int → Int} {e an d : Int} (h : an = fo d) (hd : d = 2 * e + 1) : LFA fo e an := Or.inr (by rw [h, hd])
end
section
/-! bends of edges, dropped and added in order; the bars -/
def BN0 (b : Int → Int) : Prop := ∀ j, 0 ≤ j → j < 48 → b j = 0
def BNY (b : Int → Int) (e : Int) : Prop := ∀ j, e ≤ j → 0 ≤ j → j < 48 → b j = 0
def BNZ (b : Int → Int) (e : Int) : Prop := ∀ j, e < j → 0 ≤ j → j < 48 → b j = 0
def PLB (pl en bl : Int) (fo : Int → Int) : Prop := pl ≠ 0 → bl = 1 → FGE en fo
theorem bny_0 {b : Int → Int} {e : Int} (h : BN0 b) : BNY b e := fun j _ a c => h j a c
theorem bny_z {b : Int → Int} {e : Int} (h : BNY b e) : BNZ b e := fun j q a c => h j (by omega) a c
theorem bnz_y {b : Int → Int} {e e_zq : Int} (h : BNZ b e) (he : e_zq = e + 1) : BNY b e_zq := fun j q a c => h j (by omega) a c
theorem bny_at {b : Int → Int} {e : Int} (h : BNY b e) (e0 : 0 ≤ e) (e1 : e < 48) : b e = 0 := h e (by omega) e0 e1
theorem bnz_set {b b_zq : Int → Int} {e p x : Int} (h : BNZ b e) (hs : st1 b b_zq p x) (hp : p = e) : BNZ b_zq e := fun j q a c => by rw [(hs j a).2 (by omega)]; exact h j q a c
end
section
/-! layers of at most six items -/
def LS6 (lc : Int) (ls : Int → Int) : Prop := ∀ m, 0 ≤ m → m < lc → 0 ≤ ls m ∧ ls m ≤ ls (m + 1) ∧ ls (m + 1) - ls m ≤ 6 ∧ ls (m + 1) ≤ 72
theorem ls6_of {lc wd : Int} {ls : Int → Int} (h : LST lc ls wd) (hw : wd ≤ 6) : LS6 lc ls := fun m a b => by
  obtain ⟨q1, q2, q3, q4⟩ := h m a b
  exact ⟨q1, q2, by omega, q4⟩
theorem ls6_size {lc l a b c d : Int} {ls : Int → Int} (h : LS6 lc ls) (l0 : 0 ≤ l) (l1 : l + 1 ≤ lc) (ha : a = ls d) (hd : d = l + 1) (hb : b = ls l) (hc : c = a - b) : 0 ≤ c ∧ c ≤ 6 := by
  obtain ⟨q1, q2, q3, q4⟩ := h l l0 (by omega)
  rw [hc, ha, hb, hd]; omega
end
section
/-! a piece's way in the class's embedder -/
def SYE (n : Int) (nr : Int → Int) : Prop := SYMN nr n
def FRE (pn n : Int) : Prop := FRN n pn
def PEN (pn pe : Int) : Prop := (∃ u, 0 ≤ u ∧ u < 32 ∧ bit pe u) ∧ (pn = 0 → ∃ u v, 0 ≤ u ∧ u < 32 ∧ 0 ≤ v ∧ v < 32 ∧ u ≠ v ∧ bit pe u ∧ bit pe v)
theorem pen_low {pn pe an : Int} (h : PEN pn pe) (hL : LOW pe an) (p0 : 0 ≤ pe) (p1 : pe ≤ 33554431) : 0 ≤ an ∧ an < 25 ∧ bit pe an := by
  obtain ⟨u, u0, u1, u2⟩ := h.1
  have : pe ≠ 0 := fun e => absurd (e ▸ u2) (bit_zero u)
  exact hL (by omega) (by omega)
theorem pen_two {pn pe an q r ot x one m1 : Int} (h : PEN pn pe) (hn : pn = 0) (a0 : 0 ≤ an) (hq : bvp q = bvp one <<< an.toNat) (h1 : one = 1) (hr : bvp r = bvp q ^^^ bvp m1) (hm : m1 = -1) (ho : bvp ot = bvp pe &&& bvp r) (o0 : 0 ≤ ot) (o1 : ot ≤ 33554431) (hL : LOW ot x) : 0 ≤ x ∧ x < 25 := by
  obtain ⟨u, v, u0, u1, v0, v1, uv, bu, bv⟩ := h.2 hn
  have key : ∀ w, 0 ≤ w → w < 32 → bit pe w → w ≠ an → ot ≠ 0 := fun w w0 w1 bw wa e => by
    have : bit ot w := by
      rw [bit_and ho, bit_xor hr hm w0 w1, bit_shl hq h1 a0 w0 w1]; exact ⟨bw, wa⟩
    exact absurd (e ▸ this) (bit_zero w)
  have : ot ≠ 0 := by
    by_cases e : u = an
    · exact key v v0 v1 bv (fun z => uv (e.trans z.symm))
    · exact key u u0 u1 bu e
  have q := hL (by omega) (by omega)
  exact ⟨q.1, q.2.1⟩
end
section
/-! spread: what it finds, exactly -/
noncomputable def cnb (P : Int → Prop) : Nat → Int
  | 0 => 0
  | k + 1 => cnb P k + @ite Int (P (k : Int)) (Classical.propDecidable _) 1 0
theorem cnb_pos {P : Int → Prop} {k : Nat} (h : P (k : Int)) : cnb P (k + 1) = cnb P k + 1 := by
  show cnb P k + @ite Int (P (k : Int)) (Classical.propDecidable _) 1 0 = _
  rw [if_pos h]
theorem cnb_neg {P : Int → Prop} {k : Nat} (h : ¬ P (k : Int)) : cnb P (k + 1) = cnb P k := by
  show cnb P k + @ite Int (P (k : Int)) (Classical.propDecidable _) 1 0 = _
  rw [if_neg h]; omega
theorem cnb_le (P : Int → Prop) (k : Nat) : 0 ≤ cnb P k ∧ cnb P k ≤ k := by
  induction k with
  | zero => exact ⟨Int.le_refl _, Int.le_refl _⟩
  | succ k ih =>
    by_cases q : P (k : Int)
    · rw [cnb_pos q]; push_cast; omega
    · rw [cnb_neg q]; push_cast; omega
theorem cnb_mono {P Q : Int → Prop} (k : Nat) (h : ∀ j : Int, 0 ≤ j → j < k → P j → Q j) : cnb P k ≤ cnb Q k := by
  induction k with
  | zero => exact Int.le_refl _
  | succ k ih =>
    have i1 := ih (fun j a b => h j a (by push_cast; omega))
    by_cases q : P (k : Int)
    · rw [cnb_pos q, cnb_pos (h k (by omega) (by push_cast; omega) q)]; omega
    · rw [cnb_neg q]
      by_cases q2 : Q (k : Int)
      · rw [cnb_pos q2]; omega
      · rw [cnb_neg q2]; omega
theorem cnb_more {P Q : Int → Prop} (k : Nat) (h : ∀ j : Int, 0 ≤ j → j < k → P j → Q j) {x : Int} (x0 : 0 ≤ x) (x1 : x < k) (n1 : ¬ P x) (n2 : Q x) : cnb P k + 1 ≤ cnb Q k := by
  induction k with
  | zero => exact absurd x1 (by push_cast; omega)
  | succ k ih =>
    by_cases z : x = k
    · rw [z] at n1 n2
      have i1 := cnb_mono (P := P) (Q := Q) k (fun j a b => h j a (by push_cast; omega))
      rw [cnb_neg n1, cnb_pos n2]; omega
    · have i1 := ih (fun j a b => h j a (by push_cast; omega)) (by push_cast at x1; omega)
      by_cases q : P (k : Int)
      · rw [cnb_pos q, cnb_pos (h k (by omega) (by push_cast; omega) q)]; omega
      · rw [cnb_neg q]
        by_cases q2 : Q (k : Int)
        · rw [cnb_pos q2]; omega
        · rw [cnb_neg q2]; omega
/-- neighbours of nodes of a net are nodes of it -/
def NRB (nr : Int → Int) (n : Int) : Prop := ∀ u w, 0 ≤ u → u < n → 0 ≤ w → w < 32 → bit (nr u) w → w < n
def spU (nr : Int → Int) (n st al : Int) (U : Int → Prop) : Prop := (∀ w, 0 ≤ w → w < 32 → bit st w → bit al w → U w) ∧ ∀ u w, 0 ≤ u → u < n → U u → 0 ≤ w → w < 32 → bit (nr u) w → bit al w → U w
def SPI (nr : Int → Int) (n st al k fd fs : Int) : Prop := 0 ≤ n ∧ n ≤ 32 ∧ 0 ≤ k ∧ (∀ w, 0 ≤ w → w < 32 → bit fd w → bit al w) ∧ (∀ w, 0 ≤ w → w < 32 → bit fs w → bit fd w) ∧ (∀ w, 0 ≤ w → w < 32 → bit st w → bit al w → bit fd w) ∧ (∀ u w, 0 ≤ u → u < n → bit fd u → ¬ bit fs u → 0 ≤ w → w < 32 → bit (nr u) w → bit al w → bit fd w) ∧ (∀ U : Int → Prop, spU nr n st al U → ∀ w, 0 ≤ w → w < 32 → bit fd w → U w) ∧ (NRB nr n → FRN n st → (∀ w, 0 ≤ w → w < 32 → bit fd w → w < n) ∧ ((∃ w, 0 ≤ w ∧ w < 32 ∧ bit fs w) → k + 1 ≤ cnb (bit fd) n.toNat))
/-- allowed alone; from the start; closed; no more -/
def SPZ (nr : Int → Int) (n st al an : Int) : Prop := (∀ w, 0 ≤ w → w < 32 → bit an w → bit al w) ∧ (∀ w, 0 ≤ w → w < 32 → bit st w → bit al w → bit an w) ∧ (∀ U : Int → Prop, spU nr n st al U → ∀ w, 0 ≤ w → w < 32 → bit an w → U w) ∧ (NRB nr n → FRN n st → (∀ w, 0 ≤ w → w < 32 → bit an w → w < n) ∧ ∀ u w, 0 ≤ u → u < n → bit an u → 0 ≤ w → w < 32 → bit (nr u) w → bit al w → bit an w)
theorem spi_start {nr : Int → Int} {n st al k fd fs : Int} (h : bvp fd = bvp st &&& bvp al) (e : fs = fd) (hk : k = 0) (n0 : 0 ≤ n) (n1 : n ≤ 32) : SPI nr n st al k fd fs := by
  subst e
  have hb := fun w => bit_and h w
  refine ⟨n0, n1, by omega, fun w _ _ z => ((hb w).mp z).2, fun w _ _ z => z, fun w _ _ z y => (hb w).mpr ⟨z, y⟩, fun u w _ _ z y => absurd z y, fun U hU w a b z => hU.1 w a b ((hb w).mp z).1 ((hb w).mp z).2, fun hn hf => ⟨fun w a b z => hf w a b ((hb w).mp z).1, fun ⟨w, a, b, z⟩ => ?_⟩⟩
  have hw := hf w a b ((hb w).mp z).1
  have c1 := cnb_more (P := fun _ => False) (Q := bit fs) n.toNat (fun j _ _ q => q.elim) a (by omega) (fun q => q) z
  have c0 := (cnb_le (fun _ => False) n.toNat).1
  omega
theorem spi_step {nr : Int → Int} {n st al k k_zq fd fs p q r fs_zq fd_zq m1 : Int} (h : SPI nr n st al k fd fs) (hne : fs ≠ 0) (f0 : -2147483648 ≤ fs) (f1 : fs ≤ 2147483647) (hp : NEF nr n fs p) (h1 : bvp q = bvp p &&& bvp al) (hr : bvp r = bvp fd ^^^ bvp m1) (hm : m1 = -1) (h2 : bvp fs_zq = bvp q &&& bvp r) (h3 : bvp fd_zq = bvp fd ||| bvp fs_zq) (hk : k_zq = k + 1) : SPI nr n st al k_zq fd_zq fs_zq := by
  obtain ⟨a0, a1, a2, a3, a4, a5, a6, a7, a8⟩ := h
  have ne : ∃ w, 0 ≤ w ∧ w < 32 ∧ bit fs w := by
    apply Classical.byContradiction
    intro hn
    exact hne (bit_none (fun i i0 i1 hb => hn ⟨i, i0, i1, hb⟩) f0 f1)
  have bf : ∀ w, 0 ≤ w → w < 32 → (bit fs_zq w ↔ (∃ u, 0 ≤ u ∧ u < n ∧ bit fs u ∧ bit (nr u) w) ∧ bit al w ∧ ¬ bit fd w) := fun w w0 w1 => by
    rw [bit_and h2, bit_and h1, bit_xor hr hm w0 w1, hp w w0 w1]
    exact ⟨fun z => ⟨z.1.1, z.1.2, z.2⟩, fun z => ⟨⟨z.1, z.2.1⟩, z.2.2⟩⟩
  have bd : ∀ w, bit fd_zq w ↔ bit fd w ∨ bit fs_zq w := fun w => bit_or h3 w
  refine ⟨a0, a1, by omega, fun w w0 w1 z => ?_, fun w w0 w1 z => (bd w).mpr (Or.inr z), fun w w0 w1 z y => (bd w).mpr (Or.inl (a5 w w0 w1 z y)), fun u w u0 u1 z y w0 w1 x v => ?_, fun U hU w w0 w1 z => ?_, fun hn hf => ⟨fun w w0 w1 z => ?_, fun ⟨w, w0, w1, z⟩ => ?_⟩⟩
  · rcases (bd w).mp z with z | z
    · exact a3 w w0 w1 z
    · exact ((bf w w0 w1).mp z).2.1
  · rcases (bd u).mp z with z | z
    · by_cases c : bit fs u
      · by_cases d : bit fd w
        · exact (bd w).mpr (Or.inl d)
        · exact (bd w).mpr (Or.inr ((bf w w0 w1).mpr ⟨⟨u, u0, u1, c, x⟩, v, d⟩))
      · exact (bd w).mpr (Or.inl (a6 u w u0 u1 z c w0 w1 x v))
    · exact absurd z y
  · rcases (bd w).mp z with z | z
    · exact a7 U hU w w0 w1 z
    · obtain ⟨⟨u, u0, u1, u2, u3⟩, u4, _⟩ := (bf w w0 w1).mp z
      exact hU.2 u w u0 u1 (a7 U hU u u0 (by omega) (a4 u u0 (by omega) u2)) w0 w1 u3 u4
  · rcases (bd w).mp z with z | z
    · exact (a8 hn hf).1 w w0 w1 z
    · obtain ⟨⟨u, u0, u1, u2, u3⟩, _⟩ := (bf w w0 w1).mp z
      exact hn u w u0 u1 w0 w1 u3
  · obtain ⟨⟨u, u0, u1, u2, u3⟩, _, u5⟩ := (bf w w0 w1).mp z
    have c1 := (a8 hn hf).2 ne
    have c2 := cnb_more (P := bit fd) (Q := bit fd_zq) n.toNat (fun j _ _ q => (bd j).mpr (Or.inl q)) w0 (by have := hn u w u0 u1 w0 w1 u3; omega) u5 ((bd w).mpr (Or.inr z))
    omega
theorem spz_of {nr : Int → Int} {n st al k fd fs an : Int} (h : SPI nr n st al k fd fs) (he : fs = 0 ∨ n ≤ k) (ha : an = fd) : SPZ nr n st al an := by
  obtain ⟨a0, a1, a2, a3, a4, a5, a6, a7, a8⟩ := h
  subst ha
  refine ⟨a3, a5, a7, fun hn hf => ⟨(a8 hn hf).1, fun u w u0 u1 z w0 w1 x v => ?_⟩⟩
  have nf : ¬ bit fs u := fun c => by
    rcases he with e | e
    · exact absurd (e ▸ c) (bit_zero u)
    · have c1 := (a8 hn hf).2 ⟨u, u0, by omega, c⟩
      have c2 := (cnb_le (bit an) n.toNat).2
      omega
  exact a6 u w u0 u1 z nf w0 w1 x v
end
section
/-! the class's embedder: rows of faces, all nodes of a row different -/
def rwD (cy : Int → Int) (b L : Int) : Prop := ∀ i j, 0 ≤ i → i < j → j < L → cy (b + i) ≠ cy (b + j)
def rwB (D : Int) (cy : Int → Int) (b L : Int) : Prop := ∀ i, 0 ≤ i → i < L → 0 ≤ cy (b + i) ∧ cy (b + i) < 25 ∧ bit D (cy (b + i))
/-- a row that grows: drawn nodes, or such of the way -/
def gdR (D wl : Int) (cy wy : Int → Int) (b L lo : Int) : Prop := 0 ≤ L ∧ rwD cy b L ∧ ∀ i, 0 ≤ i → i < L → 0 ≤ cy (b + i) ∧ cy (b + i) < 25 ∧ (bit D (cy (b + i)) ∨ ∃ t, lo ≤ t ∧ 1 ≤ t ∧ t < wl - 1 ∧ cy (b + i) = wy t)
def CYR (C D : Int) (cy ln : Int → Int) : Prop := ∀ c, 0 ≤ c → c < C → 0 ≤ ln c ∧ rwD cy (25 * c) (ln c) ∧ rwB D cy (25 * c) (ln c)
def WYN (D wl : Int) (wy : Int → Int) : Prop := (∀ i, 1 ≤ i → i < wl - 1 → 0 ≤ wy i ∧ wy i < 25 ∧ ¬ bit D (wy i)) ∧ ∀ i j, 1 ≤ i → i < j → j < wl - 1 → wy i ≠ wy j
theorem row_le {f : Int → Int} {b L : Int} (L0 : 0 ≤ L) (h : rwD f b L) (hb : ∀ i, 0 ≤ i → i < L → 0 ≤ f (b + i) ∧ f (b + i) < 25) : L ≤ 25 := by
  have := php L.toNat 25 (fun i => (f (b + (i : Int))).toNat) (fun i hi => by have := hb i (by omega) (by omega); omega) (fun i j hi hj e => by
    have e : (f (b + (i : Int))).toNat = (f (b + (j : Int))).toNat := e
    have h1 := hb i (by omega) (by omega)
    have h2 := hb j (by omega) (by omega)
    by_cases c : i < j
    · exact absurd (by omega) (h i j (by omega) (by omega) (by omega))
    · by_cases d : j < i
      · exact absurd (by omega) (h j i (by omega) (by omega) (by omega))
      · omega)
  omega
theorem gdr_le {D wl b L lo : Int} {cy wy : Int → Int} (h : gdR D wl cy wy b L lo) : L ≤ 25 := row_le h.1 h.2.1 (fun i a b => ⟨(h.2.2 i a b).1, (h.2.2 i a b).2.1⟩)
theorem cyc_le {C D : Int} {cy ln : Int → Int} (h : CYR C D cy ln) {c : Int} (c0 : 0 ≤ c) (c1 : c < C) : ln c ≤ 25 := row_le (h c c0 c1).1 (h c c0 c1).2.1 (fun i a b => ⟨((h c c0 c1).2.2 i a b).1, ((h c c0 c1).2.2 i a b).2.1⟩)
theorem gdr_cyc {C D wl lo : Int} {cy ln wy : Int → Int} (h : CYR C D cy ln) {c : Int} (c0 : 0 ≤ c) (c1 : c < C) : gdR D wl cy wy (25 * c) (ln c) lo := ⟨(h c c0 c1).1, (h c c0 c1).2.1, fun i a b => ⟨((h c c0 c1).2.2 i a b).1, ((h c c0 c1).2.2 i a b).2.1, Or.inl ((h c c0 c1).2.2 i a b).2.2⟩⟩
/-- a node that is not there yet is put at the end -/
theorem gdr_add {D wl b L lo : Int} {cy cy_zq wy : Int → Int} {p v : Int} (h : gdR D wl cy wy b L lo) (b0 : 0 ≤ b) (hs : st1 cy cy_zq p v) (hp : p = b + L) (v0 : 0 ≤ v) (v1 : v < 25) (hv : bit D v ∨ ∃ t, lo ≤ t ∧ 1 ≤ t ∧ t < wl - 1 ∧ v = wy t) (hn : ∀ i, 0 ≤ i → i < L → cy (b + i) ≠ v) : gdR D wl cy_zq wy b (L + 1) lo := by
  obtain ⟨h1, h2, h3⟩ := h
  have hL : cy_zq (b + L) = v := (hs (b + L) (by omega)).1 (by omega)
  have ho : ∀ i, 0 ≤ i → i < L → cy_zq (b + i) = cy (b + i) := fun i i0 i1 => (hs (b + i) (by omega)).2 (by omega)
  refine ⟨by omega, fun i j i0 ij j1 => ?_, fun i i0 i1 => ?_⟩
  · by_cases e : j = L
    · rw [e, hL, ho i i0 (by omega)]; exact hn i i0 (by omega)
    · rw [ho i i0 (by omega), ho j (by omega) (by omega)]; exact h2 i j i0 ij (by omega)
  · by_cases e : i = L
    · rw [e, hL]; exact ⟨v0, v1, hv⟩
    · rw [ho i i0 (by omega)]; exact h3 i i0 (by omega)
theorem gdr_room {D wl b L lo : Int} {cy wy : Int → Int} {v : Int} (h : gdR D wl cy wy b L lo) (b0 : 0 ≤ b) (v0 : 0 ≤ v) (v1 : v < 25) (hv : bit D v ∨ ∃ t, lo ≤ t ∧ 1 ≤ t ∧ t < wl - 1 ∧ v = wy t) (hn : ∀ i, 0 ≤ i → i < L → cy (b + i) ≠ v) : L ≤ 24 := by
  have := gdr_le (gdr_add (cy_zq := fun j => if j = b + L then v else cy j) (p := b + L) (v := v) h b0 (fun j j0 => ⟨fun e => if_pos e, fun e => if_neg e⟩) rfl v0 v1 hv hn)
  omega
theorem gdr_lo {D wl b L lo lo_zq : Int} {cy wy : Int → Int} (h : gdR D wl cy wy b L lo) (hl : lo_zq ≤ lo) : gdR D wl cy wy b L lo_zq := ⟨h.1, h.2.1, fun i a b => ⟨(h.2.2 i a b).1, (h.2.2 i a b).2.1, (h.2.2 i a b).2.2.elim Or.inl (fun ⟨t, t0, t1⟩ => Or.inr ⟨t, by omega, t1⟩)⟩⟩
theorem gdr_same {D wl b L lo : Int} {cy cy_zq wy : Int → Int} (h : gdR D wl cy wy b L lo) (he : ∀ i, 0 ≤ i → i < L → cy_zq (b + i) = cy (b + i)) : gdR D wl cy_zq wy b L lo := by
  obtain ⟨h1, h2, h3⟩ := h
  exact ⟨h1, fun i j i0 ij j1 => by rw [he i i0 (by omega), he j (by omega) j1]; exact h2 i j i0 ij j1, fun i i0 i1 => by rw [he i i0 i1]; exact h3 i i0 i1⟩
/-- a node of the way that is not in the row: the row's are drawn, or of the way's rest -/
theorem wyn_new {D wl b L lo k : Int} {cy wy : Int → Int} (h : gdR D wl cy wy b L lo) (hw : WYN D wl wy) (k1 : 1 ≤ k) (k2 : k < wl - 1) (hk : k < lo) : ∀ i, 0 ≤ i → i < L → cy (b + i) ≠ wy k := fun i i0 i1 e => by
  rcases (h.2.2 i i0 i1).2.2 with q | ⟨t, t0, t1, t2, t3⟩
  · exact (hw.1 k k1 k2).2.2 (e ▸ q)
  · exact hw.2 k t k1 (by omega) t2 (by rw [← e]; exact t3)
/-! a stretch of a row -/
theorem mod_two {x L : Int} (x0 : 0 ≤ x) (x1 : x < 2 * L) : x % L = if x < L then x else x - L := by
  split
  · exact Int.emod_eq_of_lt x0 (by omega)
  · have : x % L = (x - L) % L := by
      have h := Int.add_emod_right (x - L) L
      rw [show x - L + L = x by omega] at h; exact h
    rw [this]; exact Int.emod_eq_of_lt (by omega) (by omega)
theorem tmod_two {x L : Int} (x0 : 0 ≤ x) (x1 : x < 2 * L) : Int.tmod x L = if x < L then x else x - L := by
  rw [Int.tmod_eq_emod_of_nonneg x0]; exact mod_two x0 x1
def stc (ln cy fr : Int → Int) (b c s k : Int) : Prop := 0 ≤ c ∧ 0 ≤ k ∧ k ≤ ln c ∧ 0 ≤ s ∧ (s = 0 ∨ s < ln c) ∧ ∀ i, 0 ≤ i → i < k → fr (b + i) = cy (25 * c + (if s + i < ln c then s + i else s + i - ln c))
def CSI (cy ln fr : Int → Int) (c s L k : Int) : Prop := L = k ∧ stc ln cy fr 0 c s k
theorem csi_start {cy ln fr : Int → Int} {c s L k : Int} (c0 : 0 ≤ c) (hL : L = 0) (hk : k = 0) (s0 : 0 ≤ s) (hl : 0 ≤ ln c) (hs : s = 0 ∨ s + 1 ≤ ln c) : CSI cy ln fr c s L k := ⟨by omega, c0, by omega, by omega, s0, by omega, fun i a b => by omega⟩
theorem csi_step {cy ln fr fr_zq : Int → Int} {c s L L_zq k p v x q l2 r z : Int} (h : CSI cy ln fr c s L k) (hx : x = ln c) (hk : k < x) (hq : q = s + k) (hl2 : l2 = ln c) (hr : r = Int.tmod q l2) (hz : z = 25 * c + r) (hv : v = cy z) (hs : st1 fr fr_zq p v) (hp : p = L) (hL : L_zq = L + 1) : CSI cy ln fr_zq c s L_zq (k + 1) := by
  obtain ⟨h1, h2, h3, h4, h5, h6, h7⟩ := h
  refine ⟨by omega, h2, by omega, by omega, h5, h6, fun i a b => ?_⟩
  rw [Int.zero_add]
  by_cases e : i = k
  · rw [(hs i a).1 (by omega), hv, hz, hr, hl2, hq, tmod_two (by omega) (by omega), e]
  · rw [(hs i a).2 (by omega)]
    have := h7 i a (by omega)
    rw [Int.zero_add] at this; exact this
theorem stc_row {C D c s k b : Int} {cy fr ln : Int → Int} (h : stc ln cy fr b c s k) (hc : CYR C D cy ln) (c1 : c < C) : 0 ≤ k ∧ rwD fr b k ∧ rwB D fr b k := by
  obtain ⟨h2, h3, h4, h5, h6, h7⟩ := h
  obtain ⟨d1, d2, d3⟩ := hc c h2 c1
  refine ⟨h3, fun i j i0 ij j1 => ?_, fun i i0 i1 => ?_⟩
  · rw [h7 i i0 (by omega), h7 j (by omega) j1]
    have key : ∀ a b, 0 ≤ a → a < ln c → 0 ≤ b → b < ln c → a ≠ b → cy (25 * c + a) ≠ cy (25 * c + b) := fun a b a0 a1 b0 b1 ne => by
      by_cases z : a < b
      · exact d2 a b a0 z b1
      · exact fun e => d2 b a b0 (by omega) a1 e.symm
    apply key
    · split <;> omega
    · split <;> omega
    · split <;> omega
    · split <;> omega
    · split <;> split <;> omega
  · rw [h7 i i0 i1]
    exact d3 _ (by split <;> omega) (by split <;> omega)
def FRT (D : Int) (fr : Int → Int) (L : Int) : Prop := 0 ≤ L ∧ rwD fr 0 L ∧ rwB D fr 0 L
theorem frt_of {C D c s L k : Int} {cy ln fr : Int → Int} (h : CSI cy ln fr c s L k) (hc : CYR C D cy ln) (c1 : c < C) : FRT D fr L := by
  obtain ⟨h1, h2⟩ := h
  subst h1
  exact stc_row h2 hc c1
/-- the way put behind the stretch -/
def FRW (D wl : Int) (fr wy : Int → Int) (L k : Int) : Prop := k + 2 ≤ wl ∧ 0 ≤ k ∧ gdR D wl fr wy 0 L (k + 1)
theorem frw_start {D wl L k : Int} {fr wy : Int → Int} (h : FRT D fr L) (hk : k = wl - 2) (w2 : 2 ≤ wl) : FRW D wl fr wy L k := ⟨by omega, by omega, h.1, h.2.1, fun i a b => ⟨(h.2.2 i a b).1, (h.2.2 i a b).2.1, Or.inl (h.2.2 i a b).2.2⟩⟩
theorem frw_room {D wl L k v : Int} {fr wy : Int → Int} (h : FRW D wl fr wy L k) (hw : WYN D wl wy) (k0 : 0 < k) : 0 ≤ L ∧ L ≤ 24 := by
  have q := hw.1 k (by omega) (by have := h.1; omega)
  exact ⟨h.2.2.1, gdr_room (v := wy k) (gdr_lo h.2.2 (lo_zq := k) (by omega)) (by omega) q.1 q.2.1 (Or.inr ⟨k, by omega, by omega, by have := h.1; omega, rfl⟩) (wyn_new h.2.2 hw (by omega) (by have := h.1; omega) (by omega))⟩
theorem frw_step {D wl L L_zq k k_zq p v : Int} {fr fr_zq wy : Int → Int} (h : FRW D wl fr wy L k) (hw : WYN D wl wy) (k0 : 0 < k) (hs : st1 fr fr_zq p v) (hp : p = L) (hv : v = wy k) (hL : L_zq = L + 1) (hk : k_zq = k - 1) : FRW D wl fr_zq wy L_zq k_zq := by
  have q := hw.1 k (by omega) (by have := h.1; omega)
  have g := gdr_add (p := p) (v := v) (gdr_lo h.2.2 (lo_zq := k) (by omega)) (by omega) hs (by omega) (by omega) (by omega) (Or.inr ⟨k, by omega, by omega, by have := h.1; omega, hv⟩) (by rw [hv]; exact wyn_new h.2.2 hw (by omega) (by have := h.1; omega) (by omega))
  exact ⟨by have := h.1; omega, by omega, by rw [hL, show k_zq + 1 = k by omega]; exact g⟩
/-! the other half, straight into the last row -/
def COI (C : Int) (cy ln : Int → Int) (c s L k : Int) : Prop := L = k ∧ c < C ∧ stc ln cy cy (25 * C) c s k
theorem cyc_keep {C D p v : Int} {cy cy_zq ln : Int → Int} (h : CYR C D cy ln) (hs : st1 cy cy_zq p v) (hp : 25 * C ≤ p) : CYR C D cy_zq ln := fun c c0 c1 => by
  have hl := cyc_le h c0 c1
  obtain ⟨d1, d2, d3⟩ := h c c0 c1
  have ho : ∀ i, 0 ≤ i → i < ln c → cy_zq (25 * c + i) = cy (25 * c + i) := fun i i0 i1 => (hs (25 * c + i) (by omega)).2 (by omega)
  exact ⟨d1, fun i j i0 ij j1 => by rw [ho i i0 (by omega), ho j (by omega) j1]; exact d2 i j i0 ij j1, fun i i0 i1 => by rw [ho i i0 i1]; exact d3 i i0 i1⟩
theorem coi_start {C : Int} {cy ln : Int → Int} {c s L k : Int} (c0 : 0 ≤ c) (c1 : c + 1 ≤ C) (hL : L = 0) (hk : k = 0) (s0 : 0 ≤ s) (hl : 0 ≤ ln c) (hs : s = 0 ∨ s + 1 ≤ ln c) : COI C cy ln c s L k := ⟨by omega, by omega, c0, by omega, by omega, s0, by omega, fun i a b => by omega⟩
theorem coi_step {C D : Int} {cy cy_zq ln : Int → Int} {c s L L_zq k p v x q l2 r z : Int} (h : COI C cy ln c s L k) (hc : CYR C D cy ln) (hx : x = ln c) (hk : k < x) (hq : q = s + k) (hl2 : l2 = ln c) (hr : r = Int.tmod q l2) (hz : z = 25 * c + r) (hv : v = cy z) (hs : st1 cy cy_zq p v) (hp : p = 25 * C + L) (hL : L_zq = L + 1) : COI C cy_zq ln c s L_zq (k + 1) := by
  obtain ⟨h1, c1, h2, h3, h4, h5, h6, h7⟩ := h
  have hl := cyc_le hc h2 c1
  refine ⟨by omega, c1, h2, by omega, by omega, h5, h6, fun i a b => ?_⟩
  have e1 : cy_zq (25 * c + (if s + i < ln c then s + i else s + i - ln c)) = cy (25 * c + (if s + i < ln c then s + i else s + i - ln c)) := (hs _ (by split <;> omega)).2 (by split <;> omega)
  rw [e1]
  by_cases e : i = k
  · rw [(hs _ (by omega)).1 (by omega), hv, hz, hr, hl2, hq, tmod_two (by omega) (by omega), e]
  · rw [(hs _ (by omega)).2 (by omega)]
    exact h7 i a (by omega)
/-- the last row with the way behind it -/
def COJ (C D wl : Int) (cy wy : Int → Int) (L k : Int) : Prop := 1 ≤ k ∧ 0 ≤ C ∧ 0 ≤ L ∧ rwD cy (25 * C) L ∧ ∀ i, 0 ≤ i → i < L → 0 ≤ cy (25 * C + i) ∧ cy (25 * C + i) < 25 ∧ (bit D (cy (25 * C + i)) ∨ ∃ t, 1 ≤ t ∧ t < k ∧ t < wl - 1 ∧ cy (25 * C + i) = wy t)
theorem coj_start {C D wl c s L k k2 : Int} {cy ln wy : Int → Int} (h : COI C cy ln c s L k) (hc : CYR C D cy ln) (hk : k2 = 1) : COJ C D wl cy wy L k2 := by
  obtain ⟨h1, c1, h2⟩ := h
  subst h1
  have := h2.1
  obtain ⟨d1, d2, d3⟩ := stc_row h2 hc c1
  exact ⟨by omega, by omega, d1, d2, fun i a b => ⟨(d3 i a b).1, (d3 i a b).2.1, Or.inl (d3 i a b).2.2⟩⟩
theorem coj_gdr {C D wl L k : Int} {cy wy : Int → Int} (h : COJ C D wl cy wy L k) : gdR D wl cy wy (25 * C) L 1 := ⟨h.2.2.1, h.2.2.2.1, fun i a b => ⟨(h.2.2.2.2 i a b).1, (h.2.2.2.2 i a b).2.1, (h.2.2.2.2 i a b).2.2.elim Or.inl (fun ⟨t, t1, t2, t3⟩ => Or.inr ⟨t, t1, t1, t3⟩)⟩⟩
theorem coj_new {C D wl L k : Int} {cy wy : Int → Int} (h : COJ C D wl cy wy L k) (hw : WYN D wl wy) (k2 : k < wl - 1) : ∀ i, 0 ≤ i → i < L → cy (25 * C + i) ≠ wy k := fun i i0 i1 e => by
  rcases (h.2.2.2.2 i i0 i1).2.2 with q | ⟨t, t0, t1, t2, t3⟩
  · exact (hw.1 k h.1 k2).2.2 (e ▸ q)
  · exact hw.2 t k t0 t1 k2 (by rw [← e]; exact t3.symm)
theorem coj_room {C D wl L k : Int} {cy wy : Int → Int} (h : COJ C D wl cy wy L k) (hw : WYN D wl wy) (k2 : k < wl - 1) : 0 ≤ L ∧ L ≤ 24 := by
  have q := hw.1 k h.1 k2
  exact ⟨h.2.2.1, gdr_room (v := wy k) (coj_gdr h) (by have := h.2.1; omega) q.1 q.2.1 (Or.inr ⟨k, h.1, h.1, k2, rfl⟩) (coj_new h hw k2)⟩
theorem coj_step {C D wl L L_zq k k_zq p v : Int} {cy cy_zq wy : Int → Int} (h : COJ C D wl cy wy L k) (hw : WYN D wl wy) (k2 : k < wl - 1) (hs : st1 cy cy_zq p v) (hp : p = 25 * C + L) (hv : v = wy k) (hL : L_zq = L + 1) (hk : k_zq = k + 1) : COJ C D wl cy_zq wy L_zq k_zq := by
  have q := hw.1 k h.1 k2
  have g := gdr_add (p := p) (v := v) (coj_gdr h) (by have := h.2.1; omega) hs hp (by omega) (by omega) (Or.inr ⟨k, h.1, h.1, k2, hv⟩) (by rw [hv]; exact coj_new h hw k2)
  subst hL hk
  refine ⟨by have := h.1; omega, h.2.1, g.1, g.2.1, fun i i0 i1 => ⟨(g.2.2 i i0 i1).1, (g.2.2 i i0 i1).2.1, ?_⟩⟩
  have := h.2.1; have := h.2.2.1
  by_cases e : i = L
  · rw [e, (hs _ (by omega)).1 (by omega)]; exact Or.inr ⟨k, h.1, by omega, k2, hv⟩
  · rw [(hs _ (by omega)).2 (by omega)]
    exact (h.2.2.2.2 i i0 (by omega)).2.2.elim Or.inl (fun ⟨t, t1, t2, t3⟩ => Or.inr ⟨t, t1, by omega, t3⟩)
def NWX (C D wl : Int) (cy wy : Int → Int) (L : Int) : Prop := gdR D wl cy wy (25 * C) L 1
theorem nwx_of {C D wl L k an : Int} {cy wy : Int → Int} (h : COJ C D wl cy wy L k) (ha : an = L) : NWX C D wl cy wy an := by subst ha; exact coj_gdr h
/-! a row's length is noted -/
def SCX (C D wl : Int) (cy ln wy : Int → Int) (c L : Int) : Prop := 0 ≤ c ∧ gdR D wl cy wy (25 * c) L 1 ∧ ∀ c_zq, 0 ≤ c_zq → c_zq < C → c_zq ≠ c → gdR D wl cy wy (25 * c_zq) (ln c_zq) 1
def SCZ (C D wl : Int) (cy ln wy : Int → Int) (c : Int) : Prop := ∀ c_zq, 0 ≤ c_zq → c_zq < C ∨ c_zq = c → gdR D wl cy wy (25 * c_zq) (ln c_zq) 1
theorem scz_of {C D wl c L p v : Int} {cy ln ln_zq wy : Int → Int} (h : SCX C D wl cy ln wy c L) (hs : st1 ln ln_zq p v) (hp : p = c) (hv : v = L) : SCZ C D wl cy ln_zq wy c := fun c_zq c0 c1 => by
  by_cases e : c_zq = c
  · rw [(hs c_zq c0).1 (by omega), e, hv]; exact h.2.1
  · rw [(hs c_zq c0).2 (by omega)]; exact h.2.2 c_zq c0 (by omega) e
theorem scx_new {C D wl c L : Int} {cy ln wy : Int → Int} (hc : CYR C D cy ln) (h : NWX C D wl cy wy L) (c0 : 0 ≤ c) (hC : c = C) : SCX C D wl cy ln wy c L := ⟨c0, by rw [hC]; exact h, fun c_zq a b _ => gdr_cyc hc a b⟩
/-! the fresh row put into its place -/
def CPF (cy fr ln wy : Int → Int) (sp dp n C D wl c : Int) : Prop := sp = 0 ∧ dp = 25 * c ∧ 0 ≤ c ∧ c < C ∧ gdR D wl fr wy 0 n 1 ∧ ∀ c_zq, 0 ≤ c_zq → c_zq < C → gdR D wl cy wy (25 * c_zq) (ln c_zq) 1
def CPG (cy fr ln wy : Int → Int) (sp dp n C D wl c : Int) : Prop := SCX C D wl cy ln wy c n
theorem cpf_cpg {U U_zq : Nat → Int → Int} {xs : List Int} {sp dp n : Int} (_ : 0 ≤ sp) (_ : 0 ≤ dp) (_ : 0 ≤ n) (h1 : ∀ j, 0 ≤ j → U_zq 0 j = if dp ≤ j ∧ j < dp + n then U 1 (sp + (j - dp)) else U 0 j) (_ : (∀ j, U_zq 1 j = U 1 j) ∨ ((∀ j, U_zq 1 j = U_zq 0 j) ∧ ∀ j, U 1 j = U 0 j)) (h3 : ∀ i, 2 ≤ i → ∀ j, U_zq i j = U i j) (e1 : xs.getD 4 0 = sp) (e2 : xs.getD (4 + 1) 0 = dp) (e3 : xs.getD (4 + 2) 0 = n) (h : CPF (U 0) (U 1) (U 2) (U 3) (xs.getD 4 0) (xs.getD 5 0) (xs.getD 6 0) (xs.getD 7 0) (xs.getD 8 0) (xs.getD 9 0) (xs.getD 10 0)) : CPG (U_zq 0) (U_zq 1) (U_zq 2) (U_zq 3) (xs.getD 4 0) (xs.getD 5 0) (xs.getD 6 0) (xs.getD 7 0) (xs.getD 8 0) (xs.getD 9 0) (xs.getD 10 0) := by
  have q2 : U_zq 2 = U 2 := funext (h3 2 (by omega))
  have q3 : U_zq 3 = U 3 := funext (h3 3 (by omega))
  rw [q2, q3]
  have e2_zq : xs.getD 5 0 = dp := e2
  have e3_zq : xs.getD 6 0 = n := e3
  rw [e1, e2_zq, e3_zq] at h ⊢
  obtain ⟨a1, a2, a3, a4, a5, a6⟩ := h
  have n25 := gdr_le a5
  refine ⟨a3, ?_, fun c_zq c0 c1 ne => gdr_same (a6 c_zq c0 c1) (fun i i0 i1 => ?_)⟩
  · refine ⟨a5.1, fun i j i0 ij j1 => ?_, fun i i0 i1 => ?_⟩
    · rw [h1 _ (by omega), if_pos (by omega), h1 _ (by omega), if_pos (by omega)]
      have := a5.2.1 i j i0 ij j1
      rw [show sp + (25 * xs.getD 10 0 + i - dp) = 0 + i by omega, show sp + (25 * xs.getD 10 0 + j - dp) = 0 + j by omega]; exact this
    · rw [h1 _ (by omega), if_pos (by omega), show sp + (25 * xs.getD 10 0 + i - dp) = 0 + i by omega]; exact a5.2.2 i i0 i1
  · have := gdr_le (a6 c_zq c0 c1)
    rw [h1 _ (by omega), if_neg (by omega)]
theorem cpf_le {U : Nat → Int → Int} {xs : List Int} {sp dp n : Int} (_ : 0 ≤ sp) (_ : 0 ≤ dp) (_ : 0 ≤ n) (e1 : xs.getD 4 0 = sp) (e2 : xs.getD (4 + 1) 0 = dp) (e3 : xs.getD (4 + 2) 0 = n) (h : CPF (U 0) (U 1) (U 2) (U 3) (xs.getD 4 0) (xs.getD 5 0) (xs.getD 6 0) (xs.getD 7 0) (xs.getD 8 0) (xs.getD 9 0) (xs.getD 10 0)) : ∀ j, 0 ≤ j → j < n → 0 ≤ U 1 (sp + j) ∧ U 1 (sp + j) ≤ 24 := fun j a b => by
  have e3_zq : xs.getD 6 0 = n := e3
  rw [e1, e3_zq] at h
  obtain ⟨a1, a2, a3, a4, a5, a6⟩ := h
  have q := a5.2.2 j a b
  rw [a1]; omega
theorem cpf_of {C C1 D wl c n sp dp k : Int} {cy fr ln wy : Int → Int} (hz : SCZ C1 D wl cy ln wy C1) (hC : C = C1 + 1) (hf : FRW D wl fr wy n k) (hs : sp = 0) (hd : dp = 25 * c) (c0 : 0 ≤ c) (c1 : c + 1 ≤ C1) : CPF cy fr ln wy sp dp n C D wl c := ⟨hs, hd, c0, by omega, gdr_lo hf.2.2 (by have := hf.2.1; omega), fun c_zq a b => hz c_zq a (by omega)⟩
/-! the way's nodes are drawn -/
def FNC (C D wl : Int) (cy ln wy : Int → Int) (k : Int) : Prop := 1 ≤ k ∧ ∀ c_zq, 0 ≤ c_zq → c_zq < C → gdR D wl cy wy (25 * c_zq) (ln c_zq) k
theorem fnc_start {C D wl c k : Int} {cy ln wy : Int → Int} (h : SCZ C D wl cy ln wy c) (hk : k = 1) : FNC C D wl cy ln wy k := by subst hk; exact ⟨by omega, fun c_zq a b => h c_zq a (Or.inl b)⟩
theorem fnc_step {C D D_zq wl k k_zq q v : Int} {cy ln wy : Int → Int} (h : FNC C D wl cy ln wy k) (hv : v = wy k) (v0 : 0 ≤ v) (v1 : v < 25) (hq : bvp q = bvp 1 <<< v.toNat) (hD : bvp D_zq = bvp D ||| bvp q) (hk : k_zq = k + 1) : FNC C D_zq wl cy ln wy k_zq := by
  refine ⟨by have := h.1; omega, fun c_zq a b => ?_⟩
  obtain ⟨g1, g2, g3⟩ := h.2 c_zq a b
  refine ⟨g1, g2, fun i i0 i1 => ⟨(g3 i i0 i1).1, (g3 i i0 i1).2.1, ?_⟩⟩
  rcases (g3 i i0 i1).2.2 with z | ⟨t, t0, t1, t2, t3⟩
  · exact Or.inl ((bit_or hD _).mpr (Or.inl z))
  · by_cases e : t = k
    · refine Or.inl ((bit_or hD _).mpr (Or.inr ?_))
      rw [t3, e, ← hv, bit_shl hq rfl v0 v0 (by omega)]
    · exact Or.inr ⟨t, by omega, t1, t2, t3⟩
theorem cyc_fnc {C D wl k : Int} {cy ln wy : Int → Int} (h : FNC C D wl cy ln wy k) (hk : wl - 1 ≤ k) : CYR C D cy ln := fun c a b => by
  obtain ⟨g1, g2, g3⟩ := h.2 c a b
  refine ⟨g1, g2, fun i i0 i1 => ⟨(g3 i i0 i1).1, (g3 i i0 i1).2.1, ?_⟩⟩
  rcases (g3 i i0 i1).2.2 with z | ⟨t, t0, t1, t2, t3⟩
  · exact z
  · omega
/-! the ring -/
def RNP (wl : Int) (wy : Int → Int) (t : Int) : Prop := wl = 0 ∨ (3 ≤ wl ∧ (∀ i, 0 ≤ i → i < wl - 1 → 0 ≤ wy i ∧ wy i < 25 ∧ wy i ≠ t) ∧ ∀ i j, 0 ≤ i → i < j → j < wl - 1 → wy i ≠ wy j)
theorem rnp_le {wl t : Int} {wy : Int → Int} (h : RNP wl wy t) (t0 : 0 ≤ t) (t1 : t < 25) : 0 ≤ wl ∧ wl ≤ 25 := by
  rcases h with h | ⟨h1, h2, h3⟩
  · omega
  · have := row_le (f := fun j => if j = 0 then t else wy (j - 1)) (b := 0) (L := wl) (by omega) (fun i j i0 ij j1 => by
      show (if 0 + i = 0 then t else wy (0 + i - 1)) ≠ (if 0 + j = 0 then t else wy (0 + j - 1))
      rw [if_neg (show ¬ 0 + j = 0 by omega)]
      split
      · exact fun e => (h2 (0 + j - 1) (by omega) (by omega)).2.2 e.symm
      · exact h3 _ _ (by omega) (by omega) (by omega)) (fun i i0 i1 => by
      show 0 ≤ (if 0 + i = 0 then t else wy (0 + i - 1)) ∧ (if 0 + i = 0 then t else wy (0 + i - 1)) < 25
      split
      · exact ⟨t0, t1⟩
      · have := h2 (0 + i - 1) (by omega) (by omega); exact ⟨this.1, this.2.1⟩)
    omega
def LRI (wl D : Int) (cy wy : Int → Int) (t k : Int) : Prop := RNP wl wy t ∧ 0 ≤ t ∧ t < 25 ∧ 1 ≤ k ∧ (k = 1 ∨ k ≤ wl) ∧ cy 0 = t ∧ cy 25 = t ∧ bit D t ∧ ∀ i, 1 ≤ i → i < k → cy i = wy (i - 1) ∧ cy (25 + wl - i) = wy (i - 1) ∧ bit D (wy (i - 1))
theorem lri_start {wl D t k p1 v1 p2 v2 : Int} {cy cy1 cy2 wy : Int → Int} (h : RNP wl wy t) (t0 : 0 ≤ t) (t1 : t < 25) (hk : k = 1) (hs1 : st1 cy cy1 p1 v1) (hp1 : p1 = 0) (hv1 : v1 = t) (hs2 : st1 cy1 cy2 p2 v2) (hp2 : p2 = 25) (hv2 : v2 = t) (hD : bvp D = bvp 1 <<< t.toNat) : LRI wl D cy2 wy t k :=
  ⟨h, t0, t1, by omega, by omega, by rw [(hs2 0 (by omega)).2 (by omega), (hs1 0 (by omega)).1 (by omega)]; exact hv1, by rw [(hs2 25 (by omega)).1 (by omega)]; exact hv2, by rw [bit_shl hD rfl t0 t0 (by omega)], fun i a b => by omega⟩
theorem lri_step {wl D D_zq t k k_zq p1 v1 p2 v2 x q w2 : Int} {cy cy1 cy2 wy : Int → Int} (h : LRI wl D cy wy t k) (hk : k < wl) (hs1 : st1 cy cy1 p1 v1) (hp1 : p1 = k) (hv1 : v1 = wy (k - 1)) (hs2 : st1 cy1 cy2 p2 v2) (hp2 : p2 = 25 + wl - k) (hv2 : v2 = wy (k - 1)) (hx : x = wy (k - 1)) (hq : bvp q = bvp 1 <<< x.toNat) (hD : bvp D_zq = bvp D ||| bvp q) (hk_zq : k_zq = k + 1) (_ : w2 = w2) : LRI wl D_zq cy2 wy t k_zq := by
  obtain ⟨a1, a2, a3, a4, a5, a6, a7, a8, a9⟩ := h
  have w25 := rnp_le a1 a2 a3
  have hb : 0 ≤ wy (k - 1) ∧ wy (k - 1) < 25 := by
    rcases a1 with z | ⟨z1, z2, z3⟩
    · omega
    · have := z2 (k - 1) (by omega) (by omega); exact ⟨this.1, this.2.1⟩
  have old : ∀ j, 0 ≤ j → j ≠ k → j ≠ 25 + wl - k → cy2 j = cy j := fun j j0 j1 j2 => by rw [(hs2 j j0).2 (by omega), (hs1 j j0).2 (by omega)]
  refine ⟨a1, a2, a3, by omega, by omega, by rw [old 0 (by omega) (by omega) (by omega)]; exact a6, by rw [old 25 (by omega) (by omega) (by omega)]; exact a7, (bit_or hD _).mpr (Or.inl a8), fun i i0 i1 => ?_⟩
  by_cases e : i = k
  · refine ⟨?_, ?_, (bit_or hD _).mpr (Or.inr ?_)⟩
    · rw [(hs2 i (by omega)).2 (by omega), (hs1 i (by omega)).1 (by omega), e]; exact hv1
    · rw [(hs2 _ (by omega)).1 (by omega), e]; exact hv2
    · rw [e, ← hx, bit_shl hq rfl (by omega) (by omega) (by omega)]
  · have := a9 i i0 (by omega)
    refine ⟨?_, ?_, (bit_or hD _).mpr (Or.inl this.2.2)⟩
    · rw [old i (by omega) e (by omega)]; exact this.1
    · rw [old _ (by omega) (by omega) (by omega)]; exact this.2.1
theorem cyc_ring {wl D t k C p1 v1 p2 v2 : Int} {cy wy ln ln1 ln2 : Int → Int} (h : LRI wl D cy wy t k) (hk : wl ≤ k) (hC : C = 2) (hs1 : st1 ln ln1 p1 v1) (hp1 : p1 = 0) (hv1 : v1 = wl) (hs2 : st1 ln1 ln2 p2 v2) (hp2 : p2 = 1) (hv2 : v2 = wl) : CYR C D cy ln2 := by
  obtain ⟨a1, a2, a3, a4, a5, a6, a7, a8, a9⟩ := h
  have w25 := rnp_le a1 a2 a3
  have l0 : ln2 0 = wl := by rw [(hs2 0 (by omega)).2 (by omega), (hs1 0 (by omega)).1 (by omega)]; exact hv1
  have l1 : ln2 1 = wl := by rw [(hs2 1 (by omega)).1 (by omega)]; exact hv2
  rcases a1 with z | ⟨z1, z2, z3⟩
  · intro c c0 c1
    have lc : ln2 c = 0 := by
      by_cases e : c = 0
      · rw [e, l0]; exact z
      · rw [show c = 1 by omega, l1]; exact z
    rw [lc]
    exact ⟨by omega, fun i j a b q => by omega, fun i a b => by omega⟩
  · have r0 : ∀ i, 1 ≤ i → i < wl → cy i = wy (i - 1) ∧ cy (25 + wl - i) = wy (i - 1) ∧ bit D (wy (i - 1)) := fun i a b => a9 i a (by omega)
    intro c c0 c1
    by_cases e : c = 0
    · subst e
      rw [l0]
      refine ⟨by omega, fun i j i0 ij j1 => ?_, fun i i0 i1 => ?_⟩
      · rw [show 25 * (0 : Int) + i = i by omega, show 25 * (0 : Int) + j = j by omega, (r0 j (by omega) (by omega)).1]
        by_cases y : i = 0
        · rw [y, a6]; exact fun q => (z2 (j - 1) (by omega) (by omega)).2.2 q.symm
        · rw [(r0 i (by omega) (by omega)).1]; exact z3 _ _ (by omega) (by omega) (by omega)
      · rw [show 25 * (0 : Int) + i = i by omega]
        by_cases y : i = 0
        · rw [y, a6]; exact ⟨a2, a3, a8⟩
        · have q := r0 i (by omega) (by omega)
          have := z2 (i - 1) (by omega) (by omega)
          rw [q.1]; exact ⟨this.1, this.2.1, q.2.2⟩
    · rw [show c = 1 by omega, l1]
      have r1 : ∀ i, 1 ≤ i → i < wl → cy (25 * 1 + i) = wy (wl - i - 1) ∧ bit D (wy (wl - i - 1)) := fun i a b => by
        have q := r0 (wl - i) (by omega) (by omega)
        refine ⟨?_, q.2.2⟩
        have := q.2.1
        rw [show 25 + wl - (wl - i) = 25 * 1 + i by omega] at this; exact this
      have r10 : cy (25 * 1 + 0) = t := a7
      refine ⟨by omega, fun i j i0 ij j1 => ?_, fun i i0 i1 => ?_⟩
      · rw [(r1 j (by omega) (by omega)).1]
        by_cases y : i = 0
        · rw [y, r10]; exact fun q => (z2 _ (by omega) (by omega)).2.2 q.symm
        · rw [(r1 i (by omega) (by omega)).1]; exact fun q => z3 _ _ (by omega) (by omega) (by omega) q.symm
      · by_cases y : i = 0
        · rw [y, r10]; exact ⟨a2, a3, a8⟩
        · have q := r1 i (by omega) (by omega)
          have := z2 (wl - i - 1) (by omega) (by omega)
          rw [q.1]; exact ⟨this.1, this.2.1, q.2⟩
def BTD (D t : Int) : Prop := bit D t
theorem btd_of {wl D t k : Int} {cy wy : Int → Int} (h : LRI wl D cy wy t k) : BTD D t := h.2.2.2.2.2.2.2.1
end
section
/-! a net: ends are nodes of it, neighbours are so both ways -/
def NOK (n m : Int) (tl hd nr : Int → Int) : Prop := (∀ e, 0 ≤ e → e < m → 0 ≤ tl e ∧ tl e < n ∧ 0 ≤ hd e ∧ hd e < n ∧ tl e ≠ hd e) ∧ (∀ u w, 0 ≤ u → u < n → 0 ≤ w → w < 32 → bit (nr u) w → w < n ∧ bit (nr w) u) ∧ (∀ u, n ≤ u → u < 25 → nr u = 0) ∧ (∀ e, 0 ≤ e → e < m → bit (nr (tl e)) (hd e)) ∧ ∀ u w, 0 ≤ u → u < n → 0 ≤ w → w < 32 → bit (nr u) w → ∃ e, 0 ≤ e ∧ e < m ∧ (tl e = u ∨ hd e = u)
/-- a graph's edges -/
def GKE (n m : Int) (tl hd : Int → Int) : Prop := ∀ e, 0 ≤ e → e < m → 0 ≤ tl e ∧ tl e < n ∧ 0 ≤ hd e ∧ hd e < n ∧ tl e ≠ hd e
theorem nok_begin {n m : Int} {tl hd nr : Int → Int} (hm : m = 0) (n0 : 0 ≤ n) (h : ∀ j, 0 ≤ j → j < 25 → 0 ≤ nr j ∧ nr j ≤ 0) (hn : n ≤ 25) : NOK n m tl hd nr := by
  have z : ∀ j, 0 ≤ j → j < 25 → nr j = 0 := fun j a b => by have := h j a b; omega
  refine ⟨fun e a b => by omega, fun u w a b _ _ q => ?_, fun u a b => z u (by omega) b, fun e a b => by omega, fun u w a b _ _ q => ?_⟩
  · rw [z u a (by omega)] at q; exact absurd q (bit_zero w)
  · rw [z u a (by omega)] at q; exact absurd q (bit_zero w)
theorem nok_join {n m m_zq a b p1 p2 a1 b1 x1 q1 y1 x2 q2 y2 pa pb : Int} {tl tl_zq hd hd_zq nr nr1 nr2 : Int → Int} (h : NOK n m tl hd nr) (m0 : 0 ≤ m) (n32 : n ≤ 25) (a0 : 0 ≤ a) (an : a < n) (b0 : 0 ≤ b) (bn : b < n) (ne : a ≠ b) (ht : st1 tl tl_zq p1 a1) (hp1 : p1 = m) (ha1 : a1 = a) (hh : st1 hd hd_zq p2 b1) (hp2 : p2 = m) (hb1 : b1 = b) (hx1 : x1 = nr a) (hq1 : bvp q1 = bvp 1 <<< b.toNat) (hy1 : bvp y1 = bvp x1 ||| bvp q1) (hs1 : st1 nr nr1 pa y1) (hpa : pa = a) (hx2 : x2 = nr1 b) (hq2 : bvp q2 = bvp 1 <<< a.toNat) (hy2 : bvp y2 = bvp x2 ||| bvp q2) (hs2 : st1 nr1 nr2 pb y2) (hpb : pb = b) (hm_zq : m_zq = m + 1) : NOK n m_zq tl_zq hd_zq nr2 := by
  obtain ⟨h1, h2, h3, h4, h5⟩ := h
  subst hpa hpb
  have r1 : ∀ u, 0 ≤ u → u ≠ pa → u ≠ pb → nr2 u = nr u := fun u u0 c d => by rw [(hs2 u u0).2 d, (hs1 u u0).2 c]
  have ra : nr2 pa = y1 := by rw [(hs2 pa a0).2 ne, (hs1 pa a0).1 rfl]
  have rb : nr2 pb = y2 := (hs2 pb b0).1 rfl
  have rb1 : nr1 pb = nr pb := (hs1 pb b0).2 (fun e => ne e.symm)
  have ba : ∀ w, 0 ≤ w → w < 32 → (bit (nr2 pa) w ↔ bit (nr pa) w ∨ w = pb) := fun w w0 w1 => by rw [ra, bit_or hy1, hx1, bit_shl hq1 rfl b0 w0 w1]
  have bb : ∀ w, 0 ≤ w → w < 32 → (bit (nr2 pb) w ↔ bit (nr pb) w ∨ w = pa) := fun w w0 w1 => by rw [rb, bit_or hy2, hx2, rb1, bit_shl hq2 rfl a0 w0 w1]
  have up : ∀ u w, 0 ≤ u → 0 ≤ w → w < 32 → bit (nr u) w → bit (nr2 u) w := fun u w u0 w0 w1 z => by
    by_cases c : u = pa
    · subst c; exact (ba w w0 w1).mpr (Or.inl z)
    · by_cases d : u = pb
      · subst d; exact (bb w w0 w1).mpr (Or.inl z)
      · rw [r1 u u0 c d]; exact z
  refine ⟨fun e e0 e1 => ?_, fun u w u0 u1 w0 w1 z => ?_, fun u u0 u1 => ?_, fun e e0 e1 => ?_, fun u w u0 u1 w0 w1 z => ?_⟩
  · by_cases c : e = m
    · rw [(ht e e0).1 (by omega), (hh e e0).1 (by omega)]; omega
    · rw [(ht e e0).2 (by omega), (hh e e0).2 (by omega)]; exact h1 e e0 (by omega)
  · by_cases c : u = pa
    · subst c
      rcases (ba w w0 w1).mp z with z | z
      · have := h2 u w u0 u1 w0 w1 z
        exact ⟨this.1, up w u w0 u0 (by omega) this.2⟩
      · subst z; exact ⟨bn, (bb u u0 (by omega)).mpr (Or.inr rfl)⟩
    · by_cases d : u = pb
      · subst d
        rcases (bb w w0 w1).mp z with z | z
        · have := h2 u w u0 u1 w0 w1 z
          exact ⟨this.1, up w u w0 u0 (by omega) this.2⟩
        · subst z; exact ⟨an, (ba u u0 (by omega)).mpr (Or.inr rfl)⟩
      · rw [r1 u u0 c d] at z
        have := h2 u w u0 u1 w0 w1 z
        exact ⟨this.1, up w u w0 u0 (by omega) this.2⟩
  · rw [r1 u (by omega) (by omega) (by omega)]; exact h3 u u0 u1
  · by_cases c : e = m
    · rw [(ht e e0).1 (by omega), (hh e e0).1 (by omega), ha1, hb1]; exact (ba pb b0 (by omega)).mpr (Or.inr rfl)
    · rw [(ht e e0).2 (by omega), (hh e e0).2 (by omega)]
      have q := h1 e e0 (by omega)
      exact up _ _ q.1 q.2.2.1 (by omega) (h4 e e0 (by omega))
  · have keep : (∃ e, 0 ≤ e ∧ e < m ∧ (tl e = u ∨ hd e = u)) → ∃ e, 0 ≤ e ∧ e < m_zq ∧ (tl_zq e = u ∨ hd_zq e = u) := fun ⟨e, e0, e1, e2⟩ => ⟨e, e0, by omega, by rw [(ht e e0).2 (by omega), (hh e e0).2 (by omega)]; exact e2⟩
    have fa : tl_zq m = pa := by rw [(ht m m0).1 (by omega), ha1]
    have fb : hd_zq m = pb := by rw [(hh m m0).1 (by omega), hb1]
    by_cases c : u = pa
    · exact ⟨m, m0, by omega, Or.inl (by rw [fa, c])⟩
    · by_cases d : u = pb
      · exact ⟨m, m0, by omega, Or.inr (by rw [fb, d])⟩
      · rw [r1 u u0 c d] at z
        exact keep (h5 u w u0 u1 w0 w1 z)
theorem nok_more {n n_zq m : Int} {tl hd nr : Int → Int} (h : NOK n m tl hd nr) (n0 : 0 ≤ n) (hn : n_zq = n + 1) (h25 : n < 25) : NOK n_zq m tl hd nr := by
  obtain ⟨h1, h2, h3, h4, h5⟩ := h
  refine ⟨fun e a b => by have := h1 e a b; omega, fun u w u0 u1 w0 w1 z => ?_, fun u a b => h3 u (by omega) b, h4, fun u w u0 u1 w0 w1 z => ?_⟩
  · by_cases c : u = n
    · rw [h3 u (by omega) (by omega)] at z; exact absurd z (bit_zero w)
    · have := h2 u w u0 (by omega) w0 w1 z; exact ⟨by omega, this.2⟩
  · by_cases c : u = n
    · rw [h3 u (by omega) (by omega)] at z; exact absurd z (bit_zero w)
    · exact h5 u w u0 (by omega) w0 w1 z
theorem nok_sye {n m : Int} {tl hd nr : Int → Int} (h : NOK n m tl hd nr) (hn : n ≤ 25) : SYE n nr := fun u v u0 u1 v0 v1 z => (h.2.1 u v u0 u1 v0 (by omega) z).2
theorem nok_symn {n m : Int} {tl hd nr : Int → Int} (h : NOK n m tl hd nr) (hn : n ≤ 25) : SYMN nr n := fun u v u0 u1 v0 v1 z => (h.2.1 u v u0 u1 v0 (by omega) z).2
theorem nok_nrb {n m : Int} {tl hd nr : Int → Int} (h : NOK n m tl hd nr) : NRB nr n := fun u w u0 u1 w0 w1 z => (h.2.1 u w u0 u1 w0 w1 z).1
/-! labels hang together -/
def lab (tl hd : Int → Int) (v e : Int) : Prop := tl e = v ∨ hd e = v
def CNL (bl tl hd : Int → Int) (m : Int) : Prop := ∀ (b : Int) (X : Int → Prop), (∀ e, 0 ≤ e → e < m → bl e = b → (X (tl e) ↔ X (hd e))) → ∀ e f, 0 ≤ e → e < m → 0 ≤ f → f < m → bl e = b → bl f = b → X (tl e) → X (tl f)
def BLZ (bl tl hd : Int → Int) (m : Int) : Prop := (∀ j, 0 ≤ j → j < m → 0 ≤ bl j ∧ bl j ≤ j ∧ bl (bl j) = bl j) ∧ CNL bl tl hd m
def RLP (bl tl hd : Int → Int) (m g k v : Int) : Prop := BLZ bl tl hd m ∧ g ≠ k ∧ k < g ∧ (∃ e, 0 ≤ e ∧ e < m ∧ bl e = g ∧ lab tl hd v e) ∧ ∃ f, 0 ≤ f ∧ f < m ∧ bl f = k ∧ lab tl hd v f
def RLI (bl tl hd : Int → Int) (m g k v e : Int) : Prop := ∃ b0 : Int → Int, RLP b0 tl hd m g k v ∧ 0 ≤ e ∧ (∀ j, 0 ≤ j → j < e → j < m → bl j = if b0 j = g then k else b0 j) ∧ ∀ j, e ≤ j → j < m → bl j = b0 j
def RLO (bl tl hd : Int → Int) (m k v : Int) : Prop := BLZ bl tl hd m ∧ ∃ f, 0 ≤ f ∧ f < m ∧ bl f = k ∧ lab tl hd v f
theorem rli_start {bl tl hd : Int → Int} {m g k v e : Int} (h : RLP bl tl hd m g k v) (he : e = 0) : RLI bl tl hd m g k v e := ⟨bl, h, by omega, fun j a b => by omega, fun j _ _ => rfl⟩
theorem rli_skip {bl tl hd : Int → Int} {m g k v e e_zq x : Int} (h : RLI bl tl hd m g k v e) (hx : x = bl e) (hn : x ≠ g) (he : e_zq = e + 1) : RLI bl tl hd m g k v e_zq := by
  obtain ⟨b0, h1, h2, h3, h4⟩ := h
  refine ⟨b0, h1, by omega, fun j a b c => ?_, fun j a b => h4 j (by omega) b⟩
  by_cases q : j = e
  · rw [q, h4 e (Int.le_refl _) (by omega), if_neg (by rw [← h4 e (Int.le_refl _) (by omega), ← hx]; exact hn)]
  · exact h3 j a (by omega) c
theorem rli_step {bl bl_zq tl hd : Int → Int} {m g k v e e_zq x p y : Int} (h : RLI bl tl hd m g k v e) (hx : x = bl e) (hg : x = g) (hs : st1 bl bl_zq p y) (hp : p = e) (hy : y = k) (he : e_zq = e + 1) : RLI bl_zq tl hd m g k v e_zq := by
  obtain ⟨b0, h1, h2, h3, h4⟩ := h
  refine ⟨b0, h1, by omega, fun j a b c => ?_, fun j a b => ?_⟩
  · by_cases q : j = e
    · rw [(hs j a).1 (by omega), if_pos (by rw [q, ← h4 e (Int.le_refl _) (by omega), ← hx]; exact hg)]; exact hy
    · rw [(hs j a).2 (by omega)]; exact h3 j a (by omega) c
  · rw [(hs j (by omega)).2 (by omega)]; exact h4 j (by omega) b
theorem rlo_of {bl tl hd : Int → Int} {m g k v e : Int} (h : RLI bl tl hd m g k v e) (he : m ≤ e) : RLO bl tl hd m k v := by
  obtain ⟨b0, ⟨⟨z1, z2⟩, ne, kg, ⟨p, p0, p1, p2, p3⟩, ⟨f, f0, f1, f2, f3⟩⟩, h2, h3, _⟩ := h
  have hb : ∀ j, 0 ≤ j → j < m → bl j = if b0 j = g then k else b0 j := fun j a b => h3 j a (by omega) b
  have kk : b0 k = k := by have := (z1 f f0 f1).2.2; rw [f2] at this; exact this
  have k0 : 0 ≤ k := by have := (z1 f f0 f1).1; omega
  have km : k < m := by have := (z1 f f0 f1).2.1; omega
  have bf : bl f = k := by rw [hb f f0 f1, if_neg (by rw [f2]; exact fun q => ne q.symm), f2]
  refine ⟨⟨fun j a b => ?_, ?_⟩, f, f0, f1, bf, f3⟩
  · have q := z1 j a b
    rw [hb j a b]
    split
    · rename_i c
      refine ⟨k0, by omega, ?_⟩
      rw [hb k k0 km, if_neg (by rw [kk]; exact fun q => ne q.symm), kk]
    · rename_i c
      refine ⟨q.1, q.2.1, ?_⟩
      rw [hb (b0 j) q.1 (by omega), q.2.2, if_neg c]
  · intro b X hX e e_zq e0 e1 e2 e3 be be_zq xe
    -- what hangs together in each of the two hangs together
    have part : ∀ c, (b = k ∧ (c = g ∨ c = k)) ∨ (b ≠ k ∧ c = b) → ∀ i j, 0 ≤ i → i < m → 0 ≤ j → j < m → b0 i = c → b0 j = c → X (tl i) → X (tl j) := fun c hc i j i0 i1 j0 j1 bi bj xi => z2 c X (fun q q0 q1 q2 => hX q q0 q1 (by
      rw [hb q q0 q1, q2]
      rcases hc with ⟨c1, c2⟩ | ⟨c1, c2⟩
      · rcases c2 with c2 | c2
        · rw [if_pos c2, c1]
        · rw [if_neg (by rw [c2]; exact fun w => ne w.symm), c1, c2]
      · by_cases w : c = g
        · exfalso
          rw [hb e e0 e1] at be
          split at be
          · exact c1 be.symm
          · rename_i y; exact y (by omega)
        · rw [if_neg w]; exact c2)) i j i0 i1 j0 j1 bi bj xi
    by_cases hbk : b = k
    · have xv : ∀ q, 0 ≤ q → q < m → bl q = b → lab tl hd v q → (X (tl q) ↔ X v) := fun q q0 q1 q2 q3 => by
        rcases q3 with w | w
        · rw [w]
        · rw [hX q q0 q1 q2, w]
      have bp : bl p = b := by rw [hb p p0 p1, if_pos p2, hbk]
      have bf_zq : bl f = b := by rw [bf, hbk]
      have kind : ∀ i, 0 ≤ i → i < m → bl i = b → b0 i = g ∨ b0 i = k := fun i i0 i1 bi => by
        rw [hb i i0 i1] at bi
        split at bi
        · rename_i w; exact Or.inl w
        · exact Or.inr (by omega)
      have toV : ∀ i, 0 ≤ i → i < m → bl i = b → (X (tl i) ↔ X v) := fun i i0 i1 bi => by
        rcases kind i i0 i1 bi with w | w
        · rw [← xv p p0 p1 bp p3]
          exact ⟨part g (Or.inl ⟨hbk, Or.inl rfl⟩) i p i0 i1 p0 p1 w p2, part g (Or.inl ⟨hbk, Or.inl rfl⟩) p i p0 p1 i0 i1 p2 w⟩
        · rw [← xv f f0 f1 bf_zq f3]
          exact ⟨part k (Or.inl ⟨hbk, Or.inr rfl⟩) i f i0 i1 f0 f1 w f2, part k (Or.inl ⟨hbk, Or.inr rfl⟩) f i f0 f1 i0 i1 f2 w⟩
      exact (toV e_zq e2 e3 be_zq).mpr ((toV e e0 e1 be).mp xe)
    · have kind : ∀ i, 0 ≤ i → i < m → bl i = b → b0 i = b := fun i i0 i1 bi => by
        rw [hb i i0 i1] at bi
        split at bi
        · exact absurd bi.symm hbk
        · exact bi
      exact part b (Or.inr ⟨hbk, rfl⟩) e e_zq e0 e1 e2 e3 (kind e e0 e1 be) (kind e_zq e2 e3 be_zq) xe
def UNI (bl tl hd : Int → Int) (m v k : Int) : Prop := BLZ bl tl hd m ∧ (k = -1 ∨ (0 ≤ k ∧ ∃ f, 0 ≤ f ∧ f < m ∧ bl f = k ∧ lab tl hd v f))
theorem uni_start {bl tl hd : Int → Int} {m v k : Int} (h : BLZ bl tl hd m) (hk : k = -1) : UNI bl tl hd m v k := ⟨h, Or.inl hk⟩
theorem uni_first {bl tl hd : Int → Int} {m v k k_zq e x : Int} (h : UNI bl tl hd m v k) (hx : x = bl e) (hk : k_zq = x) (e0 : 0 ≤ e) (e1 : e < m) (hv : lab tl hd v e) : UNI bl tl hd m v k_zq := ⟨h.1, Or.inr ⟨by have := (h.1.1 e e0 e1).1; omega, e, e0, e1, by omega, hv⟩⟩
theorem uni_rlp {bl tl hd : Int → Int} {m v k e x g k_zq : Int} (h : UNI bl tl hd m v k) (hk : k ≠ -1) (hx : x = bl e) (hn : x ≠ k) (e0 : 0 ≤ e) (e1 : e < m) (hv : lab tl hd v e) (g1 : k ≤ g) (g2 : x ≤ g) (k1 : k_zq ≤ k) (k2 : k_zq ≤ x) (hg : g = k ∨ g = x) (hk_zq : k_zq = k ∨ k_zq = x) : RLP bl tl hd m g k_zq v := by
  obtain ⟨h1, h2⟩ := h
  rcases h2 with q | ⟨q0, f, f0, f1, f2, f3⟩
  · exact absurd q hk
  · refine ⟨h1, by omega, by omega, ?_, ?_⟩
    · rcases hg with w | w
      · exact ⟨f, f0, f1, by omega, f3⟩
      · exact ⟨e, e0, e1, by omega, hv⟩
    · rcases hk_zq with w | w
      · exact ⟨f, f0, f1, by omega, f3⟩
      · exact ⟨e, e0, e1, by omega, hv⟩
theorem uni_back {bl tl hd : Int → Int} {m v k : Int} (h : RLO bl tl hd m k v) (k0 : 0 ≤ k) : UNI bl tl hd m v k := ⟨h.1, Or.inr ⟨k0, h.2⟩⟩
theorem blz_start {bl tl hd : Int → Int} {m e : Int} (h : BL0 bl e) (he : m ≤ e) : BLZ bl tl hd m := by
  refine ⟨fun j a b => ?_, fun b X _ e f e0 e1 f0 f1 be bf xe => ?_⟩
  · rw [h j a (by omega)]; exact ⟨a, Int.le_refl _, h j a (by omega)⟩
  · have := h e e0 (by omega); have := h f f0 (by omega)
    rw [show f = e by omega]; exact xe
/-- labels get numbers -/
def LBJ (bl tl hd : Int → Int) (m e c : Int) : Prop := ∃ b0 : Int → Int, BLZ b0 tl hd m ∧ 0 ≤ e ∧ (∀ j, e ≤ j → j < m → bl j = b0 j) ∧ (∀ j, 0 ≤ j → j < e → bl j < c) ∧ ∀ i j, 0 ≤ i → i < e → 0 ≤ j → j < e → (bl i = bl j ↔ b0 i = b0 j)
theorem lbj_start {bl tl hd : Int → Int} {m e c : Int} (h : BLZ bl tl hd m) (he : e = 0) : LBJ bl tl hd m e c := ⟨bl, h, by omega, fun _ _ _ => rfl, fun j a b => by omega, fun i j a b => by omega⟩
theorem lbj_new {bl bl_zq tl hd : Int → Int} {m e e_zq c c_zq p x y : Int} (h : LBJ bl tl hd m e c) (e1 : e < m) (hy : y = bl e) (hr : y = e) (hs : st1 bl bl_zq p x) (hp : p = e) (hx : x = c) (he : e_zq = e + 1) (hc : c_zq = c + 1) : LBJ bl_zq tl hd m e_zq c_zq := by
  obtain ⟨b0, h1, h2, h3, h4, h5⟩ := h
  have be : b0 e = e := by rw [← h3 e (Int.le_refl _) e1]; omega
  have ne : bl_zq e = c := by rw [(hs e h2).1 (by omega)]; exact hx
  have no : ∀ j, 0 ≤ j → j < e → bl_zq j = bl j := fun j a b => (hs j a).2 (by omega)
  have old : ∀ j, 0 ≤ j → j < e → b0 j < e := fun j a b => by have := (h1.1 j a (by omega)).2.1; omega
  refine ⟨b0, h1, by omega, fun j a b => by rw [(hs j (by omega)).2 (by omega)]; exact h3 j (by omega) b, fun j a b => ?_, fun i j i0 i1 j0 j1 => ?_⟩
  · by_cases q : j = e
    · rw [q, ne]; omega
    · rw [no j a (by omega)]; have := h4 j a (by omega); omega
  · by_cases q : i = e
    · by_cases w : j = e
      · rw [q, w]; exact ⟨fun _ => rfl, fun _ => rfl⟩
      · rw [q, ne, no j j0 (by omega), be]
        have := h4 j j0 (by omega); have := old j j0 (by omega)
        constructor <;> (intro; omega)
    · by_cases w : j = e
      · rw [w, ne, no i i0 (by omega), be]
        have := h4 i i0 (by omega); have := old i i0 (by omega)
        constructor <;> (intro; omega)
      · rw [no i i0 (by omega), no j j0 (by omega)]; exact h5 i j i0 (by omega) j0 (by omega)
theorem lbj_old {bl bl_zq tl hd : Int → Int} {m e e_zq c p x r y : Int} (h : LBJ bl tl hd m e c) (e1 : e < m) (hy : y = bl e) (hne : y ≠ e) (hr : r = bl e) (hx : x = bl r) (hs : st1 bl bl_zq p x) (hp : p = e) (he : e_zq = e + 1) : LBJ bl_zq tl hd m e_zq c := by
  obtain ⟨b0, h1, h2, h3, h4, h5⟩ := h
  have re : r = b0 e := by rw [← h3 e (Int.le_refl _) e1]; exact hr
  have q1 := h1.1 e h2 e1
  have r0 : 0 ≤ r := by omega
  have r1 : r < e := by omega
  have ne : bl_zq e = bl r := by rw [(hs e h2).1 (by omega)]; exact hx
  have no : ∀ j, 0 ≤ j → j < e → bl_zq j = bl j := fun j a b => (hs j a).2 (by omega)
  have rr : b0 r = b0 e := by rw [re]; exact q1.2.2
  refine ⟨b0, h1, by omega, fun j a b => by rw [(hs j (by omega)).2 (by omega)]; exact h3 j (by omega) b, fun j a b => ?_, fun i j i0 i1 j0 j1 => ?_⟩
  · by_cases q : j = e
    · rw [q, ne]; exact h4 r r0 r1
    · rw [no j a (by omega)]; exact h4 j a (by omega)
  · by_cases q : i = e
    · by_cases w : j = e
      · rw [q, w]; exact ⟨fun _ => rfl, fun _ => rfl⟩
      · rw [q, ne, no j j0 (by omega), ← rr]; exact h5 r j r0 r1 j0 (by omega)
    · by_cases w : j = e
      · rw [w, ne, no i i0 (by omega), ← rr]; exact h5 i r i0 (by omega) r0 r1
      · rw [no i i0 (by omega), no j j0 (by omega)]; exact h5 i j i0 (by omega) j0 (by omega)
theorem cnl_of {bl tl hd : Int → Int} {m e c : Int} (h : LBJ bl tl hd m e c) (he : m ≤ e) : CNL bl tl hd m := by
  obtain ⟨b0, h1, h2, h3, h4, h5⟩ := h
  intro b X hX e_zq f e0 e1 f0 f1 be bf xe
  have eq : b0 f = b0 e_zq := (h5 f e_zq f0 (by omega) e0 (by omega)).mp (by rw [be, bf])
  exact h1.2 (b0 e_zq) X (fun q q0 q1 q2 => hX q q0 q1 (by rw [← be]; exact (h5 q e_zq q0 (by omega) e0 (by omega)).mpr q2)) e_zq f e0 e1 f0 f1 rfl eq xe
/-! a block's nodes -/
def HSB (m : Int) (bl : Int → Int) (b : Int) : Prop := ∃ j, 0 ≤ j ∧ j < m ∧ bl j = b
def LBE (m : Int) (bl tl hd : Int → Int) (k : Int) : Prop := LBL bl m k ∧ CNL bl tl hd m
def CNE (m : Int) (bl tl hd : Int → Int) : Prop := CNL bl tl hd m
theorem lbe_hsb {m k b : Int} {bl tl hd : Int → Int} (h : LBE m bl tl hd k) (b0 : 0 ≤ b) (b1 : b < k) : HSB m bl b := h.1.2 b b0 b1
def BLN (bn n m : Int) (bl tl hd : Int → Int) (b : Int) : Prop := (∀ j, 0 ≤ j → j < m → bl j = b → bit bn (tl j) ∧ bit bn (hd j)) ∧ (∀ w, 0 ≤ w → w < 32 → bit bn w → w < n) ∧ ∀ w, 0 ≤ w → w < 32 → bit bn w → ∃ j, 0 ≤ j ∧ j < m ∧ bl j = b ∧ lab tl hd w j
def BBI (bn n m : Int) (bl tl hd : Int → Int) (b le e : Int) : Prop := -1 ≤ e ∧ e < m ∧ -1 ≤ le ∧ le < m ∧ (0 ≤ le → bl le = b) ∧ (0 ≤ le ∨ ∃ j, 0 ≤ j ∧ j ≤ e ∧ bl j = b) ∧ (∀ j, e < j → j < m → bl j = b → bit bn (tl j) ∧ bit bn (hd j)) ∧ (∀ w, 0 ≤ w → w < 32 → bit bn w → w < n) ∧ ∀ w, 0 ≤ w → w < 32 → bit bn w → ∃ j, 0 ≤ j ∧ j < m ∧ bl j = b ∧ lab tl hd w j
theorem bbi_start {bn n m b le e : Int} {bl tl hd : Int → Int} (hb : bn = 0) (hl : HSB m bl b) (m0 : 0 ≤ m) (hle : le = -1) (he : e = m - 1) : BBI bn n m bl tl hd b le e := by
  obtain ⟨j, j0, j1, j2⟩ := hl
  exact ⟨by omega, by omega, by omega, by omega, fun q => by omega, Or.inr ⟨j, j0, by omega, j2⟩, fun j a c => by omega, fun w _ _ z => absurd (hb ▸ z) (bit_zero w), fun w _ _ z => absurd (hb ▸ z) (bit_zero w)⟩
theorem bbi_skip {bn n m b le e e_zq x : Int} {bl tl hd : Int → Int} (h : BBI bn n m bl tl hd b le e) (e0 : 0 ≤ e) (hx : x = bl e) (hne : x ≠ b) (he : e_zq = e - 1) : BBI bn n m bl tl hd b le e_zq := by
  obtain ⟨h1, h2, h3, h4, h4b, h5, h6, h7⟩ := h
  refine ⟨by omega, by omega, h3, h4, h4b, ?_, fun j a c d => ?_, h7⟩
  · rcases h5 with q | ⟨j, j0, j1, j2⟩
    · exact Or.inl q
    · by_cases c : j = e
      · rw [c, ← hx] at j2; exact absurd j2 hne
      · exact Or.inr ⟨j, j0, by omega, j2⟩
  · by_cases c : j = e
    · rw [c, ← hx] at d; exact absurd d hne
    · exact h6 j (by omega) (by omega) d
theorem bbi_step {bn bn_zq n m b le le_zq e e_zq z0 x y q1 q2 q3 : Int} {bl tl hd nr : Int → Int} (h : BBI bn n m bl tl hd b le e) (e0 : 0 ≤ e) (hz0 : z0 = bl e) (hzb : z0 = b) (hN : NOK n m tl hd nr) (n25 : n ≤ 25) (hx : x = tl e) (hy : y = hd e) (h1 : bvp q1 = bvp 1 <<< x.toNat) (h2 : bvp q2 = bvp 1 <<< y.toNat) (h3 : bvp q3 = bvp q1 ||| bvp q2) (h4 : bvp bn_zq = bvp bn ||| bvp q3) (hle : le_zq = e) (he : e_zq = e - 1) : BBI bn_zq n m bl tl hd b le_zq e_zq := by
  obtain ⟨a1, a2, a3, a4, a4b, a5, a6, a7, a8⟩ := h
  have ee := hN.1 e e0 a2
  have bb : ∀ w, 0 ≤ w → w < 32 → (bit bn_zq w ↔ bit bn w ∨ w = tl e ∨ w = hd e) := fun w w0 w1 => by rw [bit_or h4, bit_or h3, bit_shl h1 rfl (by omega) w0 w1, bit_shl h2 rfl (by omega) w0 w1, hx, hy]
  refine ⟨by omega, by omega, by omega, by omega, fun _ => by rw [hle]; omega, Or.inl (by omega), fun j c d z => ?_, fun w w0 w1 z => ?_, fun w w0 w1 z => ?_⟩
  · have jj := hN.1 j (by omega) d
    by_cases c : j = e
    · rw [c]; exact ⟨(bb _ (by omega) (by omega)).mpr (Or.inr (Or.inl rfl)), (bb _ (by omega) (by omega)).mpr (Or.inr (Or.inr rfl))⟩
    · have := a6 j (by omega) d z
      exact ⟨(bb _ (by omega) (by omega)).mpr (Or.inl this.1), (bb _ (by omega) (by omega)).mpr (Or.inl this.2)⟩
  · rcases (bb w w0 w1).mp z with z | z | z
    · exact a7 w w0 w1 z
    · omega
    · omega
  · rcases (bb w w0 w1).mp z with z | z | z
    · exact a8 w w0 w1 z
    · exact ⟨e, e0, a2, by omega, Or.inl z.symm⟩
    · exact ⟨e, e0, a2, by omega, Or.inr z.symm⟩
theorem bln_of {bn n m b le e : Int} {bl tl hd : Int → Int} (h : BBI bn n m bl tl hd b le e) (he : e < 0) : BLN bn n m bl tl hd b := ⟨fun j a c d => h.2.2.2.2.2.2.1 j (by omega) c d, h.2.2.2.2.2.2.2.1, h.2.2.2.2.2.2.2.2⟩
theorem bbi_has {bn n m b le e : Int} {bl tl hd : Int → Int} (h : BBI bn n m bl tl hd b le e) (he : e < 0) : 0 ≤ le ∧ le < m ∧ bl le = b := by
  obtain ⟨a1, a2, a3, a4, a4b, a5, _⟩ := h
  rcases a5 with q | ⟨j, j0, j1, _⟩
  · exact ⟨q, a4, a4b q⟩
  · omega
/-- a drawn node of the block -/
def DBN (D bn : Int) : Prop := ∃ u, 0 ≤ u ∧ u < 32 ∧ bit D u ∧ bit bn u
/-- the ring's free nodes: the block's without the first edge's ends -/
theorem bln_free {bn n m b t h q1 q2 r1 r2 f1 f2 m1 m2 : Int} {bl tl hd : Int → Int} (hb : BLN bn n m bl tl hd b) (t0 : 0 ≤ t) (h0 : 0 ≤ h) (e1 : bvp q1 = bvp 1 <<< t.toNat) (x1 : bvp r1 = bvp q1 ^^^ bvp m1) (hm1 : m1 = -1) (a1 : bvp f1 = bvp bn &&& bvp r1) (e2 : bvp q2 = bvp 1 <<< h.toNat) (x2 : bvp r2 = bvp q2 ^^^ bvp m2) (hm2 : m2 = -1) (a2 : bvp f2 = bvp f1 &&& bvp r2) : FRN n f2 ∧ ∀ w, 0 ≤ w → w < 32 → bit f2 w → w ≠ t ∧ w ≠ h := by
  have key : ∀ w, 0 ≤ w → w < 32 → bit f2 w → bit bn w ∧ w ≠ t ∧ w ≠ h := fun w w0 w1 z => by
    rw [bit_and a2, bit_and a1, bit_xor x1 hm1 w0 w1, bit_xor x2 hm2 w0 w1, bit_shl e1 rfl t0 w0 w1, bit_shl e2 rfl h0 w0 w1] at z
    exact ⟨z.1.1, z.1.2, z.2⟩
  exact ⟨fun w w0 w1 z => hb.2.1 w w0 w1 (key w w0 w1 z).1, fun w w0 w1 z => (key w w0 w1 z).2⟩
theorem rnp_of {n t h en f an wl : Int} {wy : Int → Int} (hw : SHW wy h en f an) (he : bvp en = bvp 1 <<< t.toNat) (t0 : 0 ≤ t) (t1 : t < n) (h0 : 0 ≤ h) (h1 : h < n) (ne : t ≠ h) (n25 : n ≤ 25) (hf : FRN n f) (hf2 : ∀ w, 0 ≤ w → w < 32 → bit f w → w ≠ t ∧ w ≠ h) (ha : wl = an) : RNP wl wy t := by
  subst ha
  rcases hw with z | ⟨a1, a2, a3, a4, a5, a6, a7⟩
  · exact Or.inl z
  · refine Or.inr ⟨a1, fun i i0 i1 => ?_, fun i j i0 ij j1 => ?_⟩
    · by_cases c : i = 0
      · rw [c, a2]; exact ⟨h0, by omega, fun q => ne q.symm⟩
      · have := a6 i (by omega) i1
        have q := hf _ this.1 this.2.1 this.2.2
        exact ⟨this.1, by omega, (hf2 _ this.1 this.2.1 this.2.2).1⟩
    · have jj := a6 j (by omega) j1
      by_cases c : i = 0
      · rw [c, a2]; exact fun q => (hf2 _ jj.1 jj.2.1 jj.2.2).2 q.symm
      · exact a7 i j (by omega) ij j1
/-! the piece that is picked -/
def PKD (pn D n : Int) : Prop := FRN n pn ∧ ∀ w, 0 ≤ w → w < 32 → bit pn w → ¬ bit D w
def PKI (pn pe D n f : Int) : Prop := f = 1000000 ∨ (f < 1000000 ∧ PEN pn pe ∧ PKD pn D n)
def PKA (pn pe D n an : Int) : Prop := an = 0 ∨ (PEN pn pe ∧ PKD pn D n)
theorem pki_new {pn pe D n f bn b m e x y q1 q2 q3 r m1 fr r2 m2 al an ed : Int} {bl tl hd nr : Int → Int} (hB : BLN bn n m bl tl hd b) (hN : NOK n m tl hd nr) (hC : CNE m bl tl hd) (hD : DBN D bn) (n0 : 0 ≤ n) (n25 : n ≤ 25) (e0 : 0 ≤ e) (e1 : e < m) {z0 : Int} (hz : z0 = bl e) (he : z0 = b) (hx : x = tl e) (hy : y = hd e) (h1 : bvp q1 = bvp 1 <<< x.toNat) (h2 : bvp q2 = bvp 1 <<< y.toNat) (h3 : bvp q3 = bvp q1 ||| bvp q2) (h4 : bvp r = bvp D ^^^ bvp m1) (hm : m1 = -1) (h5 : bvp fr = bvp q3 &&& bvp r) (h6 : bvp al = bvp bn &&& bvp r2) (h7 : bvp r2 = bvp D ^^^ bvp m2) (hm2 : m2 = -1) (hS : SPZ nr n fr al an) (hp : pn = an) (hpe : pe = ed) (hed : (fr = 0 ∧ ed = q3) ∨ (fr ≠ 0 ∧ ∃ nn s, NEF nr n an nn ∧ bvp s = bvp nn &&& bvp bn ∧ bvp ed = bvp s &&& bvp D)) (hf : f < 1000000) (fr0 : -2147483648 ≤ fr) (fr1 : fr ≤ 2147483647) (pn0 : -2147483648 ≤ pn) (pn1 : pn ≤ 2147483647) : PKI pn pe D n f := by
  have he : bl e = b := by omega
  have ee := hN.1 e e0 e1
  have b3 : ∀ w, 0 ≤ w → w < 32 → (bit q3 w ↔ w = tl e ∨ w = hd e) := fun w w0 w1 => by rw [bit_or h3, bit_shl h1 rfl (by omega) w0 w1, bit_shl h2 rfl (by omega) w0 w1, hx, hy]
  subst hp
  have bal : ∀ w, 0 ≤ w → w < 32 → (bit al w ↔ bit bn w ∧ ¬ bit D w) := fun w w0 w1 => by rw [bit_and h6, bit_xor h7 hm2 w0 w1]
  have av : ∀ w, 0 ≤ w → w < 32 → bit pn w → w < n ∧ ¬ bit D w := fun w w0 w1 z => by
    have q := (bal w w0 w1).mp (hS.1 w w0 w1 z)
    exact ⟨hB.2.1 w w0 w1 q.1, q.2⟩
  have frB : ∀ w, 0 ≤ w → w < 32 → bit fr w → (w = tl e ∨ w = hd e) ∧ bit pn w := fun w w0 w1 z => by
    have z2 := z
    rw [bit_and h5, bit_xor h4 hm w0 w1] at z2
    have c := (b3 w w0 w1).mp z2.1
    have bw : bit bn w := by
      rcases c with c | c
      · rw [c]; exact (hB.1 e e0 e1 he).1
      · rw [c]; exact (hB.1 e e0 e1 he).2
    exact ⟨c, hS.2.1 w w0 w1 z ((bal w w0 w1).mpr ⟨bw, z2.2⟩)⟩
  have frN : FRN n fr := fun w w0 w1 z => by rcases (frB w w0 w1 z).1 with c | c <;> omega
  have both : fr = 0 → ∃ u v, 0 ≤ u ∧ u < 32 ∧ 0 ≤ v ∧ v < 32 ∧ u ≠ v ∧ bit pe u ∧ bit pe v := fun fz => by
    rcases hed with ⟨_, q⟩ | ⟨q, _⟩
    · refine ⟨tl e, hd e, by omega, by omega, by omega, by omega, ee.2.2.2.2, ?_, ?_⟩
      · rw [hpe, q]; exact (b3 _ (by omega) (by omega)).mpr (Or.inl rfl)
      · rw [hpe, q]; exact (b3 _ (by omega) (by omega)).mpr (Or.inr rfl)
    · exact absurd fz q
  have fz : pn = 0 → fr = 0 := fun pz => bit_none (fun w w0 w1 z => absurd (pz ▸ (frB w w0 w1 z).2) (bit_zero w)) fr0 fr1
  refine Or.inr ⟨hf, ⟨?_, fun pz => both (fz pz)⟩, fun w w0 w1 z => (av w w0 w1 z).1, fun w w0 w1 z => (av w w0 w1 z).2⟩
  rcases hed with ⟨q, _⟩ | ⟨q, nn, s, hq1, hq2, hq3⟩
  · obtain ⟨u, v, u0, u1, _, _, _, bu, _⟩ := both q
    exact ⟨u, u0, u1, bu⟩
  · -- a piece without ends is all of the block
    have pb : ∀ w, 0 ≤ w → w < 32 → (bit pe w ↔ (∃ u, 0 ≤ u ∧ u < n ∧ bit pn u ∧ bit (nr u) w) ∧ bit bn w ∧ bit D w) := fun w w0 w1 => by
      rw [hpe, bit_and hq3, bit_and hq2, hq1 w w0 w1]
      exact ⟨fun z => ⟨z.1.1, z.1.2, z.2⟩, fun z => ⟨⟨z.1, z.2.1⟩, z.2.2⟩⟩
    apply Classical.byContradiction
    intro hno
    have cl := (hS.2.2.2 (nok_nrb hN) frN).2
    have go : ∀ j, 0 ≤ j → j < m → bl j = b → ∀ u w, 0 ≤ u → u < n → 0 ≤ w → w < n → bit bn w → bit (nr u) w → bit pn u → bit pn w := fun j j0 j1 jb u w u0 u1 w0 w1 bw nw pu => by
      by_cases dw : bit D w
      · exact absurd ⟨w, w0, by omega, (pb w w0 (by omega)).mpr ⟨⟨u, u0, u1, pu, nw⟩, bw, dw⟩⟩ hno
      · exact cl u w u0 u1 pu w0 (by omega) nw ((bal w w0 (by omega)).mpr ⟨bw, dw⟩)
    have hX : ∀ j, 0 ≤ j → j < m → bl j = b → (bit pn (tl j) ↔ bit pn (hd j)) := fun j j0 j1 jb => by
      have q := hN.1 j j0 j1
      have nb := hN.2.2.2.1 j j0 j1
      have bn2 := hB.1 j j0 j1 jb
      exact ⟨go j j0 j1 jb _ _ q.1 q.2.1 q.2.2.1 q.2.2.2.1 bn2.2 nb, go j j0 j1 jb _ _ q.2.2.1 q.2.2.2.1 q.1 q.2.1 bn2.1 (hN.2.1 _ _ q.1 q.2.1 q.2.2.1 (by omega) nb).2⟩
    have start : bit pn (tl e) := by
      have : ∃ w, 0 ≤ w ∧ w < 32 ∧ bit fr w := by
        apply Classical.byContradiction
        intro hn
        exact q (bit_none (fun i i0 i1 hb => hn ⟨i, i0, i1, hb⟩) fr0 fr1)
      obtain ⟨w, w0, w1, w2⟩ := this
      obtain ⟨c, pw⟩ := frB w w0 w1 w2
      rcases c with c | c
      · rw [← c]; exact pw
      · rw [hX e e0 e1 he, ← c]; exact pw
    obtain ⟨u, u0, u1, uD, uB⟩ := hD
    obtain ⟨j, j0, j1, jb, ju⟩ := hB.2.2 u u0 u1 uB
    have tj := hC b (fun w => bit pn w) hX e j e0 e1 j0 j1 he jb start
    have pu : bit pn u := by
      rcases ju with c | c
      · rw [← c]; exact tj
      · rw [← c]; exact (hX j j0 j1 jb).mp tj
    exact (av u u0 u1 pu).2 uD
theorem wyn_two {D wl : Int} {wy : Int → Int} (h : wl ≤ 2) : WYN D wl wy := ⟨fun i a b => by omega, fun i j a b c => by omega⟩
theorem wyn_of {D n pn st en wl an : Int} {wy : Int → Int} (h : SHW wy st en pn an) (hk : PKD pn D n) (n25 : n ≤ 25) (ha : wl = an) : WYN D wl wy := by
  subst ha
  rcases h with z | ⟨a1, a2, a3, a4, a5, a6, a7⟩
  · exact wyn_two (by omega)
  · exact ⟨fun i i0 i1 => ⟨(a6 i i0 i1).1, by have := hk.1 _ (a6 i i0 i1).1 (a6 i i0 i1).2.1 (a6 i i0 i1).2.2; omega, hk.2 _ (a6 i i0 i1).1 (a6 i i0 i1).2.1 (a6 i i0 i1).2.2⟩, a7⟩
def DBA (D bn an : Int) : Prop := an ≤ 0 ∨ DBN D bn
theorem dba_of {D bn n m b le e t an : Int} {bl tl hd nr : Int → Int} (h : BLN bn n m bl tl hd b) (hb : bl le = b) (l0 : 0 ≤ le) (l1 : le < m) (hN : NOK n m tl hd nr) (n25 : n ≤ 25) (ht : t = tl le) (hD : BTD D t) (_ : e = e) : DBA D bn an := Or.inr ⟨t, by have := hN.1 le l0 l1; omega, by have := hN.1 le l0 l1; omega, hD, by rw [ht]; exact (h.1 le l0 l1 hb).1⟩
theorem dbn_of {D bn an : Int} (h : DBA D bn an) (ha : 0 < an) : DBN D bn := by
  rcases h with q | q
  · omega
  · exact q
theorem dbn_or {D D_zq bn q : Int} (h : DBN D bn) (hD : bvp D_zq = bvp D ||| bvp q) : DBN D_zq bn := by
  obtain ⟨u, u0, u1, u2, u3⟩ := h
  exact ⟨u, u0, u1, (bit_or hD u).mpr (Or.inl u2), u3⟩
def BTN (bn t : Int) : Prop := bit bn t
def RFR (t h f en n : Int) : Prop := FRN n f ∧ (∀ w, 0 ≤ w → w < 32 → bit f w → w ≠ t ∧ w ≠ h) ∧ 0 ≤ t ∧ t < n ∧ 0 ≤ h ∧ h < n ∧ t ≠ h ∧ bvp en = bvp 1 <<< t.toNat ∧ n ≤ 25
theorem rnp_rfr {t h f en n an wl : Int} {wy : Int → Int} (hr : RFR t h f en n) (hw : SHW wy h en f an) (ha : wl = an) : RNP wl wy t := by
  obtain ⟨a1, a2, a3, a4, a5, a6, a7, a8, a9⟩ := hr
  exact rnp_of hw a8 a3 a4 a5 a6 a7 a9 a1 a2 ha
end
section
/-! layers of the class: an edge's upper and lower end, arcs as they are added -/
def upE (tl hd tu : Int → Int) (e : Int) : Int := if tu e = 0 then tl e else hd e
def loE (tl hd tu : Int → Int) (e : Int) : Int := if tu e = 0 then hd e else tl e
def UPX (tl hd tu : Int → Int) (e an : Int) : Prop := an = upE tl hd tu e
def LOX (tl hd tu : Int → Int) (e an : Int) : Prop := an = loE tl hd tu e
theorem upx_t {tl hd tu : Int → Int} {e an t : Int} (ht : t = tu e) (h0 : t ≠ 0) (ha : an = hd e) : UPX tl hd tu e an := by unfold UPX upE; rw [if_neg (by omega)]; exact ha
theorem upx_f {tl hd tu : Int → Int} {e an t : Int} (ht : t = tu e) (h0 : t = 0) (ha : an = tl e) : UPX tl hd tu e an := by unfold UPX upE; rw [if_pos (by omega)]; exact ha
theorem lox_t {tl hd tu : Int → Int} {e an t : Int} (ht : t = tu e) (h0 : t ≠ 0) (ha : an = tl e) : LOX tl hd tu e an := by unfold LOX loE; rw [if_neg (by omega)]; exact ha
theorem lox_f {tl hd tu : Int → Int} {e an t : Int} (ht : t = tu e) (h0 : t = 0) (ha : an = hd e) : LOX tl hd tu e an := by unfold LOX loE; rw [if_pos (by omega)]; exact ha
theorem up_in {n m : Int} {tl hd tu : Int → Int} (h : GKE n m tl hd) {e : Int} (e0 : 0 ≤ e) (e1 : e < m) : 0 ≤ upE tl hd tu e ∧ upE tl hd tu e < n ∧ 0 ≤ loE tl hd tu e ∧ loE tl hd tu e < n := by
  have q := h e e0 e1
  unfold upE loE
  split <;> omega
def apF (tl hd tu : Int → Int) (k : Int) : Int := if k % 2 = 0 then upE tl hd tu (k / 4) else loE tl hd tu (k / 4)
def apT (tl hd tu : Int → Int) (k : Int) : Int := if k % 2 = 0 then loE tl hd tu (k / 4) else upE tl hd tu (k / 4)
def apR (wt : Int → Int) (k : Int) : Int := if k % 4 = 0 ∨ k % 4 = 1 then wt (k / 4) else if k % 4 = 2 then 1000000000 else 0
def apG (k : Int) : Int := if k % 4 = 2 then 1 else if k % 4 = 3 then -1 else 0
def AP (a : Int) (fr to_zq rm gn tl hd wt tu : Int → Int) (k : Int) : Prop := a = k ∧ 0 ≤ k ∧ ∀ j, 0 ≤ j → j < k → fr j = apF tl hd tu j ∧ to_zq j = apT tl hd tu j ∧ rm j = apR wt j ∧ gn j = apG j
def APA (a : Int) (fr to_zq rm gn tl hd wt tu : Int → Int) (k : Int) : Prop := AP a fr to_zq rm gn tl hd wt tu (k + 1)
def APB (a : Int) (fr to_zq rm gn tl hd wt tu : Int → Int) (k : Int) : Prop := AP a fr to_zq rm gn tl hd wt tu (k + 2)
def AP4 (a : Int) (fr to_zq rm gn tl hd wt tu : Int → Int) (e : Int) : Prop := AP a fr to_zq rm gn tl hd wt tu (4 * e)
def APX (tl hd wt tu : Int → Int) (k a b l g : Int) : Prop := a = apF tl hd tu k ∧ b = apT tl hd tu k ∧ l = apR wt k ∧ g = apG k
/-- an edge's ends and weight -/
def APQ (tl hd wt tu : Int → Int) (k a b c : Int) : Prop := k % 4 = 0 ∧ a = upE tl hd tu (k / 4) ∧ b = loE tl hd tu (k / 4) ∧ c = wt (k / 4)
def APH (tl hd wt tu : Int → Int) (k a b : Int) : Prop := k % 4 = 2 ∧ a = upE tl hd tu (k / 4) ∧ b = loE tl hd tu (k / 4)
theorem ap_add {a a_zq k p1 v1 p2 v2 p3 v3 p4 v4 : Int} {fr fr_zq to_zq to2 rm rm_zq gn gn_zq tl hd wt tu : Int → Int} (h : AP a fr to_zq rm gn tl hd wt tu k) (hn : APX tl hd wt tu k v1 v2 v3 v4) (s1 : st1 fr fr_zq p1 v1) (q1 : p1 = a) (s2 : st1 to_zq to2 p2 v2) (q2 : p2 = a) (s3 : st1 rm rm_zq p3 v3) (q3 : p3 = a) (s4 : st1 gn gn_zq p4 v4) (q4 : p4 = a) (ha : a_zq = a + 1) : APA a_zq fr_zq to2 rm_zq gn_zq tl hd wt tu k := by
  obtain ⟨h1, h2, h3⟩ := h
  obtain ⟨n1, n2, n3, n4⟩ := hn
  refine ⟨by omega, by omega, fun j j0 j1 => ?_⟩
  by_cases e : j = k
  · rw [(s1 j j0).1 (by omega), (s2 j j0).1 (by omega), (s3 j j0).1 (by omega), (s4 j j0).1 (by omega), e]; exact ⟨n1, n2, n3, n4⟩
  · rw [(s1 j j0).2 (by omega), (s2 j j0).2 (by omega), (s3 j j0).2 (by omega), (s4 j j0).2 (by omega)]; exact h3 j j0 (by omega)
theorem apn_q0 {k k_zq a b c g : Int} {tl hd wt tu : Int → Int} (h : APQ tl hd wt tu k a b c) (hk : k_zq = k) (hg : g = 0) : APX tl hd wt tu k_zq a b c g := by
  obtain ⟨h1, h2, h3, h4⟩ := h
  subst hk
  refine ⟨?_, ?_, ?_, ?_⟩
  · unfold apF; rw [if_pos (by omega)]; exact h2
  · unfold apT; rw [if_pos (by omega)]; exact h3
  · unfold apR; rw [if_pos (by omega)]; exact h4
  · unfold apG; rw [if_neg (by omega), if_neg (by omega)]; exact hg
theorem apn_q1 {k k_zq a b c g : Int} {tl hd wt tu : Int → Int} (h : APQ tl hd wt tu k a b c) (hk : k_zq = k + 1) (hg : g = 0) : APX tl hd wt tu k_zq b a c g := by
  obtain ⟨h1, h2, h3, h4⟩ := h
  have q : k_zq / 4 = k / 4 := by omega
  refine ⟨?_, ?_, ?_, ?_⟩
  · unfold apF; rw [if_neg (by omega), q]; exact h3
  · unfold apT; rw [if_neg (by omega), q]; exact h2
  · unfold apR; rw [if_pos (by omega), q]; exact h4
  · unfold apG; rw [if_neg (by omega), if_neg (by omega)]; exact hg
theorem apn_h0 {k k_zq a b c g : Int} {tl hd wt tu : Int → Int} (h : APH tl hd wt tu k a b) (hk : k_zq = k) (hc : c = 1000000000) (hg : g = 1) : APX tl hd wt tu k_zq a b c g := by
  obtain ⟨h1, h2, h3⟩ := h
  subst hk
  refine ⟨?_, ?_, ?_, ?_⟩
  · unfold apF; rw [if_pos (by omega)]; exact h2
  · unfold apT; rw [if_pos (by omega)]; exact h3
  · unfold apR; rw [if_neg (by omega), if_pos (by omega)]; exact hc
  · unfold apG; rw [if_pos (by omega)]; exact hg
theorem apn_h1 {k k_zq a b c g : Int} {tl hd wt tu : Int → Int} (h : APH tl hd wt tu k a b) (hk : k_zq = k + 1) (hc : c = 0) (hg : g = -1) : APX tl hd wt tu k_zq b a c g := by
  obtain ⟨h1, h2, h3⟩ := h
  have q : k_zq / 4 = k / 4 := by omega
  refine ⟨?_, ?_, ?_, ?_⟩
  · unfold apF; rw [if_neg (by omega), q]; exact h3
  · unfold apT; rw [if_neg (by omega), q]; exact h2
  · unfold apR; rw [if_neg (by omega), if_neg (by omega)]; exact hc
  · unfold apG; rw [if_neg (by omega), if_pos (by omega)]; exact hg
theorem ap_start {a e : Int} {fr to_zq rm gn tl hd wt tu : Int → Int} (ha : a = 0) (he : e = 0) : AP4 a fr to_zq rm gn tl hd wt tu e := ⟨by omega, by omega, fun j a b => by omega⟩
theorem apq_of {k e a b c : Int} {tl hd wt tu : Int → Int} (hk : k = 4 * e) (ha : UPX tl hd tu e a) (hb : LOX tl hd tu e b) (hc : c = wt e) : APQ tl hd wt tu k a b c := by
  have q : k / 4 = e := by omega
  exact ⟨by omega, by rw [q]; exact ha, by rw [q]; exact hb, by rw [q]; exact hc⟩
theorem aph_of {k e a b : Int} {tl hd wt tu : Int → Int} (hk : k = 4 * e + 2) (ha : UPX tl hd tu e a) (hb : LOX tl hd tu e b) : APH tl hd wt tu k a b := by
  have q : k / 4 = e := by omega
  exact ⟨by omega, by rw [q]; exact ha, by rw [q]; exact hb⟩
/-- a potential of the edges as they are turned -/
def TPO (m : Int) (tl hd tu : Int → Int) : Prop := ∃ h : Int → Int, ∀ e, 0 ≤ e → e < m → h (upE tl hd tu e) < h (loE tl hd tu e)
/-- pressed together: how many nodes lie lower -/
theorem tpo_press {n m : Int} {tl hd tu : Int → Int} (h : TPO m tl hd tu) (hg : GKE n m tl hd) (n0 : 0 ≤ n) (n24 : n ≤ 24) : ∃ h : Int → Int, (∀ v, 0 ≤ v → v < n → 0 ≤ h v ∧ h v ≤ 23) ∧ ∀ e, 0 ≤ e → e < m → 1 ≤ h (loE tl hd tu e) - h (upE tl hd tu e) := by
  obtain ⟨p, hp⟩ := h
  refine ⟨fun v => cnb (fun u => p u < p v) n.toNat, fun v v0 v1 => ?_, fun e e0 e1 => ?_⟩
  · have c0 := cnb_le (fun u => p u < p v) n.toNat
    have c1 := cnb_more (P := fun u => p u < p v) (Q := fun _ => True) n.toNat (fun _ _ _ _ => trivial) v0 (by omega) (Int.lt_irrefl (p v)) trivial
    have c2 := cnb_le (fun _ => True) n.toNat
    show 0 ≤ cnb (fun u => p u < p v) n.toNat ∧ cnb (fun u => p u < p v) n.toNat ≤ 23
    omega
  · have q := up_in (tu := tu) hg e0 e1
    have := cnb_more (P := fun u => p u < p (upE tl hd tu e)) (Q := fun u => p u < p (loE tl hd tu e)) n.toNat (fun j _ _ a => Int.lt_trans a (hp e e0 e1)) q.1 (by omega) (Int.lt_irrefl _) (hp e e0 e1)
    show 1 ≤ cnb (fun u => p u < p (loE tl hd tu e)) n.toNat - cnb (fun u => p u < p (upE tl hd tu e)) n.toNat
    omega
theorem flo_ap {n m a e : Int} {fr to_zq rm gn tl hd wt tu : Int → Int} (h : AP4 a fr to_zq rm gn tl hd wt tu e) (he : e = m) (m0 : 0 ≤ m) (m48 : m ≤ 48) (n0 : 0 ≤ n) (n24 : n ≤ 24) (hg : GKE n m tl hd) (hp : TPO m tl hd tu) (hw : ∀ j, 0 ≤ j → j < 48 → 0 ≤ wt j ∧ wt j ≤ 9) : FLO0 n a fr to_zq rm gn := by
  obtain ⟨h1, h2, h3⟩ := h
  subst he
  have am : a / 4 = e := by omega
  have at4 : ∀ i r : Int, 0 ≤ i → i < e → 0 ≤ r → r < 4 → fr (4 * i + r) = apF tl hd tu (4 * i + r) ∧ to_zq (4 * i + r) = apT tl hd tu (4 * i + r) ∧ rm (4 * i + r) = apR wt (4 * i + r) ∧ gn (4 * i + r) = apG (4 * i + r) := fun i r i0 i1 r0 r1 => h3 _ (by omega) (by omega)
  have d4 : ∀ i r : Int, 0 ≤ r → r < 4 → (4 * i + r) / 4 = i := fun i r a b => by omega
  have f0 : ∀ i, 0 ≤ i → i < e → fr (4 * i) = upE tl hd tu i ∧ to_zq (4 * i) = loE tl hd tu i ∧ rm (4 * i) = wt i ∧ gn (4 * i) = 0 := fun i i0 i1 => by
    have q := at4 i 0 i0 i1 (by omega) (by omega)
    rw [show 4 * i + 0 = 4 * i by omega] at q
    have z : 4 * i / 4 = i := by omega
    unfold apF apT apR apG at q
    rw [if_pos (by omega), if_pos (by omega), if_pos (by omega), if_neg (by omega), if_neg (by omega), z] at q; exact q
  have f1 : ∀ i, 0 ≤ i → i < e → fr (4 * i + 1) = loE tl hd tu i ∧ to_zq (4 * i + 1) = upE tl hd tu i ∧ rm (4 * i + 1) = wt i ∧ gn (4 * i + 1) = 0 := fun i i0 i1 => by
    have q := at4 i 1 i0 i1 (by omega) (by omega)
    unfold apF apT apR apG at q
    rw [if_neg (by omega), if_neg (by omega), if_pos (by omega), if_neg (by omega), if_neg (by omega), d4 i 1 (by omega) (by omega)] at q; exact q
  have f2 : ∀ i, 0 ≤ i → i < e → fr (4 * i + 2) = upE tl hd tu i ∧ to_zq (4 * i + 2) = loE tl hd tu i ∧ rm (4 * i + 2) = 1000000000 ∧ gn (4 * i + 2) = 1 := fun i i0 i1 => by
    have q := at4 i 2 i0 i1 (by omega) (by omega)
    unfold apF apT apR apG at q
    rw [if_pos (by omega), if_pos (by omega), if_neg (by omega), if_pos (by omega), if_pos (by omega), d4 i 2 (by omega) (by omega)] at q; exact q
  have f3 : ∀ i, 0 ≤ i → i < e → fr (4 * i + 3) = loE tl hd tu i ∧ to_zq (4 * i + 3) = upE tl hd tu i ∧ rm (4 * i + 3) = 0 ∧ gn (4 * i + 3) = -1 := fun i i0 i1 => by
    have q := at4 i 3 i0 i1 (by omega) (by omega)
    unfold apF apT apR apG at q
    rw [if_neg (by omega), if_neg (by omega), if_neg (by omega), if_neg (by omega), if_neg (by omega), if_pos (by omega), d4 i 3 (by omega) (by omega)] at q; exact q
  have nwl : NWL n a fr to_zq gn := by
    refine ⟨n0, n24, by omega, by omega, fun k k0 k1 => ?_⟩
    have q := up_in (tu := tu) hg (e := k / 4) (by omega) (by omega)
    have r : k = 4 * (k / 4) ∨ k = 4 * (k / 4) + 1 ∨ k = 4 * (k / 4) + 2 ∨ k = 4 * (k / 4) + 3 := by omega
    have i0 : 0 ≤ k / 4 := by omega
    have i1 : k / 4 < e := by omega
    rcases r with r | r | r | r
    · have z := f0 _ i0 i1; rw [← r] at z; omega
    · have z := f1 _ i0 i1; rw [← r] at z; omega
    · have z := f2 _ i0 i1; rw [← r] at z; omega
    · have z := f3 _ i0 i1; rw [← r] at z; omega
  obtain ⟨g, g1, g2⟩ := tpo_press hp hg n0 n24
  refine ⟨nwl, by omega, fun i i0 i1 => ?_, g, ⟨g1, fun i i0 i1 => ?_⟩, ?_, ?_⟩
  · have z0 := f0 i i0 (by omega); have z1 := f1 i i0 (by omega); have z2 := f2 i i0 (by omega); have z3 := f3 i i0 (by omega)
    have w := hw i i0 (by omega)
    unfold LWB
    omega
  · rw [(f0 i i0 (by omega)).1, (f0 i i0 (by omega)).2.1]; exact g2 i i0 (by omega)
  · refine sm_nil (fun i i0 i1 => ?_)
    have z0 := f0 i i0 (by omega); have z1 := f1 i i0 (by omega); have z3 := f3 i i0 (by omega)
    unfold lwW
    rw [z0.2.2.1, z1.2.2.1, z3.2.2.1, show wt i - wt i - 2 * 0 = 0 by omega, Int.zero_mul]
  · exact sm_nn (fun i i0 i1 => by show 0 ≤ rm (4 * i + 3); rw [(f3 i i0 (by omega)).2.2.1]; omega)
/-- where the arcs of edges begin and end -/
def AFT (m : Int) (fr to_zq tl hd tu : Int → Int) : Prop := ∀ e, 0 ≤ e → e < m → fr (4 * e) = upE tl hd tu e ∧ to_zq (4 * e) = loE tl hd tu e
theorem aft_of {a e : Int} {fr to_zq rm gn tl hd wt tu : Int → Int} (h : AP4 a fr to_zq rm gn tl hd wt tu e) : AFT e fr to_zq tl hd tu := fun i i0 i1 => by
  have q := h.2.2 (4 * i) (by omega) (by omega)
  have z : 4 * i / 4 = i := by omega
  unfold apF apT at q
  rw [if_pos (by omega), if_pos (by omega), z] at q
  exact ⟨q.1, q.2.1⟩
/-! layers -/
def LYG (lc n m : Int) (lo tl hd tu : Int → Int) : Prop := GKE n m tl hd ∧ 0 ≤ n ∧ n ≤ 24 ∧ (1 ≤ n → 1 ≤ lc) ∧ (∀ v, 0 ≤ v → v < n → 0 ≤ lo v ∧ lo v < lc) ∧ ∀ e, 0 ≤ e → e < m → lo (upE tl hd tu e) + 1 ≤ lo (loE tl hd tu e)
def LYF (lc : Int) (lo pl : Int → Int) (v : Int) : Prop := 0 ≤ v ∧ (1 ≤ v → 1 ≤ lc) ∧ ∀ u, 0 ≤ u → u < v → lo u = pl u ∧ lo u < lc ∧ 0 ≤ lo u
theorem lyf_start {lc v : Int} {lo pl : Int → Int} (hv : v = 0) : LYF lc lo pl v := ⟨by omega, fun _ => by omega, fun u a b => by omega⟩
theorem lyf_step {lc lc_zq v v_zq p x y z : Int} {lo lo_zq pl : Int → Int} (h : LYF lc lo pl v) (hs : st1 lo lo_zq p x) (hp : p = v) (hx : x = pl v) (x0 : 0 ≤ x) (hy : y = lo_zq v) (hz : z = y + 1) (h1 : lc ≤ lc_zq) (h2 : z ≤ lc_zq) (hv : v_zq = v + 1) : LYF lc_zq lo_zq pl v_zq := by
  obtain ⟨a1, a2, a3⟩ := h
  have lv : lo_zq v = x := (hs v a1).1 (by omega)
  refine ⟨by omega, fun _ => by omega, fun u u0 u1 => ?_⟩
  by_cases e : u = v
  · rw [e, lv]; omega
  · rw [(hs u u0).2 (by omega)]; have := a3 u u0 (by omega); omega
theorem lyg_of {lc n a m v : Int} {lo pl fr to_zq tl hd tu : Int → Int} (h : LYF lc lo pl v) (hv : v = n) (hq : LYQ n a fr to_zq pl) (ha : a = 4 * m) (hf : AFT m fr to_zq tl hd tu) (hg : GKE n m tl hd) (n0 : 0 ≤ n) (n24 : n ≤ 24) : LYG lc n m lo tl hd tu := by
  subst hv
  refine ⟨hg, n0, n24, h.2.1, fun u a b => ⟨(h.2.2 u a b).2.2, (h.2.2 u a b).2.1⟩, fun e e0 e1 => ?_⟩
  have q := up_in (tu := tu) hg e0 e1
  have r := hq.2 e e0 (by omega)
  rw [(hf e e0 e1).1, (hf e e0 e1).2] at r
  rw [(h.2.2 _ q.1 q.2.1).1, (h.2.2 _ q.2.2.1 q.2.2.2).1]; exact r
/-! joints -/
def joE (lo tl hd tu : Int → Int) (e : Int) : Int := lo (loE tl hd tu e) - lo (upE tl hd tu e) - 1
def MI1 (it lc n m : Int) (lo fj tl hd tu : Int → Int) (e : Int) : Prop := LYG lc n m lo tl hd tu ∧ 0 ≤ e ∧ it = n + sm (joE lo tl hd tu) e ∧ n ≤ it ∧ it ≤ 72 ∧ (∀ i, 0 ≤ i → i < it → 0 ≤ lo i ∧ lo i < lc) ∧ ∀ j, 0 ≤ j → j < e → n ≤ fj j ∧ fj j + joE lo tl hd tu j ≤ it
def MI2 (it lc n m : Int) (lo fj tl hd tu : Int → Int) (e tp jo k : Int) : Prop := LYG lc n m lo tl hd tu ∧ 0 ≤ e ∧ e < m ∧ it = n + sm (joE lo tl hd tu) e + k ∧ 0 ≤ k ∧ k ≤ jo ∧ jo = joE lo tl hd tu e ∧ tp = lo (upE tl hd tu e) ∧ n ≤ it - k ∧ it - k + jo ≤ 72 ∧ fj e = it - k ∧ (∀ i, 0 ≤ i → i < it → 0 ≤ lo i ∧ lo i < lc) ∧ ∀ j, 0 ≤ j → j < e → n ≤ fj j ∧ fj j + joE lo tl hd tu j ≤ it
def MIT (it lc n m : Int) (lo fj tl hd tu : Int → Int) : Prop := LYG lc n m lo tl hd tu ∧ it = n + sm (joE lo tl hd tu) m ∧ n ≤ it ∧ it ≤ 72 ∧ (∀ i, 0 ≤ i → i < it → 0 ≤ lo i ∧ lo i < lc) ∧ ∀ j, 0 ≤ j → j < m → n ≤ fj j ∧ fj j + joE lo tl hd tu j ≤ it
def MIA (it lc n m : Int) (lo fj tl hd tu : Int → Int) (an : Int) : Prop := an = 0 ∨ MIT it lc n m lo fj tl hd tu
theorem lyg_jo {lc n m : Int} {lo tl hd tu : Int → Int} (h : LYG lc n m lo tl hd tu) {e : Int} (e0 : 0 ≤ e) (e1 : e < m) : 0 ≤ joE lo tl hd tu e ∧ 0 ≤ lo (upE tl hd tu e) ∧ lo (loE tl hd tu e) < lc := by
  have q := up_in (tu := tu) h.1 e0 e1
  have r := h.2.2.2.2.2 e e0 e1
  have a := h.2.2.2.2.1 _ q.1 q.2.1
  have b := h.2.2.2.2.1 _ q.2.2.1 q.2.2.2
  unfold joE; omega
theorem mi1_start {it lc n m e : Int} {lo fj tl hd tu : Int → Int} (h : LYG lc n m lo tl hd tu) (hi : it = n) (he : e = 0) : MI1 it lc n m lo fj tl hd tu e := by
  subst he
  exact ⟨h, by omega, by rw [sm_zero (Int.le_refl 0)]; omega, by omega, by have := h.2.2.1; omega, fun i a b => h.2.2.2.2.1 i a (by omega), fun j a b => by omega⟩
theorem mi2_start {it lc n m e tp a b d jo k p v q1 q2 s1 s2 : Int} {lo fj fj_zq tl hd tu : Int → Int} (h : MI1 it lc n m lo fj tl hd tu e) (e1 : e < m) (hs : st1 fj fj_zq p v) (hp : p = e) (hv : v = it) (ha : UPX tl hd tu e a) (htp : tp = lo a) (hb : LOX tl hd tu e b) (hd_zq : d = lo b) (h1 : s1 = d - tp) (h2 : jo = s1 - q1) (hq : q1 = 1) (h3 : s2 = it + jo) (h4 : s2 ≤ q2) (hq2 : q2 = 72) (hk : k = 0) : MI2 it lc n m lo fj_zq tl hd tu e tp jo k := by
  obtain ⟨a1, a2, a3, a4, a5, a6, a7⟩ := h
  have ja : jo = joE lo tl hd tu e := by unfold joE; rw [← ha, ← hb]; omega
  have jn := lyg_jo a1 a2 e1
  refine ⟨a1, a2, e1, by omega, by omega, by omega, ja, by rw [← ha]; exact htp, by omega, by omega, by rw [(hs e a2).1 (by omega)]; omega, a6, fun j j0 j1 => ?_⟩
  rw [(hs j j0).2 (by omega)]; exact a7 j j0 j1
theorem mi2_room {it lc n m e tp jo k : Int} {lo fj tl hd tu : Int → Int} (h : MI2 it lc n m lo fj tl hd tu e tp jo k) (hk : k < jo) (lc24 : lc ≤ 24) : 0 ≤ it ∧ it ≤ 71 ∧ 0 ≤ tp + 1 + k ∧ tp + 1 + k < lc ∧ tp + 1 + k ≤ 23 := by
  obtain ⟨a1, a2, a3, a4, a5, a6, a7, a8, a9, a10, a11, a12, a13⟩ := h
  have jn := lyg_jo a1 a2 a3
  have := a1.2.1
  unfold joE at a7 jn
  omega
theorem lyg_set {lc n m p v : Int} {lo lo_zq tl hd tu : Int → Int} (h : LYG lc n m lo tl hd tu) (hs : st1 lo lo_zq p v) (hp : n ≤ p) : LYG lc n m lo_zq tl hd tu ∧ ∀ e, 0 ≤ e → e < m → joE lo_zq tl hd tu e = joE lo tl hd tu e ∧ lo_zq (upE tl hd tu e) = lo (upE tl hd tu e) := by
  obtain ⟨h1, h2, h3, h3b, h4, h5⟩ := h
  have old : ∀ u, 0 ≤ u → u < n → lo_zq u = lo u := fun u a b => (hs u a).2 (by omega)
  have eq : ∀ e, 0 ≤ e → e < m → lo_zq (upE tl hd tu e) = lo (upE tl hd tu e) ∧ lo_zq (loE tl hd tu e) = lo (loE tl hd tu e) := fun e e0 e1 => by
    have q := up_in (tu := tu) h1 e0 e1
    exact ⟨old _ q.1 q.2.1, old _ q.2.2.1 q.2.2.2⟩
  refine ⟨⟨h1, h2, h3, h3b, fun v a b => by rw [old v a b]; exact h4 v a b, fun e e0 e1 => by rw [(eq e e0 e1).1, (eq e e0 e1).2]; exact h5 e e0 e1⟩, fun e e0 e1 => ⟨?_, (eq e e0 e1).1⟩⟩
  unfold joE; rw [(eq e e0 e1).1, (eq e e0 e1).2]
theorem mi2_step {it it_zq lc n m e tp jo k k_zq p v : Int} {lo lo_zq fj tl hd tu : Int → Int} (h : MI2 it lc n m lo fj tl hd tu e tp jo k) (hk : k < jo) (lc24 : lc ≤ 24) (hs : st1 lo lo_zq p v) (hp : p = it) (hv : v = tp + 1 + k) (hi : it_zq = it + 1) (hk_zq : k_zq = k + 1) : MI2 it_zq lc n m lo_zq fj tl hd tu e tp jo k_zq := by
  have rm := mi2_room h hk lc24
  obtain ⟨a1, a2, a3, a4, a5, a6, a7, a8, a9, a10, a11, a12, a13⟩ := h
  obtain ⟨b1, b2⟩ := lyg_set a1 hs (by omega)
  have ss : sm (joE lo_zq tl hd tu) e = sm (joE lo tl hd tu) e := sm_congr (fun j j0 j1 => (b2 j j0 (by omega)).1)
  refine ⟨b1, a2, a3, by rw [ss]; omega, by omega, by omega, by rw [(b2 e a2 a3).1]; exact a7, by rw [(b2 e a2 a3).2]; exact a8, by omega, by omega, by omega, fun i i0 i1 => ?_, fun j j0 j1 => by rw [(b2 j j0 (by omega)).1]; have := a13 j j0 j1; omega⟩
  by_cases c : i = it
  · rw [(hs i i0).1 (by omega)]; omega
  · rw [(hs i i0).2 (by omega)]; exact a12 i i0 (by omega)
theorem mi1_next {it lc n m e e_zq tp jo k : Int} {lo fj tl hd tu : Int → Int} (h : MI2 it lc n m lo fj tl hd tu e tp jo k) (hk : jo ≤ k) (he : e_zq = e + 1) : MI1 it lc n m lo fj tl hd tu e_zq := by
  obtain ⟨a1, a2, a3, a4, a5, a6, a7, a8, a9, a10, a11, a12, a13⟩ := h
  have jn := lyg_jo a1 a2 a3
  refine ⟨a1, by omega, by rw [sm_succ a2 he]; omega, by omega, by omega, a12, fun j j0 j1 => ?_⟩
  by_cases c : j = e
  · rw [c, ← a7]; omega
  · exact a13 j j0 (by omega)
theorem mit_of {it lc n m e : Int} {lo fj tl hd tu : Int → Int} (h : MI1 it lc n m lo fj tl hd tu e) (he : e = m) : MIT it lc n m lo fj tl hd tu := by
  subst he
  exact ⟨h.1, h.2.2.1, h.2.2.2.1, h.2.2.2.2.1, h.2.2.2.2.2.1, h.2.2.2.2.2.2⟩
/-! pieces: each edge has one between each two layers that it spans -/
def pcX (a b x : Int) : Int := if x ≤ a then 0 else if b ≤ x then b - a else x - a
def pcE (lo tl hd tu : Int → Int) (l e_zq : Int) (e : Int) : Int := pcX (lo (upE tl hd tu e)) (lo (loE tl hd tu e)) (if e < e_zq then l + 1 else l)
theorem pcE_lt {lo tl hd tu : Int → Int} {l e_zq e : Int} (h : e < e_zq) : pcE lo tl hd tu l e_zq e = pcX (lo (upE tl hd tu e)) (lo (loE tl hd tu e)) (l + 1) := by unfold pcE; rw [if_pos h]
theorem pcE_ge {lo tl hd tu : Int → Int} {l e_zq e : Int} (h : e_zq ≤ e) : pcE lo tl hd tu l e_zq e = pcX (lo (upE tl hd tu e)) (lo (loE tl hd tu e)) l := by unfold pcE; rw [if_neg (by omega)]
theorem pcX_rng {a b x : Int} (h : a ≤ b) : 0 ≤ pcX a b x ∧ pcX a b x ≤ b - a := by unfold pcX; split <;> (try split) <;> omega
def MPI (it lc n m : Int) (lo fj tl hd tu pl : Int → Int) (l e pc : Int) : Prop := MIT it lc n m lo fj tl hd tu ∧ 0 ≤ l ∧ 0 ≤ e ∧ e ≤ m ∧ pc = sm (pcE lo tl hd tu l e) m ∧ ∀ j, 0 ≤ j → j < pc → 0 ≤ pl j ∧ pl j < it
theorem pc_le {it lc n m : Int} {lo fj tl hd tu : Int → Int} (h : MIT it lc n m lo fj tl hd tu) (m0 : 0 ≤ m) (l e : Int) : 0 ≤ sm (pcE lo tl hd tu l e) m ∧ sm (pcE lo tl hd tu l e) m ≤ it - n + m := by
  have hs : sm (fun j => joE lo tl hd tu j + 1) m = sm (joE lo tl hd tu) m + m := by
    rw [sm_add2 (f := joE lo tl hd tu) (g := fun _ => 1) (fun j _ _ => rfl)]
    have := smrg (f := fun _ => (1 : Int)) (lo := 1) (hi := 1) m0 (fun j _ _ => ⟨Int.le_refl _, Int.le_refl _⟩)
    omega
  have key : ∀ j, 0 ≤ j → j < m → 0 ≤ pcE lo tl hd tu l e j ∧ pcE lo tl hd tu l e j ≤ joE lo tl hd tu j + 1 := fun j j0 j1 => by
    have q := lyg_jo h.1 j0 j1
    unfold joE at q
    have r := pcX_rng (a := lo (upE tl hd tu j)) (b := lo (loE tl hd tu j)) (x := if j < e then l + 1 else l) (by omega)
    unfold joE
    unfold pcE
    omega
  refine ⟨sm_nn (fun j a b => (key j a b).1), ?_⟩
  have := sm_mono (fun j a b => (key j a b).2)
  have := h.2.1
  omega
theorem pc_more {it lc n m l e : Int} {lo fj tl hd tu : Int → Int} (h : MIT it lc n m lo fj tl hd tu) (e0 : 0 ≤ e) (e1 : e < m) (h1 : lo (upE tl hd tu e) ≤ l) (h2 : l < lo (loE tl hd tu e)) : sm (pcE lo tl hd tu l (e + 1)) m = sm (pcE lo tl hd tu l e) m + 1 := by
  rw [sm_pt (f := pcE lo tl hd tu l e) e0 e1 (fun j j0 j1 ne => ?_)]
  · rw [pcE_lt (show e < e + 1 by omega), pcE_ge (Int.le_refl e)]
    unfold pcX
    split <;> split <;> (try split) <;> (try split) <;> omega
  · by_cases c : j < e
    · rw [pcE_lt (show j < e + 1 by omega), pcE_lt c]
    · rw [pcE_ge (show e + 1 ≤ j by omega), pcE_ge (show e ≤ j by omega)]
theorem pc_skip {lo tl hd tu : Int → Int} {m l e : Int} (h : l < lo (upE tl hd tu e) ∨ lo (loE tl hd tu e) ≤ l) (hu : lo (upE tl hd tu e) + 1 ≤ lo (loE tl hd tu e)) : sm (pcE lo tl hd tu l (e + 1)) m = sm (pcE lo tl hd tu l e) m := sm_congr (fun j j0 j1 => by
  by_cases c : j < e
  · rw [pcE_lt (show j < e + 1 by omega), pcE_lt c]
  · by_cases d : j = e
    · subst d
      rw [pcE_lt (show j < j + 1 by omega), pcE_ge (Int.le_refl j)]
      unfold pcX
      split <;> split <;> (try split) <;> (try split) <;> omega
    · rw [pcE_ge (show e + 1 ≤ j by omega), pcE_ge (show e ≤ j by omega)])
theorem mpi_start {it lc n m l e pc : Int} {lo fj tl hd tu pl : Int → Int} (h : MIT it lc n m lo fj tl hd tu) (m0 : 0 ≤ m) (hl : l = 0) (he : e = 0) (hp : pc = 0) : MPI it lc n m lo fj tl hd tu pl l e pc := by
  subst hl he hp
  refine ⟨h, by omega, by omega, m0, ?_, fun j a b => by omega⟩
  exact (sm_nil (fun j j0 j1 => by
    have q := lyg_jo h.1 j0 j1
    rw [pcE_ge j0]
    unfold pcX
    rw [if_pos (by omega)])).symm
theorem mpi_next {it lc n m l l_zq e e_zq pc : Int} {lo fj tl hd tu pl : Int → Int} (h : MPI it lc n m lo fj tl hd tu pl l e pc) (he : m ≤ e) (hl : l_zq = l + 1) (he_zq : e_zq = 0) : MPI it lc n m lo fj tl hd tu pl l_zq e_zq pc := by
  obtain ⟨a1, a2, a3, a4, a5, a6⟩ := h
  refine ⟨a1, by omega, by omega, by omega, ?_, a6⟩
  rw [a5]
  exact sm_congr (fun j j0 j1 => by rw [pcE_lt (show j < e by omega), pcE_ge (show e_zq ≤ j by omega), hl])
theorem mpi_skip {it lc n m l e e_zq pc a b tp bt : Int} {lo fj tl hd tu pl : Int → Int} (h : MPI it lc n m lo fj tl hd tu pl l e pc) (e1 : e < m) (ha : UPX tl hd tu e a) (htp : tp = lo a) (hb : LOX tl hd tu e b) (hbt : bt = lo b) (hc : l < tp ∨ bt ≤ l) (he : e_zq = e + 1) : MPI it lc n m lo fj tl hd tu pl l e_zq pc := by
  obtain ⟨a1, a2, a3, a4, a5, a6⟩ := h
  have q := lyg_jo a1.1 a3 e1
  unfold joE at q
  refine ⟨a1, a2, by omega, by omega, ?_, a6⟩
  rw [he, pc_skip (by rw [← ha, ← hb]; omega) (by omega)]; exact a5
theorem mpi_room {it lc n m l e pc a b tp bt : Int} {lo fj tl hd tu pl : Int → Int} (h : MPI it lc n m lo fj tl hd tu pl l e pc) (e1 : e < m) (m48 : m ≤ 48) (ha : UPX tl hd tu e a) (htp : tp = lo a) (hb : LOX tl hd tu e b) (hbt : bt = lo b) (h1 : tp ≤ l) (h2 : l < bt) : 0 ≤ pc ∧ pc ≤ 119 := by
  obtain ⟨a1, a2, a3, a4, a5, a6⟩ := h
  have q := pc_more (l := l) a1 a3 e1 (by rw [← ha]; omega) (by rw [← hb]; omega)
  have r := pc_le a1 (by omega) l (e + 1)
  have s := pc_le a1 (by omega) l e
  have := a1.2.2.2.1
  have g := up_in (tu := tu) a1.1.1 a3 e1
  omega
theorem mpi_fj {it lc n m l e pc a b tp bt f : Int} {lo fj tl hd tu pl : Int → Int} (h : MPI it lc n m lo fj tl hd tu pl l e pc) (e1 : e < m) (ha : UPX tl hd tu e a) (htp : tp = lo a) (hb : LOX tl hd tu e b) (hbt : bt = lo b) (hf : f = fj e) : 0 ≤ a ∧ a < it ∧ 0 ≤ b ∧ b < it ∧ n ≤ f ∧ f + (bt - tp - 1) ≤ it ∧ it ≤ 72 ∧ 0 ≤ n := by
  obtain ⟨a1, a2, a3, a4, a5, a6⟩ := h
  have g := up_in (tu := tu) a1.1.1 a3 e1
  have q := a1.2.2.2.2.2 e a3 e1
  unfold joE at q
  rw [← ha, ← hb] at g q
  have := a1.2.2.1; have := a1.2.2.2.1; have := a1.1.2.1
  omega
theorem mpi_take {it lc n m l e e_zq pc pc_zq a b tp bt p v : Int} {lo fj tl hd tu pl pl_zq : Int → Int} (h : MPI it lc n m lo fj tl hd tu pl l e pc) (e1 : e < m) (ha : UPX tl hd tu e a) (htp : tp = lo a) (hb : LOX tl hd tu e b) (hbt : bt = lo b) (h1 : tp ≤ l) (h2 : l < bt) (hs : st1 pl pl_zq p v) (hp : p = pc) (v0 : 0 ≤ v) (v1 : v < it) (he : e_zq = e + 1) (hc : pc_zq = pc + 1) : MPI it lc n m lo fj tl hd tu pl_zq l e_zq pc_zq := by
  obtain ⟨a1, a2, a3, a4, a5, a6⟩ := h
  have q := pc_more (l := l) a1 a3 e1 (by rw [← ha]; omega) (by rw [← hb]; omega)
  refine ⟨a1, a2, by omega, by omega, by rw [he, q]; omega, fun j j0 j1 => ?_⟩
  by_cases c : j = pc
  · rw [(hs j j0).1 (by omega)]; exact ⟨v0, v1⟩
  · rw [(hs j j0).2 (by omega)]; exact a6 j j0 (by omega)
theorem mpi_end {it lc n m l e pc : Int} {lo fj tl hd tu pl : Int → Int} (h : MPI it lc n m lo fj tl hd tu pl l e pc) (m48 : m ≤ 48) : 0 ≤ pc ∧ pc ≤ 120 := by
  obtain ⟨a1, a2, a3, a4, a5, a6⟩ := h
  have r := pc_le a1 (by omega) l e
  have := a1.2.2.2.1; have := a1.1.2.1
  omega
def MPL (it lc n m : Int) (lo fj pl ps tl hd tu : Int → Int) (l pc : Int) : Prop := MPI it lc n m lo fj tl hd tu pl l 0 pc ∧ ∀ l_zq, 0 ≤ l_zq → l_zq < l → 0 ≤ ps l_zq ∧ ps l_zq ≤ pc
def MPM (it lc n m : Int) (lo fj pl ps tl hd tu : Int → Int) (l e pc : Int) : Prop := MPI it lc n m lo fj tl hd tu pl l e pc ∧ ∀ l_zq, 0 ≤ l_zq → l_zq ≤ l → 0 ≤ ps l_zq ∧ ps l_zq ≤ pc
def PCL (it lc : Int) (pl ps : Int → Int) : Prop := ∀ l, 0 ≤ l → l < lc → 0 ≤ ps l ∧ ∀ j, 0 ≤ j → j < ps l → 0 ≤ pl j ∧ pl j < it
theorem mpl_start {it lc n m l pc : Int} {lo fj pl ps tl hd tu : Int → Int} (h : MIT it lc n m lo fj tl hd tu) (m0 : 0 ≤ m) (hl : l = 0) (hp : pc = 0) : MPL it lc n m lo fj pl ps tl hd tu l pc := ⟨mpi_start h m0 hl rfl hp, fun l_zq a b => by omega⟩
theorem mpm_start {it lc n m l e pc p v : Int} {lo fj pl ps ps_zq tl hd tu : Int → Int} (h : MPL it lc n m lo fj pl ps tl hd tu l pc) (hs : st1 ps ps_zq p v) (hp : p = l) (hv : v = pc) (pc0 : 0 ≤ pc) (he : e = 0) : MPM it lc n m lo fj pl ps_zq tl hd tu l e pc := by
  subst he
  refine ⟨h.1, fun l_zq a b => ?_⟩
  by_cases c : l_zq = l
  · rw [(hs l_zq a).1 (by omega)]; omega
  · rw [(hs l_zq a).2 (by omega)]; exact h.2 l_zq a (by omega)
theorem mpl_next {it lc n m l l_zq e pc : Int} {lo fj pl ps tl hd tu : Int → Int} (h : MPM it lc n m lo fj pl ps tl hd tu l e pc) (he : m ≤ e) (hl : l_zq = l + 1) : MPL it lc n m lo fj pl ps tl hd tu l_zq pc := ⟨mpi_next h.1 he hl rfl, fun k a b => h.2 k a (by omega)⟩
theorem pcl_of {it lc n m l pc p v : Int} {lo fj pl ps ps_zq tl hd tu : Int → Int} (h : MPL it lc n m lo fj pl ps tl hd tu l pc) (hl : lc ≤ l + 1) (hs : st1 ps ps_zq p v) (hp : p = lc - 1) (hv : v = pc) (pc0 : 0 ≤ pc) : PCL it lc pl ps_zq := fun k k0 k1 => by
  have q : 0 ≤ ps_zq k ∧ ps_zq k ≤ pc := by
    by_cases c : k = lc - 1
    · rw [(hs k k0).1 (by omega)]; omega
    · rw [(hs k k0).2 (by omega)]; exact h.2 k k0 (by omega)
  exact ⟨q.1, fun j j0 j1 => h.1.2.2.2.2.2 j j0 (by omega)⟩
/-! bends of an edge are its joints -/
def WRS (lo tl hd tu : Int → Int) (e sp : Int) : Prop := sp = joE lo tl hd tu e + 1
theorem wrs_of {lo tl hd tu : Int → Int} {e sp a b x y : Int} (ha : UPX tl hd tu e a) (hb : LOX tl hd tu e b) (hx : x = lo a) (hy : y = lo b) (hs : sp = y - x) : WRS lo tl hd tu e sp := by
  unfold WRS joE; rw [← ha, ← hb]; omega
theorem wrs_in {it lc n m e sp f : Int} {lo fj tl hd tu : Int → Int} (h : MIT it lc n m lo fj tl hd tu) (hw : WRS lo tl hd tu e sp) (e0 : 0 ≤ e) (e1 : e < m) (hf : f = fj e) (lc24 : lc ≤ 24) : 0 ≤ f ∧ f + sp - 1 ≤ 72 ∧ 1 ≤ sp ∧ sp ≤ 23 := by
  have q := h.2.2.2.2.2 e e0 e1
  have j := lyg_jo h.1 e0 e1
  have := h.2.2.2.1; have := h.1.2.1
  unfold WRS at hw
  unfold joE at q j hw
  omega
theorem mpm_take {it lc n m l e e_zq pc pc_zq a b tp bt p v : Int} {lo fj pl pl_zq ps tl hd tu : Int → Int} (h : MPM it lc n m lo fj pl ps tl hd tu l e pc) (e1 : e < m) (ha : UPX tl hd tu e a) (htp : tp = lo a) (hb : LOX tl hd tu e b) (hbt : bt = lo b) (h1 : tp ≤ l) (h2 : l < bt) (hs : st1 pl pl_zq p v) (hp : p = pc) (hv : 0 ≤ v ∧ v < it) (he : e_zq = e + 1) (hc : pc_zq = pc + 1) : MPM it lc n m lo fj pl_zq ps tl hd tu l e_zq pc_zq := ⟨mpi_take h.1 e1 ha htp hb hbt h1 h2 hs hp hv.1 hv.2 he hc, fun l_zq x y => by have := h.2 l_zq x y; omega⟩
theorem mpm_lo {it lc n m l e pc b : Int} {lo fj pl ps tl hd tu : Int → Int} (h : MPM it lc n m lo fj pl ps tl hd tu l e pc) (e1 : e < m) (hb : LOX tl hd tu e b) : 0 ≤ b ∧ b < it := by
  have g := up_in (tu := tu) h.1.1.1.1 h.1.2.2.1 e1
  have := h.1.1.2.2.1
  rw [← hb] at g; omega
end
section
/-! parts: neighbours are in one part, every part has a node -/
def NCL (n : Int) (nr : Int → Int) (S : Int → Prop) : Prop := ∀ u w, 0 ≤ u → u < n → 0 ≤ w → w < n → S u → bit (nr u) w → S w
def PNC (n : Int) (nr pt : Int → Int) : Prop := (∀ u w, 0 ≤ u → u < n → 0 ≤ w → w < n → bit (nr u) w → pt w = pt u) ∧ ∀ S : Int → Prop, NCL n nr S → ∀ u w, 0 ≤ u → u < n → 0 ≤ w → w < n → pt u = pt w → S u → S w
def FPA (n ps : Int) (pt : Int → Int) : Prop := (∀ p, 0 ≤ p → p < ps → ∃ v, 0 ≤ v ∧ v < n ∧ pt v = p) ∧ ∀ v, 0 ≤ v → v < n → 0 ≤ pt v ∧ pt v < ps
/-- a graph's neighbours: both ways, and nodes of it -/
def GNO (n : Int) (nr : Int → Int) : Prop := ∀ u w, 0 ≤ u → u < n → 0 ≤ w → w < 32 → bit (nr u) w → w < n ∧ bit (nr w) u
/-- neighbours are those that an edge joins -/
def GEN (n m : Int) (nr tl hd : Int → Int) : Prop := (∀ e, 0 ≤ e → e < m → bit (nr (tl e)) (hd e) ∧ bit (nr (hd e)) (tl e)) ∧ ∀ u w, 0 ≤ u → u < n → 0 ≤ w → w < n → bit (nr u) w → ∃ e, 0 ≤ e ∧ e < m ∧ ((tl e = u ∧ hd e = w) ∨ (tl e = w ∧ hd e = u))
def GNB (n m : Int) (nr tl hd : Int → Int) : Prop := GNO n nr ∧ GEN n m nr tl hd
/-- a set of nodes that hangs together with the rest at one node alone; with one block there are not edges on both sides -/
def CUTN (n : Int) (nr : Int → Int) (w0 : Int) (S : Int → Prop) : Prop := ¬ S w0 ∧ ∀ u w, 0 ≤ u → u < n → 0 ≤ w → w < n → S u → bit (nr u) w → S w ∨ w = w0
def BKS (n m bk : Int) (nr tl hd : Int → Int) : Prop := bk ≤ m ∧ (bk = 1 → ∀ (w0 : Int) (S : Int → Prop), CUTN n nr w0 S → ∀ e f, 0 ≤ e → e < m → 0 ≤ f → f < m → (S (tl e) ∨ S (hd e)) → (¬ S (tl f) ∧ ¬ S (hd f)) → False)
theorem gnb_syg {n : Int} {nr : Int → Int} (h : GNO n nr) (hn : n ≤ 24) : SYMN nr n := fun u v u0 u1 v0 v1 z => (h u v u0 u1 v0 (by omega) z).2
/-- parts up to a node -/
def LPI (sn ps n : Int) (nr pt : Int → Int) (i : Int) : Prop := 0 ≤ i ∧ 0 ≤ ps ∧ (∀ w, 0 ≤ w → w < 32 → bit sn w → w < n) ∧ (∀ u w, 0 ≤ u → u < n → bit sn u → 0 ≤ w → w < 32 → bit (nr u) w → bit sn w ∧ pt w = pt u) ∧ (∀ v, 0 ≤ v → v < n → bit sn v → 0 ≤ pt v ∧ pt v < ps) ∧ (∀ p, 0 ≤ p → p < ps → ∃ v, 0 ≤ v ∧ v < n ∧ bit sn v ∧ pt v = p) ∧ (∀ v, 0 ≤ v → v < i → bit sn v) ∧ ∀ S : Int → Prop, NCL n nr S → ∀ u w, 0 ≤ u → u < n → 0 ≤ w → w < n → bit sn u → bit sn w → pt u = pt w → S u → S w
/-- a set of nodes gets its part's number: what was there before -/
def SAP (pt nr : Int → Int) (n st vl sn i : Int) : Prop := LPI sn vl n nr pt i ∧ GNO n nr ∧ n ≤ 24 ∧ 0 ≤ i ∧ i < n ∧ bit st i ∧ (∀ w, 0 ≤ w → w < 32 → bit st w → w < n ∧ ¬ bit sn w) ∧ (∀ u w, 0 ≤ u → u < n → bit st u → 0 ≤ w → w < 32 → bit (nr u) w → bit st w) ∧ ∀ S : Int → Prop, NCL n nr S → ∀ u w, 0 ≤ u → u < n → 0 ≤ w → w < n → bit st u → bit st w → S u → S w
/-- the same, told by what has been seen with it -/
def SAQ (pt nr : Int → Int) (n st vl s2 i : Int) : Prop := ∃ sn, SAP pt nr n st vl sn i ∧ ∀ w, 0 ≤ w → w < 32 → (bit s2 w ↔ bit sn w ∨ bit st w)
def SAI (pt nr : Int → Int) (n st vl sn i v : Int) : Prop := ∃ p0 : Int → Int, SAQ p0 nr n st vl sn i ∧ 0 ≤ v ∧ (∀ j, 0 ≤ j → j < n → bit st j → j < v → pt j = vl) ∧ ∀ j, 0 ≤ j → j < n → ¬ bit st j → pt j = p0 j
def SAO (pt nr : Int → Int) (n st vl sn i : Int) : Prop := SAI pt nr n st vl sn i n
theorem sai_start {pt nr : Int → Int} {n st vl sn i v : Int} (h : SAQ pt nr n st vl sn i) (hv : v = 0) : SAI pt nr n st vl sn i v := ⟨pt, h, by omega, fun j a b c d => by omega, fun j _ _ _ => rfl⟩
theorem sai_skip {pt nr : Int → Int} {n st vl sn i v v_zq : Int} (h : SAI pt nr n st vl sn i v) (hb : ¬ bit st v) (hv : v_zq = v + 1) : SAI pt nr n st vl sn i v_zq := by
  obtain ⟨p0, h1, h2, h3, h4⟩ := h
  exact ⟨p0, h1, by omega, fun j a b c d => h3 j a b c (by by_cases e : j = v; rw [e] at c; exact absurd c hb; omega), h4⟩
theorem sai_step {pt pt_zq nr : Int → Int} {n st vl sn i v v_zq p x : Int} (h : SAI pt nr n st vl sn i v) (hb : bit st v) (hs : st1 pt pt_zq p x) (hp : p = v) (hx : x = vl) (hv : v_zq = v + 1) : SAI pt_zq nr n st vl sn i v_zq := by
  obtain ⟨p0, h1, h2, h3, h4⟩ := h
  refine ⟨p0, h1, by omega, fun j a b c d => ?_, fun j a b c => ?_⟩
  · by_cases e : j = v
    · rw [(hs j a).1 (by omega)]; exact hx
    · rw [(hs j a).2 (by omega)]; exact h3 j a b c (by omega)
  · rw [(hs j a).2 (fun e => by rw [e, hp] at c; exact c hb)]; exact h4 j a b c
theorem sao_of {pt nr : Int → Int} {n st vl sn i v : Int} (h : SAI pt nr n st vl sn i v) (hv : n ≤ v) : SAO pt nr n st vl sn i := by
  obtain ⟨p0, h1, h2, h3, h4⟩ := h
  have q : 0 ≤ n := by obtain ⟨_, q, _⟩ := h1; have := q.2.2.2.1; have := q.2.2.2.2.1; omega
  exact ⟨p0, h1, q, fun j a b c d => h3 j a b c (by omega), h4⟩
theorem lpi_start {sn ps n i : Int} {nr pt : Int → Int} (hs : sn = 0) (hp : ps = 0) (hi : i = 0) : LPI sn ps n nr pt i := by
  have z : ∀ w, ¬ bit sn w := fun w q => absurd (hs ▸ q) (bit_zero w)
  exact ⟨by omega, by omega, fun w _ _ q => absurd q (z w), fun u w _ _ q => absurd q (z u), fun v _ _ q => absurd q (z v), fun p a b => by omega, fun v a b => by omega, fun S _ u w _ _ _ _ q => absurd q (z u)⟩
theorem lpi_skip {sn ps n i i_zq : Int} {nr pt : Int → Int} (h : LPI sn ps n nr pt i) (hb : bit sn i) (hi : i_zq = i + 1) : LPI sn ps n nr pt i_zq := by
  obtain ⟨h1, h2, h3, h4, h5, h6, h7, h8⟩ := h
  exact ⟨by omega, h2, h3, h4, h5, h6, fun v a b => by by_cases e : v = i; rw [e]; exact hb; exact h7 v a (by omega), h8⟩
/-- a new part: what hangs together with a node that was not seen -/
theorem sap_of {sn ps n i st q al : Int} {nr pt : Int → Int} (h : LPI sn ps n nr pt i) (hg : GNO n nr) (n24 : n ≤ 24) (i1 : i < n) (hb : ¬ bit sn i) (hq : bvp q = bvp 1 <<< i.toNat) (ha : al = -1) (hS : SPZ nr n q al st) : SAP pt nr n st ps sn i := by
  have i0 := h.1
  have bq : ∀ w, 0 ≤ w → w < 32 → (bit q w ↔ w = i) := fun w a b => bit_shl hq rfl i0 a b
  have bal : ∀ w, 0 ≤ w → w < 32 → bit al w := fun w a b => by rw [ha]; exact bit_m1 a b
  have nrb : NRB nr n := fun u w u0 u1 w0 w1 z => (hg u w u0 u1 w0 w1 z).1
  have frn : FRN n q := fun w a b z => by rw [bq w a b] at z; omega
  obtain ⟨c1, c2⟩ := hS.2.2.2 nrb frn
  have hmin := hS.2.2.1 (fun w => w < n ∧ ¬ bit sn w) ⟨fun w a b z _ => by rw [bq w a b] at z; rw [z]; exact ⟨i1, hb⟩, fun u w u0 u1 hu w0 w1 z _ => ⟨(hg u w u0 u1 w0 w1 z).1, fun sw => hu.2 (by
    have := hg u w u0 u1 w0 w1 z
    exact (h.2.2.2.1 w u w0 this.1 sw u0 (by omega) this.2).1)⟩⟩
  exact ⟨h, hg, n24, i0, i1, hS.2.1 i i0 (by omega) ((bq i i0 (by omega)).mpr rfl) (bal i i0 (by omega)), fun w a b z => hmin w a b z, fun u w u0 u1 z w0 w1 y => c2 u w u0 u1 z w0 w1 y (bal w w0 w1), fun S hS2 u w u0 u1 w0 w1 zu zw su => by
    have key : ∀ P : Int → Prop, NCL n nr P → P i → ∀ x, 0 ≤ x → x < n → bit st x → P x := fun P hP pi x x0 x1 bx => by
      have := hS.2.2.1 (fun x => x < n ∧ P x) ⟨fun w a b z _ => by rw [bq w a b] at z; rw [z]; exact ⟨i1, pi⟩, fun u w u0 u1 hu w0 w1 z _ => ⟨(hg u w u0 u1 w0 w1 z).1, hP u w u0 u1 w0 ((hg u w u0 u1 w0 w1 z).1) hu.2 z⟩⟩ x x0 (by omega) bx
      exact this.2
    by_cases si : S i
    · exact key S hS2 si w w0 w1 zw
    · exact absurd su (key (fun x => ¬ S x) (fun a b a0 a1 b0 b1 na z sb => na (hS2 b a b0 b1 a0 a1 sb (hg a b a0 a1 b0 (by omega) z).2)) si u u0 u1 zu)⟩
theorem lpi_step {sn sn_zq ps ps_zq n i i_zq st : Int} {nr pt : Int → Int} (h : SAO pt nr n st ps sn_zq i) (hp : ps_zq = ps + 1) (hi : i_zq = i + 1) (_ : sn = sn) : LPI sn_zq ps_zq n nr pt i_zq := by
  obtain ⟨p0, ⟨sn, ⟨a1, a2, a3, a4, a5, a6, a7, a8, a9⟩, hs⟩, b1, b2, b3⟩ := h
  obtain ⟨h1, h2, h3, h4, h5, h6, h7, h8⟩ := a1
  have bo : ∀ w, 0 ≤ w → w < 32 → (bit sn_zq w ↔ bit sn w ∨ bit st w) := hs
  have pst : ∀ w, 0 ≤ w → w < n → bit st w → pt w = ps := fun w a b c => b2 w a b c b
  have psn : ∀ w, 0 ≤ w → w < n → bit sn w → pt w = p0 w := fun w a b c => b3 w a b (fun z => (a7 w a (by omega) z).2 c)
  refine ⟨by omega, by omega, fun w a b z => ?_, fun u w u0 u1 z w0 w1 y => ?_, fun v a b z => ?_, fun p p0_zq p1 => ?_, fun v a b => ?_, fun S hS u w u0 u1 w0 w1 zu zw e su => ?_⟩
  · rcases (bo w a b).mp z with q | q
    · exact h3 w a b q
    · exact (a7 w a b q).1
  · have wn := (a2 u w u0 u1 w0 w1 y).1
    rcases (bo u u0 (by omega)).mp z with q | q
    · have r := h4 u w u0 u1 q w0 w1 y
      exact ⟨(bo w w0 w1).mpr (Or.inl r.1), by rw [psn w w0 wn r.1, psn u u0 u1 q]; exact r.2⟩
    · have r := a8 u w u0 u1 q w0 w1 y
      exact ⟨(bo w w0 w1).mpr (Or.inr r), by rw [pst w w0 wn r, pst u u0 u1 q]⟩
  · rcases (bo v a (by omega)).mp z with q | q
    · rw [psn v a b q]; have := h5 v a b q; omega
    · rw [pst v a b q]; omega
  · by_cases e : p = ps
    · exact ⟨i, a4, a5, (bo i a4 (by omega)).mpr (Or.inr a6), by rw [pst i a4 a5 a6]; exact e.symm⟩
    · obtain ⟨v, v0, v1, v2, v3⟩ := h6 p p0_zq (by omega)
      exact ⟨v, v0, v1, (bo v v0 (by omega)).mpr (Or.inl v2), by rw [psn v v0 v1 v2]; exact v3⟩
  · by_cases e : v = i
    · rw [e]; exact (bo i a4 (by omega)).mpr (Or.inr a6)
    · exact (bo v a (by omega)).mpr (Or.inl (h7 v a (by omega)))
  · rcases (bo u u0 (by omega)).mp zu with q | q
    · rcases (bo w w0 (by omega)).mp zw with r | r
      · exact h8 S hS u w u0 u1 w0 w1 q r (by rw [← psn u u0 u1 q, ← psn w w0 w1 r]; exact e) su
      · have := h5 u u0 u1 q
        rw [psn u u0 u1 q, pst w w0 w1 r] at e; omega
    · rcases (bo w w0 (by omega)).mp zw with r | r
      · have := h5 w w0 w1 r
        rw [pst u u0 u1 q, psn w w0 w1 r] at e; omega
      · exact a9 S hS u w u0 u1 w0 w1 q r su
theorem saq_of {sn s2 n i st ps : Int} {nr pt : Int → Int} (h : SAP pt nr n st ps sn i) (hs : bvp s2 = bvp sn ||| bvp st) : SAQ pt nr n st ps s2 i := ⟨sn, h, fun w _ _ => bit_or hs w⟩
def LPJ (ps n : Int) (pt nr : Int → Int) (sn i : Int) : Prop := LPI sn ps n nr pt i
theorem pnc_of {sn ps n i : Int} {nr pt : Int → Int} (h : LPI sn ps n nr pt i) (hi : n ≤ i) (n24 : n ≤ 24) : PNC n nr pt := ⟨fun u w u0 u1 w0 w1 z => (h.2.2.2.1 u w u0 u1 (h.2.2.2.2.2.2.1 u u0 (by omega)) w0 (by omega) z).2, fun S hS u w u0 u1 w0 w1 e su => h.2.2.2.2.2.2.2 S hS u w u0 u1 w0 w1 (h.2.2.2.2.2.2.1 u u0 (by omega)) (h.2.2.2.2.2.2.1 w w0 (by omega)) e su⟩
theorem fpa_of {sn ps n i : Int} {nr pt : Int → Int} (h : LPI sn ps n nr pt i) (hi : n ≤ i) : FPA n ps pt := ⟨fun p a b => by
  obtain ⟨v, v0, v1, _, v3⟩ := h.2.2.2.2.2.1 p a b
  exact ⟨v, v0, v1, v3⟩, fun v a b => h.2.2.2.2.1 v a b (h.2.2.2.2.2.2.1 v a (by omega))⟩
/-! trees: the order has no node twice -/
def WTB (or_zq pt : Int → Int) (s p : Int) : Prop := 0 ≤ s ∧ (∀ i j, 0 ≤ i → i < j → j < s → or_zq i ≠ or_zq j) ∧ ∀ i, 0 ≤ i → i < s → 0 ≤ or_zq i ∧ or_zq i < 24 ∧ pt (or_zq i) < p
def WTA (or_zq pt : Int → Int) (s p : Int) : Prop := WTB or_zq pt s (p + 1)
def RTP (pt : Int → Int) (r p : Int) : Prop := pt r = p
def FPE (n : Int) (pt : Int → Int) (p : Int) : Prop := ∃ v, 0 ≤ v ∧ v < n ∧ pt v = p
def FPF (n : Int) (pt : Int → Int) (p v : Int) : Prop := ∃ u, v ≤ u ∧ 0 ≤ u ∧ u < n ∧ pt u = p
theorem fpf_start {n p v : Int} {pt : Int → Int} (h : FPE n pt p) (hv : v = 0) : FPF n pt p v := by
  obtain ⟨u, a, b, c⟩ := h; exact ⟨u, by omega, a, b, c⟩
theorem fpf_skip {n p v v_zq x : Int} {pt : Int → Int} (h : FPF n pt p v) (hx : x = pt v) (hn : x ≠ p) (hv : v_zq = v + 1) : FPF n pt p v_zq := by
  obtain ⟨u, u0, a, b, c⟩ := h
  by_cases e : u = v
  · rw [e, ← hx] at c; exact absurd c hn
  · exact ⟨u, by omega, a, b, c⟩
theorem wtb_room {s p r : Int} {or_zq pt : Int → Int} (h : WTB or_zq pt s p) (r0 : 0 ≤ r) (r1 : r < 24) (hr : pt r = p) : 0 ≤ s ∧ s ≤ 23 := by
  obtain ⟨h1, h2, h3⟩ := h
  refine ⟨h1, ?_⟩
  have := php (s + 1).toNat 24 (fun i => ((fun j : Int => if j < s then or_zq j else r) (i : Int)).toNat) (fun i hi => by
    show (if (i : Int) < s then or_zq i else r).toNat < 24
    split
    · have := h3 i (by omega) (by assumption); omega
    · omega) (fun i j hi hj e => by
    have e : (if (i : Int) < s then or_zq i else r).toNat = (if (j : Int) < s then or_zq j else r).toNat := e
    by_cases a : (i : Int) < s
    · have ha := h3 i (by omega) a
      rw [if_pos a] at e
      by_cases b : (j : Int) < s
      · have hb := h3 j (by omega) b
        rw [if_pos b] at e
        by_cases c : i < j
        · exact absurd (by omega) (h2 i j (by omega) (by omega) b)
        · by_cases d : j < i
          · exact absurd (by omega) (h2 j i (by omega) (by omega) a)
          · omega
      · rw [if_neg b] at e
        have : or_zq i = r := by omega
        rw [this, hr] at ha; omega
    · rw [if_neg a] at e
      by_cases b : (j : Int) < s
      · have hb := h3 j (by omega) b
        rw [if_pos b] at e
        have : or_zq j = r := by omega
        rw [this, hr] at hb; omega
      · omega)
  omega
/-- a tree is walked -/
def WTI (n : Int) (or_zq pt : Int → Int) (sn s en p k : Int) : Prop := 0 ≤ s ∧ s < en ∧ s ≤ k ∧ en ≤ 24 ∧ (∀ i j, 0 ≤ i → i < j → j < en → or_zq i ≠ or_zq j) ∧ (∀ i, 0 ≤ i → i < s → 0 ≤ or_zq i ∧ or_zq i < 24 ∧ pt (or_zq i) < p) ∧ ∀ i, s ≤ i → i < en → 0 ≤ or_zq i ∧ or_zq i < n ∧ pt (or_zq i) = p ∧ bit sn (or_zq i)
theorem wti_start {or_zq or2 pt : Int → Int} {n sn s en p k r q x : Int} (h : WTB or_zq pt s p) (s23 : s ≤ 23) (r0 : 0 ≤ r) (r1 : r < n) (n24 : n ≤ 24) (hr : RTP pt r p) (hs : st1 or_zq or2 q x) (hq : q = s) (hx : x = r) (hsn : bvp sn = bvp 1 <<< r.toNat) (he : en = s + 1) (hk : k = s) : WTI n or2 pt sn s en p k := by
  obtain ⟨h1, h2, h3⟩ := h
  have os : or2 s = r := by rw [(hs s h1).1 (by omega)]; exact hx
  have oo : ∀ i, 0 ≤ i → i < s → or2 i = or_zq i := fun i a b => (hs i a).2 (by omega)
  refine ⟨h1, by omega, by omega, by omega, fun i j i0 ij j1 => ?_, fun i a b => by rw [oo i a b]; exact h3 i a b, fun i a b => ?_⟩
  · by_cases e : j = s
    · rw [e, os, oo i i0 (by omega)]
      intro z
      have := h3 i i0 (by omega)
      rw [z, hr] at this; omega
    · rw [oo i i0 (by omega), oo j (by omega) (by omega)]; exact h2 i j i0 ij (by omega)
  · rw [show i = s by omega, os]; exact ⟨r0, r1, hr, by rw [bit_shl hsn rfl r0 r0 (by omega)]⟩
theorem wti_step {or_zq or2 pt nr : Int → Int} {n sn sn_zq s en en_zq p k v w q x o : Int} (h : WTI n or_zq pt sn s en p k) (hk : k < en) (e24 : en < 24) (hc : PNC n nr pt) (hv : v = or_zq k) (w0 : 0 ≤ w) (w1 : w < n) (n24 : n ≤ 24) (hb : bit (nr v) w) (hn : ¬ bit sn w) (hs : st1 or_zq or2 q x) (hq : q = en) (hx : x = w) (ho : bvp o = bvp 1 <<< w.toNat) (hsn : bvp sn_zq = bvp sn ||| bvp o) (he : en_zq = en + 1) : WTI n or2 pt sn_zq s en_zq p k := by
  obtain ⟨h1, h2, h3, h4, h5, h6, h7⟩ := h
  have oe : or2 en = w := by rw [(hs en (by omega)).1 (by omega)]; exact hx
  have oo : ∀ i, 0 ≤ i → i < en → or2 i = or_zq i := fun i a b => (hs i a).2 (by omega)
  have vk := h7 k h3 hk
  rw [← hv] at vk
  have v1 : v < n := vk.2.1
  have pw : pt w = p := by rw [hc.1 v w vk.1 v1 w0 w1 hb]; exact vk.2.2.1
  refine ⟨h1, by omega, h3, by omega, fun i j i0 ij j1 => ?_, fun i a b => by rw [oo i a (by omega)]; exact h6 i a b, fun i a b => ?_⟩
  · by_cases e : j = en
    · rw [e, oe, oo i i0 (by omega)]
      intro z
      by_cases c : i < s
      · have := h6 i i0 c
        rw [z, pw] at this; omega
      · have := h7 i (by omega) (by omega)
        rw [z] at this; exact hn this.2.2.2
    · rw [oo i i0 (by omega), oo j (by omega) (by omega)]; exact h5 i j i0 ij (by omega)
  · by_cases e : i = en
    · rw [e, oe]; exact ⟨w0, w1, pw, (bit_or hsn w).mpr (Or.inr (by rw [bit_shl ho rfl w0 w0 (by omega)]))⟩
    · rw [oo i (by omega) (by omega)]
      have := h7 i a (by omega)
      exact ⟨this.1, this.2.1, this.2.2.1, (bit_or hsn _).mpr (Or.inl this.2.2.2)⟩
theorem wti_next {or_zq pt : Int → Int} {n sn s en p k k_zq : Int} (h : WTI n or_zq pt sn s en p k) (hk : k_zq = k + 1) : WTI n or_zq pt sn s en p k_zq := ⟨h.1, h.2.1, by have := h.2.2.1; omega, h.2.2.2⟩
theorem wta_of {or_zq pt : Int → Int} {n sn s en p k an : Int} (h : WTI n or_zq pt sn s en p k) (n24 : n ≤ 24) (ha : an = en) : WTA or_zq pt an p := by
  obtain ⟨h1, h2, h3, h4, h5, h6, h7⟩ := h
  subst ha
  refine ⟨by omega, h5, fun i a b => ?_⟩
  by_cases c : i < s
  · have := h6 i a c; omega
  · have := h7 i (by omega) b; omega
theorem wtb_start {or_zq pt : Int → Int} {s p : Int} (hs : s = 0) : WTB or_zq pt s p := ⟨by omega, fun i j a b c => by omega, fun i a b => by omega⟩
end
section
/-! tables of orders: how many, where they begin -/
def cof (n : Int) : Int := if n ≤ 1 then 1 else if n = 2 then 2 else if n = 3 then 6 else if n = 4 then 24 else if n = 5 then 120 else 720
def sof (n : Int) : Int := if n ≤ 1 then 0 else if n = 2 then 1 else if n = 3 then 3 else if n = 4 then 9 else if n = 5 then 33 else 153
def TBC (i v : Int) : Prop := v = cof i
def TBS (i v : Int) : Prop := v = sof i
theorem cof_rng (n : Int) : 1 ≤ cof n ∧ cof n ≤ 720 ∧ (n ≤ 5 → cof n ≤ 120) ∧ 0 ≤ sof n ∧ sof n + cof n ≤ 873 := by unfold cof sof; split <;> (try split) <;> (try split) <;> (try split) <;> (try split) <;> omega
/-- the digits of an order of so many are below it -/
def ORD (od : Int → Int) : Prop := ∀ n k i, 1 ≤ n → n ≤ 6 → 0 ≤ k → k < cof n → 0 ≤ i → i < n → od (sof n + k) / 8 ^ i.toNat % 8 < n
/-- an order's number is below how many there are -/
def KLT (ls : Int → Int) (l k : Int) : Prop := 0 ≤ k ∧ k < cof (ls (l + 1) - ls l)
theorem dig_shr {p s q d i three sv m : Int} (hs : bvp q = bvp p >>> s.toNat) (h3 : s = i * three) (ht : three = 3) (hd : bvp d = bvp q &&& bvp sv) (hv : sv = 7) (p0 : 0 ≤ p) (p1 : p ≤ 2147483647) (i0 : 0 ≤ i) (i1 : i < 6) (d0 : 0 ≤ d) (d1 : d ≤ 7) (_ : m = m) : d = p / 8 ^ i.toNat % 8 := by
  subst ht
  have tn : ∀ z : Int, 0 ≤ z → z ≤ 2147483647 → (bvp z).toNat = z.toNat := fun z z0 z1 => by
    unfold bvp; rw [BitVec.toNat_ofInt]
    show (z % 4294967296).toNat = z.toNat
    rw [Int.emod_eq_of_lt z0 (by omega)]
  have e1 : (bvp q).toNat = p.toNat / 2 ^ s.toNat := by
    rw [hs, BitVec.toNat_ushiftRight, tn p p0 p1, Nat.shiftRight_eq_div_pow]
  have e2 : (bvp d).toNat = (bvp q).toNat &&& 7 := by
    rw [hd, BitVec.toNat_and, hv]; rfl
  rw [tn d d0 (by omega), e1, show (7 : Nat) = 2 ^ 3 - 1 from rfl, Nat.and_two_pow_sub_one_eq_mod] at e2
  have hp : (2 : Nat) ^ s.toNat = 8 ^ i.toNat := by
    rw [show s.toNat = 3 * i.toNat by omega, Nat.pow_mul]
  rw [hp] at e2
  have : d = ((p.toNat / 8 ^ i.toNat % 2 ^ 3 : Nat) : Int) := by omega
  rw [this]
  push_cast
  rw [show ((p.toNat : Nat) : Int) = p by omega]
theorem ord_dig {od ls : Int → Int} {l k n f x p i d a b : Int} (h : ORD od) (hk : KLT ls l k) (ha : a = ls (l + 1)) (hb : b = ls l) (hn : n = a - b) (n1 : n ≤ 6) (hf : TBS n f) (hx : x = f + k) (hp : p = od x) (i0 : 0 ≤ i) (i1 : i < n) (hd : d = p / 8 ^ i.toNat % 8) : d < n := by
  have e : n = ls (l + 1) - ls l := by omega
  have := h n k i (by omega) n1 hk.1 (by rw [e]; exact hk.2) i0 i1
  rw [hd, hp, hx, hf]; exact this
end
section
/-! orders of a layer: digits, slots, pairs -/
def OPD (p n : Int) : Prop := 0 ≤ p ∧ ∀ i, 0 ≤ i → i < n → p / 8 ^ i.toNat % 8 < n
theorem ord_opd {od ls : Int → Int} {l k n f x p a b : Int} (h : ORD od) (hk : KLT ls l k) (hn : n = ls (l + 1) - ls l) (n1 : n ≤ 6) (hf : TBS n f) (hx : x = f + k) (hp : p = od x) (p0 : 0 ≤ p) (_ : a = b) : OPD p n := ⟨p0, fun i i0 i1 => by
  have := h n k i (by omega) n1 hk.1 (by rw [hn]; exact hk.2) i0 i1
  rw [hp, hx, hf]; exact this⟩
theorem opd_dig {p n s q d i sv : Int} (h : OPD p n) (n6 : n ≤ 6) (p1 : p ≤ 2147483647) (hs : bvp q = bvp p >>> s.toNat) (h3 : s = i * 3) (hd : bvp d = bvp q &&& bvp sv) (hv : sv = 7) (i0 : 0 ≤ i) (i1 : i < n) (d0 : 0 ≤ d) (d1 : d ≤ 7) : 0 ≤ d ∧ d < n := by
  have e := dig_shr (three := 3) (m := 0) hs h3 rfl hd hv h.1 p1 i0 (by omega) d0 d1 rfl
  have := h.2 i i0 i1
  omega
theorem klt_tbc {ls : Int → Int} {l k n v : Int} (hn : n = ls (l + 1) - ls l) (hv : TBC n v) (k0 : 0 ≤ k) (k1 : k < v) : KLT ls l k := by
  unfold KLT; rw [← hn, ← hv]; exact ⟨k0, k1⟩
theorem klt_zero {ls : Int → Int} {l k : Int} (hk : k = 0) : KLT ls l k := ⟨by omega, by have := (cof_rng (ls (l + 1) - ls l)).1; omega⟩
theorem klt_le {ls : Int → Int} {l k n f : Int} (h : KLT ls l k) (hn : n = ls (l + 1) - ls l) (hf : TBS n f) : 0 ≤ f + k ∧ f + k ≤ 872 := by
  have q := cof_rng n
  have h1 := h.1
  have h2 := h.2
  rw [← hn] at h2
  unfold TBS at hf
  omega
theorem tbc_le {n v : Int} (h : TBC n v) : 1 ≤ v ∧ v ≤ 720 ∧ (n ≤ 5 → v ≤ 120) := by
  have q := cof_rng n
  unfold TBC at h; omega
/-- slots of items -/
def SLT (it : Int) (sl : Int → Int) : Prop := ∀ i, 0 ≤ i → i < it → 0 ≤ sl i ∧ sl i ≤ 5
def SLA (it : Int) (lo sl : Int → Int) (wd l : Int) : Prop := ∀ i, 0 ≤ i → i < it → 0 ≤ lo i → lo i < l → 0 ≤ sl i ∧ sl i < wd
def SLB (it : Int) (lo sl ls : Int → Int) (wd l i ct : Int) : Prop := SLA it lo sl wd l ∧ 0 ≤ i ∧ ∀ j, 0 ≤ j → j < i → j < it → lo j = l → 0 ≤ sl j ∧ sl j < ct - ls l
def SLW (it lc : Int) (lo sl : Int → Int) (wd : Int) : Prop := (∀ i, 0 ≤ i → i < it → 0 ≤ lo i ∧ lo i < lc) → ∀ i, 0 ≤ i → i < it → 0 ≤ sl i ∧ sl i < wd
theorem sla_start {it wd l : Int} {lo sl : Int → Int} (hl : l = 0) : SLA it lo sl wd l := fun i a b c d => by omega
theorem slb_start {it wd l i ct : Int} {lo sl ls : Int → Int} (h : SLA it lo sl wd l) (hi : i = 0) : SLB it lo sl ls wd l i ct := ⟨h, by omega, fun j a b => by omega⟩
theorem slb_skip {it wd l i i_zq ct : Int} {lo sl ls : Int → Int} (h : SLB it lo sl ls wd l i ct) (hn : lo i ≠ l) (hi : i_zq = i + 1) : SLB it lo sl ls wd l i_zq ct := ⟨h.1, by have := h.2.1; omega, fun j a b c d => by
  by_cases e : j = i
  · rw [e] at d; exact absurd d hn
  · exact h.2.2 j a (by omega) c d⟩
theorem slb_take {it wd l i i_zq ct ct_zq p x : Int} {lo sl sl_zq ls : Int → Int} (h : SLB it lo sl ls wd l i ct) (he : lo i = l) (hs : st1 sl sl_zq p x) (hp : p = i) (hx : x = ct - ls l) (x0 : 0 ≤ x) (hi : i_zq = i + 1) (hc : ct_zq = ct + 1) : SLB it lo sl_zq ls wd l i_zq ct_zq := by
  obtain ⟨h1, h2, h3⟩ := h
  refine ⟨fun j a b c d => ?_, by omega, fun j a b c d => ?_⟩
  · rw [(hs j a).2 (fun e => by rw [e, hp, he] at d; omega)]; exact h1 j a b c d
  · by_cases e : j = i
    · rw [(hs j a).1 (by omega)]; omega
    · rw [(hs j a).2 (by omega)]; have := h3 j a (by omega) c d; omega
theorem sla_next {it wd wd_zq l l_zq i ct : Int} {lo sl ls : Int → Int} (h : SLB it lo sl ls wd l i ct) (hi : it ≤ i) (hl : l_zq = l + 1) (h1 : wd ≤ wd_zq) (h2 : ct - ls l ≤ wd_zq) : SLA it lo sl wd_zq l_zq := fun j a b c d => by
  by_cases e : lo j = l
  · have := h.2.2 j a (by omega) b e; omega
  · have := h.1 j a b c (by omega); omega
theorem slw_of {it lc wd l : Int} {lo sl : Int → Int} (h : SLA it lo sl wd l) (hl : lc ≤ l) : SLW it lc lo sl wd := fun q i a b => h i a b (q i a b).1 (by have := (q i a b).2; omega)
theorem slt_of {it lc wd n m : Int} {lo sl fj tl hd tu : Int → Int} (h : SLW it lc lo sl wd) (hm : MIT it lc n m lo fj tl hd tu) (hw : wd ≤ 6) : SLT it sl := fun i a b => by
  have := h hm.2.2.2.2.1 i a b; omega
theorem slt_pcl {it lc l i x y : Int} {sl pl ps : Int → Int} (h : SLT it sl) (hp : PCL it lc pl ps) (l0 : 0 ≤ l) (l1 : l + 2 ≤ lc) {e q : Int} (he : q = l + 1) (hq : e = ps q) (i0 : 0 ≤ i) (hi : i < e) (hx : x = pl i) (hy : y = sl x) : 0 ≤ y ∧ y ≤ 5 := by
  have r := (hp q (by omega) (by omega)).2 i i0 (by omega)
  rw [← hx] at r
  have := h x r.1 r.2
  rw [← hy] at this; exact this
/-! how many bits -/
theorem cnN_is {x : Int} (x0 : 0 ≤ x) (k : Nat) (hk : k ≤ 32) : cnb (bit x) k = (cnN x.toNat k : Int) := by
  induction k with
  | zero => rfl
  | succ k ih =>
    have i1 := ih (by omega)
    have e : bit x (k : Int) ↔ x.toNat.testBit k = true := by
      have := bit_nat (w := (k : Int)) x0 (by omega) (by omega)
      rw [Int.toNat_natCast] at this; exact this
    show _ = ((cnN x.toNat k + (if x.toNat.testBit k then 1 else 0) : Nat) : Int)
    by_cases q : bit x (k : Int)
    · rw [cnb_pos q, i1, if_pos (e.mp q)]; push_cast; omega
    · rw [cnb_neg q, i1, if_neg (fun z => q (e.mpr z))]; push_cast; omega
noncomputable def pc6 (x : Int) : Int := cnb (bit x) 6
def BC6 (x an : Int) : Prop := 0 ≤ x → x ≤ 63 → an = pc6 x
def BLe (k x : Int) : Prop := 0 ≤ x ∧ x ≤ 63 ∧ pc6 x ≤ k
def BL1 (x : Int) : Prop := BLe 1 x
def BL2 (x : Int) : Prop := BLe 2 x
def BL3 (x : Int) : Prop := BLe 3 x
def BL4 (x : Int) : Prop := BLe 4 x
def BL5 (x : Int) : Prop := BLe 5 x
def BL6 (x : Int) : Prop := BLe 6 x
theorem bl6_all {x : Int} (x0 : 0 ≤ x) (x1 : x ≤ 63) : BLe 6 x := ⟨x0, x1, by have := (cnb_le (bit x) 6).2; unfold pc6; omega⟩
/-- one taken out -/
theorem ble_del {k k_zq x q r y m1 a : Int} (h : BLe k x) (a0 : 0 ≤ a) (a1 : a < 6) (hb : bit x a) (hq : bvp q = bvp 1 <<< a.toNat) (hr : bvp r = bvp q ^^^ bvp m1) (hm : m1 = -1) (hy : bvp y = bvp x &&& bvp r) (y0 : 0 ≤ y) (y1 : y ≤ 63) (hk : k_zq = k - 1) : BLe k_zq y := by
  have by_zq : ∀ w, 0 ≤ w → w < 32 → (bit y w ↔ bit x w ∧ w ≠ a) := fun w a_zq b_zq => by rw [bit_and hy, bit_xor hr hm a_zq b_zq, bit_shl hq rfl a0 a_zq b_zq]
  have c := cnb_more (P := bit y) (Q := bit x) 6 (fun j j0 j1 z => ((by_zq j j0 (by omega)).mp z).1) a0 (by omega) (fun z => ((by_zq a a0 (by omega)).mp z).2 rfl) hb
  refine ⟨y0, y1, ?_⟩
  have := h.2.2
  unfold pc6 at *; omega
/-- places of orders while bits are gone through -/
def SKe (C x a nx fs : Int) : Prop := 0 ≤ a ∧ a ≤ 6 ∧ fs ≤ nx ∧ nx ≤ fs + C * cnb (bit x) a.toNat
theorem ske_start {C x a nx fs : Int} (ha : a = 0) (hn : nx = fs) : SKe C x a nx fs := by
  subst ha
  exact ⟨by omega, by omega, by omega, by rw [show (0 : Int).toNat = 0 from rfl]; show nx ≤ fs + C * 0; omega⟩
theorem cnb_up {P : Int → Prop} {a b : Nat} (h : a ≤ b) : cnb P a ≤ cnb P b := by
  induction b with
  | zero => rw [show a = 0 by omega]; exact Int.le_refl _
  | succ b ih =>
    by_cases e : a = b + 1
    · rw [e]; exact Int.le_refl _
    · have := ih (by omega)
      by_cases q : P (b : Int)
      · rw [cnb_pos q]; omega
      · rw [cnb_neg q]; omega
theorem ske_skip {C x a a_zq nx fs : Int} (h : SKe C x a nx fs) (a5 : a < 6) (c0 : 0 ≤ C) (ha : a_zq = a + 1) : SKe C x a_zq nx fs := by
  obtain ⟨h1, h2, h3, h4⟩ := h
  refine ⟨by omega, by omega, h3, ?_⟩
  have := cnb_up (P := bit x) (a := a.toNat) (b := a_zq.toNat) (by omega)
  have := Int.mul_le_mul_of_nonneg_left this c0
  omega
theorem ske_step {C x a a_zq nx nx_zq fs v : Int} (h : SKe C x a nx fs) (a5 : a < 6) (hb : bit x a) (hv : v ≤ C) (v0 : 0 ≤ v) (hn : nx_zq = nx + v) (ha : a_zq = a + 1) : SKe C x a_zq nx_zq fs := by
  obtain ⟨h1, h2, h3, h4⟩ := h
  refine ⟨by omega, by omega, by omega, ?_⟩
  have e : cnb (bit x) a_zq.toNat = cnb (bit x) a.toNat + 1 := by
    rw [show a_zq.toNat = a.toNat + 1 by omega]
    exact cnb_pos (by rw [show ((a.toNat : Nat) : Int) = a by omega]; exact hb)
  rw [e, Int.mul_add, Int.mul_one]; omega
theorem ske_room {C x a nx fs k : Int} (h : SKe C x a nx fs) (hl : BLe k x) (a5 : a < 6) (hb : bit x a) (c0 : 0 ≤ C) : fs ≤ nx ∧ nx ≤ fs + C * (k - 1) := by
  obtain ⟨h1, h2, h3, h4⟩ := h
  have e : cnb (bit x) (a.toNat + 1) = cnb (bit x) a.toNat + 1 := cnb_pos (by rw [show ((a.toNat : Nat) : Int) = a by omega]; exact hb)
  have u := cnb_up (P := bit x) (a := a.toNat + 1) (b := 6) (by omega)
  have q := hl.2.2
  unfold pc6 at q
  have := Int.mul_le_mul_of_nonneg_left (show cnb (bit x) a.toNat ≤ k - 1 by omega) c0
  exact ⟨h3, by omega⟩
theorem cof_mono {a b : Int} (h : a ≤ b) : cof a ≤ cof b := by unfold cof; repeat' split <;> omega
theorem bc6_of {x an : Int} (h : BCT x an) (x0 : 0 ≤ x) (x1 : x ≤ 63) : an = pc6 x := by
  rw [h.2 x0 x1]; unfold pc6; rw [cnN_is x0 6 (by omega)]
def SK2 (x a nx fs : Int) : Prop := SKe 1 x a nx fs
def SK3 (x a nx fs : Int) : Prop := SKe 2 x a nx fs
def SK4 (x a nx fs : Int) : Prop := SKe 6 x a nx fs
def SK5 (x a nx fs : Int) : Prop := SKe 24 x a nx fs
def SK6 (x a nx fs : Int) : Prop := SKe 120 x a nx fs
def SK1 (x a nx fs : Int) : Prop := SKe 1 x a nx fs
def PQ6 (x an : Int) : Prop := an = pc6 x
def BBT (x a : Int) : Prop := bit x a
def CTQ (ls : Int → Int) (l c : Int) : Prop := c = cof (ls (l + 1) - ls l)
def KL0 (ls : Int → Int) (k : Int) : Prop := KLT ls 0 k
def CT0 (ls : Int → Int) (k : Int) : Prop := -1 ≤ k ∧ k < cof (ls 1 - ls 0)
end
