/-! flows: sums, a cut's weight, a push along a way -/
theorem sm_zero {f : Int → Int} {n : Int} (h : n ≤ 0) : sm f n = 0 := by
  rw [sm_is, show n.toNat = 0 by omega]; rfl
theorem sm_succ {f : Int → Int} {n m : Int} (h : 0 ≤ n) (hm : m = n + 1) : sm f m = sm f n + f n := by
  rw [sm_is, sm_is, hm, show (n + 1).toNat = n.toNat + 1 by omega]
  show smN f n.toNat + f ((n.toNat : Nat) : Int) = _
  rw [show ((n.toNat : Nat) : Int) = n by omega]
theorem sm_ind {P : Int → Prop} (h0 : P 0) (hs : ∀ n, 0 ≤ n → P n → P (n + 1)) : ∀ n, 0 ≤ n → P n := by
  intro n hn
  have : ∀ k : Nat, P (k : Int) := fun k => by
    induction k with
    | zero => exact h0
    | succ k ih => rw [show ((k + 1 : Nat) : Int) = (k : Int) + 1 by omega]; exact hs k (by omega) ih
  have := this n.toNat
  rwa [show ((n.toNat : Nat) : Int) = n by omega] at this
theorem sm_congr {f g : Int → Int} {n : Int} (h : ∀ j, 0 ≤ j → j < n → f j = g j) : sm f n = sm g n := by
  by_cases hn : n ≤ 0
  · rw [sm_zero hn, sm_zero hn]
  · have := sm_ind (P := fun k => k ≤ n → sm f k = sm g k) (fun _ => by rw [sm_zero (by omega), sm_zero (by omega)]) (fun k k0 ih hk => by
      rw [sm_succ k0 rfl, sm_succ k0 rfl, ih (by omega), h k k0 (by omega)]) n (by omega)
    exact this (by omega)
theorem sm_add2 {f g k : Int → Int} {n : Int} (h : ∀ j, 0 ≤ j → j < n → k j = f j + g j) : sm k n = sm f n + sm g n := by
  by_cases hn : n ≤ 0
  · rw [sm_zero hn, sm_zero hn, sm_zero hn]; rfl
  · have := sm_ind (P := fun q => q ≤ n → sm k q = sm f q + sm g q) (fun _ => by rw [sm_zero (by omega), sm_zero (by omega), sm_zero (by omega)]; rfl) (fun q q0 ih hq => by
      have := h q q0 (by omega)
      have := ih (by omega)
      rw [sm_succ q0 rfl, sm_succ q0 rfl, sm_succ q0 rfl]; omega) n (by omega)
    exact this (by omega)
theorem sm_mul {f k : Int → Int} {n c : Int} (h : ∀ j, 0 ≤ j → j < n → k j = c * f j) : sm k n = c * sm f n := by
  by_cases hn : n ≤ 0
  · rw [sm_zero hn, sm_zero hn]; simp
  · have := sm_ind (P := fun q => q ≤ n → sm k q = c * sm f q) (fun _ => by rw [sm_zero (by omega), sm_zero (by omega)]; simp) (fun q q0 ih hq => by
      rw [sm_succ q0 rfl, sm_succ q0 rfl, ih (by omega), h q q0 (by omega), Int.mul_add]) n (by omega)
    exact this (by omega)
theorem sm_mono {f g : Int → Int} {n : Int} (h : ∀ j, 0 ≤ j → j < n → f j ≤ g j) : sm f n ≤ sm g n := by
  rw [sm_is, sm_is]; exact sm_le n.toNat (fun j a b => h j a (by omega))
theorem sm_nil {f : Int → Int} {n : Int} (h : ∀ j, 0 ≤ j → j < n → f j = 0) : sm f n = 0 := by
  have := sm_mul (f := f) (k := f) (n := n) (c := 0) (fun j a b => by rw [h j a b]; simp)
  omega
theorem sm_nn {f : Int → Int} {n : Int} (h : ∀ j, 0 ≤ j → j < n → 0 ≤ f j) : 0 ≤ sm f n := by
  have := sm_mono (f := fun _ => 0) (g := f) (n := n) h
  rw [sm_nil (f := fun _ => 0) (fun _ _ _ => rfl)] at this; exact this
theorem sm_pt {f g : Int → Int} {n p : Int} (p0 : 0 ≤ p) (p1 : p < n) (h : ∀ j, 0 ≤ j → j < n → j ≠ p → g j = f j) : sm g n = sm f n + (g p - f p) := by
  have := sm_ind (P := fun q => q ≤ n → sm g q = sm f q + (if p < q then g p - f p else 0)) (fun _ => by rw [sm_zero (by omega), sm_zero (by omega), if_neg (by omega)]; rfl) (fun q q0 ih hq => by
      have i1 := ih (by omega)
      rw [sm_succ q0 rfl, sm_succ q0 rfl]
      by_cases e : q = p
      · subst e; rw [if_neg (by omega)] at i1; rw [if_pos (by omega)]; omega
      · have := h q q0 (by omega) e
        by_cases l : p < q
        · rw [if_pos l] at i1; rw [if_pos (by omega)]; omega
        · rw [if_neg l] at i1; rw [if_neg (by omega)]; omega) n (by omega) (by omega)
  rw [if_pos p1] at this; exact this
theorem sm_one {f : Int → Int} {n p : Int} (p0 : 0 ≤ p) (p1 : p < n) (h : ∀ j, 0 ≤ j → j < n → 0 ≤ f j) : f p ≤ sm f n := by
  have h1 := sm_pt (f := fun j => if j = p then 0 else f j) (g := f) p0 p1 (fun j _ _ e => by rw [if_neg e])
  have h2 := sm_nn (f := fun j => if j = p then 0 else f j) (n := n) (fun j a b => by
    show 0 ≤ if j = p then 0 else f j
    split
    · omega
    · exact h j a b)
  simp only [if_pos] at h1
  omega
/-- the cells of a table of n rows -/
theorem tb_ix {n i j q : Int} (hq : q = n * i + j) (i0 : 0 ≤ i) (i1 : i < n) (j0 : 0 ≤ j) (j1 : j < n) : q / n = i ∧ q % n = j ∧ 0 ≤ q ∧ q < n * n := by
  have h1 : q / n = i := by rw [hq, Int.mul_comm, Int.add_comm, Int.add_mul_ediv_right _ _ (by omega), Int.ediv_eq_zero_of_lt j0 j1]; omega
  have h2 : q % n = j := by rw [hq, Int.add_comm, Int.add_mul_emod_self_left, Int.emod_eq_of_lt j0 j1]
  have h3 : 0 ≤ n * i := Int.mul_nonneg (by omega) i0
  have h4 : n * (i + 1) ≤ n * n := Int.mul_le_mul_of_nonneg_left (by omega) (by omega)
  rw [Int.mul_add, Int.mul_one] at h4
  exact ⟨h1, h2, by omega, by omega⟩
theorem tb_ne {n i j i' j' : Int} (i0 : 0 ≤ i) (i1 : i < n) (j0 : 0 ≤ j) (j1 : j < n) (i0' : 0 ≤ i') (i1' : i' < n) (j0' : 0 ≤ j') (j1' : j' < n) (h : n * i + j = n * i' + j') : i = i' ∧ j = j' := by
  have h1 := tb_ix (q := n * i + j) rfl i0 i1 j0 j1
  have h2 := tb_ix (q := n * i + j) h i0' i1' j0' j1'
  omega
theorem tb_of {n q : Int} (q0 : 0 ≤ q) (q1 : q < n * n) (n0 : 0 ≤ n) : 0 ≤ q / n ∧ q / n < n ∧ 0 ≤ q % n ∧ q % n < n ∧ q = n * (q / n) + q % n := by
  have hn : 0 < n := by
    by_cases z : n = 0
    · subst z; omega
    · omega
  refine ⟨Int.ediv_nonneg q0 n0, Int.ediv_lt_of_lt_mul hn q1, Int.emod_nonneg q (by omega), Int.emod_lt_of_pos q hn, ?_⟩
  have := Int.mul_ediv_add_emod q n
  omega
def cfc (n : Int) (u : Int → Int) (q : Int) : Int := u (q / n) * (1 - u (q % n))
noncomputable def XF (F : Int → Int) (n : Int) (u : Int → Int) : Int := sm (fun q => F q * cfc n u q) (n * n)
def uS (s : Int) (i : Int) : Int := if i = s then 1 else 0
def ind (u : Int → Int) (n s t : Int) : Prop := (∀ i, 0 ≤ i → i < n → u i = 0 ∨ u i = 1) ∧ u s = 1 ∧ u t = 0
theorem ind_uS {n s t : Int} (h : s ≠ t) : ind (uS s) n s t := by
  refine ⟨fun i _ _ => ?_, by simp [uS], by simp [uS]; omega⟩
  unfold uS; split <;> simp
theorem xf_st {F F' : Int → Int} {n q v i j : Int} (u : Int → Int) (hs : st1 F F' q v) (hq : q = n * i + j) (i0 : 0 ≤ i) (i1 : i < n) (j0 : 0 ≤ j) (j1 : j < n) : XF F' n u = XF F n u + (v - F q) * (u i * (1 - u j)) := by
  obtain ⟨h1, h2, h3, h4⟩ := tb_ix hq i0 i1 j0 j1
  unfold XF
  rw [sm_pt (f := fun q => F q * cfc n u q) h3 h4 (fun x x0 _ e => by (try simp only []); rw [(hs x x0).2 e])]
  (try simp only [])
  rw [(hs q h3).1 rfl, show cfc n u q = u i * (1 - u j) by unfold cfc; rw [h1, h2], Int.sub_mul]
theorem cfc_01 {n q : Int} {u : Int → Int} {s t : Int} (hu : ind u n s t) (q0 : 0 ≤ q) (q1 : q < n * n) (n0 : 0 ≤ n) : cfc n u q = 0 ∨ cfc n u q = 1 := by
  obtain ⟨a, b, c, d, e⟩ := tb_of q0 q1 n0
  unfold cfc
  rcases hu.1 _ a b with x | x <;> rcases hu.1 _ c d with y | y <;> rw [x, y] <;> simp
theorem xf_nn {F : Int → Int} {n s t : Int} {u : Int → Int} (hu : ind u n s t) (n0 : 0 ≤ n) (h : ∀ q, 0 ≤ q → q < n * n → 0 ≤ F q) : 0 ≤ XF F n u :=
  sm_nn (fun q a b => by
    rcases cfc_01 hu a b n0 with x | x <;> (try simp only []) <;> rw [x]
    · simp
    · have := h q a b; omega)
theorem xf_ge {F : Int → Int} {n s t i j : Int} {u : Int → Int} (hu : ind u n s t) (h : ∀ q, 0 ≤ q → q < n * n → 0 ≤ F q) (i0 : 0 ≤ i) (i1 : i < n) (j0 : 0 ≤ j) (j1 : j < n) (ui : u i = 1) (uj : u j = 0) : F (n * i + j) ≤ XF F n u := by
  obtain ⟨h1, h2, h3, h4⟩ := tb_ix (q := n * i + j) rfl i0 i1 j0 j1
  have := sm_one (f := fun q => F q * cfc n u q) h3 h4 (fun q a b => by
    rcases cfc_01 hu a b (by omega) with x | x <;> (try simp only []) <;> rw [x]
    · simp
    · have := h q a b; omega)
  (try simp only [] at this)
  rw [show cfc n u (n * i + j) = 1 by unfold cfc; rw [h1, h2, ui, uj]; rfl] at this
  unfold XF; omega
theorem xf_z {F : Int → Int} {n s t : Int} {u : Int → Int} (hu : ind u n s t) (n0 : 0 ≤ n) (h : ∀ i j, 0 ≤ i → i < n → 0 ≤ j → j < n → u i = 1 → u j = 0 → F (n * i + j) = 0) : XF F n u = 0 :=
  sm_nil (fun q a b => by
    obtain ⟨c1, c2, c3, c4, c5⟩ := tb_of a b n0
    (try simp only [])
    rcases hu.1 _ c1 c2 with x | x
    · unfold cfc; rw [x]; simp
    · rcases hu.1 _ c3 c4 with y | y
      · have := h _ _ c1 c2 c3 c4 x y; rw [← c5] at this; rw [this]; simp
      · unfold cfc; rw [y]; simp)
/-- how a cost rises where u rises -/
def edg (y : Int → Int) (pl a b : Int) (u : Int → Int) : Int := if pl ≠ 0 ∨ y a < y b then u b - u a else if y b < y a then u a - u b else if u a = u b then 0 else 1
noncomputable def slp (m : Int) (A B W PL y u : Int → Int) : Int := sm (fun k => W k * edg y (PL k) (A k) (B k) u) m
noncomputable def vio (m : Int) (A B D y u : Int → Int) : Int := sm (fun k => if y (B k) - y (A k) = D k then u (A k) * (1 - u (B k)) else 0) m
noncomputable def KK (cm am : Int) (y cA cB cW PL aA aB aD u : Int → Int) : Int := slp cm cA cB cW PL y u + 1000000 * vio am aA aB aD y u
/-- costs and distances are between points -/
def PBK (p cm am : Int) (cA cB cW PL aA aB aD : Int → Int) : Prop := (0 ≤ p ∧ p ≤ 76 ∧ 0 ≤ cm ∧ cm ≤ 200 ∧ 0 ≤ am ∧ am ≤ 200) ∧ (∀ k, 0 ≤ k → k < cm → (0 ≤ cA k ∧ cA k < p) ∧ (0 ≤ cB k ∧ cB k < p) ∧ 0 ≤ cW k ∧ cW k ≤ 72) ∧ ∀ k, 0 ≤ k → k < am → (0 ≤ aA k ∧ aA k < p) ∧ (0 ≤ aB k ∧ aB k < p) ∧ 1 ≤ aD k ∧ aD k ≤ 202
def FLO (p cm am : Int) (F y cA cB cW PL aA aB aD : Int → Int) : Prop := PBK p cm am cA cB cW PL aA aB aD ∧ (∀ i j, 0 ≤ i → i < p + 2 → 0 ≤ j → j < p + 2 → 0 ≤ F ((p + 2) * i + j) ∧ F ((p + 2) * i + j) + F ((p + 2) * j + i) ≤ 410000000) ∧ ∀ u, ind u (p + 2) p (p + 1) → XF F (p + 2) u - XF F (p + 2) (uS p) = KK cm am y cA cB cW PL aA aB aD u
def XLE (p : Int) (F : Int → Int) (g : Int) : Prop := XF F (p + 2) (uS p) ≤ g
def XLA (p : Int) (F : Int → Int) (a g : Int) : Prop := a ≠ 0 → XF F (p + 2) (uS p) ≤ g - 1
theorem flo_q {p cm am : Int} {F y cA cB cW PL aA aB aD : Int → Int} (h : FLO p cm am F y cA cB cW PL aA aB aD) : ∀ q, 0 ≤ q → q < (p + 2) * (p + 2) → 0 ≤ F q := fun q a b => by
  obtain ⟨c1, c2, c3, c4, c5⟩ := tb_of a b (by have := h.1.1; omega)
  have := (h.2.1 _ _ c1 c2 c3 c4).1
  rwa [← c5] at this
