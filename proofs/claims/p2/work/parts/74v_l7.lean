/-! layers: the costs of the edges, the layers of the nodes -/
def FRO (r : Int) (A tu : Int → Int) (e z : Int) : Prop := z = frT r A tu e
def TOO (r : Int) (A tu : Int → Int) (e z : Int) : Prop := z = toT r A tu e
def LCP (r cm am : Int) (A tu cA cB cW PL aA aB aD : Int → Int) : Prop := (∀ j, 0 ≤ j → j < cm → cA j = frT r A tu j ∧ cB j = toT r A tu j ∧ PL j ≠ 0 ∧ 0 ≤ cW j ∧ cW j ≤ 72) ∧ ∀ j, 0 ≤ j → j < am → aA j = frT r A tu j ∧ aB j = toT r A tu j ∧ aD j = 1
theorem lcp_zero {r cm am : Int} {A tu cA cB cW PL aA aB aD : Int → Int} (h : cm ≤ 0) (h' : am ≤ 0) : LCP r cm am A tu cA cB cW PL aA aB aD := ⟨fun j a b => by omega, fun j a b => by omega⟩
theorem lcp_cost {r cm cm' am e a b w pl q1 q2 q3 q4 : Int} {A tu cA cA' cB cB' cW cW' PL PL' aA aB aD : Int → Int} (h : LCP r cm am A tu cA cB cW PL aA aB aD) (c0 : 0 ≤ cm) (hc : cm' = cm + 1) (ha : FRO r A tu e a) (hb : TOO r A tu e b) (he : e = cm) (w0 : 0 ≤ w) (w1 : w ≤ 72) (hp : pl ≠ 0) (s1 : st1 cA cA' q1 a) (s2 : st1 cB cB' q2 b) (s3 : st1 cW cW' q3 w) (s4 : st1 PL PL' q4 pl) (e1 : q1 = cm) (e2 : q2 = cm) (e3 : q3 = cm) (e4 : q4 = cm) : LCP r cm' am A tu cA' cB' cW' PL' aA aB aD := by
  refine ⟨fun j x y => ?_, h.2⟩
  by_cases z : j = cm
  · subst z
    rw [(s1 j x).1 e1.symm, (s2 j x).1 e2.symm, (s3 j x).1 e3.symm, (s4 j x).1 e4.symm, ha, hb, he]
    exact ⟨rfl, rfl, hp, w0, w1⟩
  · rw [(s1 j x).2 (by omega), (s2 j x).2 (by omega), (s3 j x).2 (by omega), (s4 j x).2 (by omega)]
    exact h.1 j x (by omega)
theorem lcp_apart {r cm am am' e a b d q1 q2 q3 : Int} {A tu cA cB cW PL aA aA' aB aB' aD aD' : Int → Int} (h : LCP r cm am A tu cA cB cW PL aA aB aD) (c0 : 0 ≤ am) (hc : am' = am + 1) (ha : FRO r A tu e a) (hb : TOO r A tu e b) (he : e = am) (hd : d = 1) (s1 : st1 aA aA' q1 a) (s2 : st1 aB aB' q2 b) (s3 : st1 aD aD' q3 d) (e1 : q1 = am) (e2 : q2 = am) (e3 : q3 = am) : LCP r cm am' A tu cA cB cW PL aA' aB' aD' := by
  refine ⟨h.1, fun j x y => ?_⟩
  by_cases z : j = am
  · subst z
    rw [(s1 j x).1 e1.symm, (s2 j x).1 e2.symm, (s3 j x).1 e3.symm, ha, hb, he]
    exact ⟨rfl, rfl, hd⟩
  · rw [(s1 j x).2 (by omega), (s2 j x).2 (by omega), (s3 j x).2 (by omega)]
    exact h.2 j x (by omega)
theorem ft_bd {r e : Int} {A tu : Int → Int} (h : SG A r) (e0 : 0 ≤ e) (e1 : e < A (r + 1)) : (0 ≤ frT r A tu e ∧ frT r A tu e < A r) ∧ 0 ≤ toT r A tu e ∧ toT r A tu e < A r := by
  have s := sg_ends h e0 e1
  unfold frT toT
  split <;> omega
theorem lcp_pbr {r p cm am : Int} {A tu cA cB cW PL aA aB aD : Int → Int} (h : LCP r cm am A tu cA cB cW PL aA aB aD) (ht : TRK r A tu) (hp : p = A r) (hc : cm = A (r + 1)) (ha : am = A (r + 1)) : PBR p cm am cA cB cW PL aA aB aD := by
  have n := ht.1.1
  subst hp hc ha
  refine ⟨⟨by omega, fun k a b => ?_, fun k a b => ?_⟩, ?_, fun k a b _ => ⟨k, a, b, ?_, ?_⟩⟩
  · obtain ⟨h1, h2, h3, h4, h5⟩ := h.1 k a b
    have f := ft_bd (tu := tu) ht.1 a b
    rw [h1, h2]; exact ⟨f.1, f.2, h4, h5⟩
  · obtain ⟨h1, h2, h3⟩ := h.2 k a b
    have f := ft_bd (tu := tu) ht.1 a b
    rw [h1, h2, h3]; exact ⟨f.1, f.2, by omega, by omega⟩
  · obtain ⟨rk, r1, r2⟩ := trk_rk ht
    refine ⟨rk, fun i a b => by have := r1 i a b; omega, fun k a b => ?_⟩
    obtain ⟨h1, h2, h3⟩ := h.2 k a b
    rw [h1, h2]; exact r2 k a b
  · rw [(h.2 k a b).1, (h.1 k a b).1]
  · rw [(h.2 k a b).2.1, (h.1 k a b).2.1]
/-- layers of nodes, each with a node -/
def LYP (r : Int) (A tu y : Int → Int) : Prop := SG A r ∧ (∀ i, 0 ≤ i → i < A r → 0 ≤ y i ∧ y i ≤ 23) ∧ ∀ e, 0 ≤ e → e < A (r + 1) → y (frT r A tu e) + 1 ≤ y (toT r A tu e)
theorem lev_full {r p cm am : Int} {A tu y cA cB cW PL aA aB aD : Int → Int} (h : LCP r cm am A tu cA cB cW PL aA aB aD) (hR : RIP p cm am y cA cB cW PL aA aB aD) (hg : SG A r) (hp : p = A r) (hc : cm = A (r + 1)) (ha : am = A (r + 1)) : ∀ l i, 0 ≤ i → i < p → 0 ≤ l → l ≤ y i → ∃ j, 0 ≤ j ∧ j < p ∧ y j = l := by
  obtain ⟨hP, hf, hn, hM, hcs, hL⟩ := hR
  intro l i i0 i1 l0 l1
  refine Classical.byContradiction (fun no => ?_)
  have nl : ∀ j, 0 ≤ j → j < p → y j ≠ l := fun j a b e => no ⟨j, a, b, e⟩
  -- everybody above l goes down by one
  have allp : ∀ k, 0 ≤ k → k < cm → PL k ≠ 0 := fun k a b => (h.1 k a b).2.2.1
  have q := hL allp (fun j => if l < y j then y j - 1 else y j) (fun k a b => by
    obtain ⟨h1, h2, h3⟩ := h.2 k a b
    have f := hf k a b
    have bd := hP.1.2.2 k a b
    have n1 := nl _ bd.1.1 bd.1.2
    have n2 := nl _ bd.2.1.1 bd.2.1.2
    (try simp only [])
    rw [h3] at f ⊢
    by_cases z : l < y (aA k)
    · rw [if_pos z, if_pos (by omega)]; omega
    · rw [if_neg z]; split <;> omega) (fun j a b => by
    have := hn j a b
    (try simp only [])
    split <;> omega) (by
    rw [kst_plain allp, kst_plain allp]
    refine sm_mono (fun k a b => ?_)
    have bd := hP.1.2.1 k a b
    have pl := pl_lt hP hf a b (allp k a b)
    have n1 := nl _ bd.1.1 bd.1.2
    have n2 := nl _ bd.2.1.1 bd.2.1.2
    (try simp only [])
    refine Int.mul_le_mul_of_nonneg_left ?_ bd.2.2.1
    by_cases z : l < y (cA k)
    · rw [if_pos z, if_pos (by omega)]; omega
    · rw [if_neg z]; split <;> omega) i i0 i1
  (try simp only [] at q)
  have := nl i i0 i1
  rw [if_pos (by omega)] at q
  omega
theorem lyp_of {r p cm am : Int} {A tu y cA cB cW PL aA aB aD : Int → Int} (h : LCP r cm am A tu cA cB cW PL aA aB aD) (hR : RIP p cm am y cA cB cW PL aA aB aD) (hg : SG A r) (hp : p = A r) (hc : cm = A (r + 1)) (ha : am = A (r + 1)) : LYP r A tu y := by
  have lf := lev_full h hR hg hp hc ha
  obtain ⟨hP, hf, hn, hM, hcs, hL⟩ := hR
  have n24 := hg.1
  refine ⟨hg, fun i a b => ⟨hn i a (by omega), ?_⟩, fun e a b => ?_⟩
  · -- levels 0 .. y i have nodes of their own
    refine Classical.byContradiction (fun big => ?_)
    have ex : ∀ l, ∃ j, 0 ≤ l → l ≤ y i → (0 ≤ j ∧ j < p ∧ y j = l) := fun l => by
      by_cases z : 0 ≤ l ∧ l ≤ y i
      · obtain ⟨j, j0, j1, j2⟩ := lf l i a (by omega) z.1 z.2
        exact ⟨j, fun _ _ => ⟨j0, j1, j2⟩⟩
      · exact ⟨0, fun x w => absurd ⟨x, w⟩ z⟩
    have := pigeon (q := fun l => Classical.choose (ex l)) (n := p) (m := 25) (by omega) (fun l l0 l1 => by
      have := Classical.choose_spec (ex l) l0 (by omega)
      exact ⟨this.1, this.2.1⟩) (fun l l' l0 ll l1 e => by
      have q1 := (Classical.choose_spec (ex l) l0 (by omega)).2.2
      have q2 := (Classical.choose_spec (ex l') (by omega) (by omega)).2.2
      (try simp only [] at e)
      rw [e] at q1
      omega)
    omega
  · obtain ⟨h1, h2, h3⟩ := h.2 e a (by omega)
    have := hf e a (by omega)
    rw [h1, h2, h3] at this
    exact this
def ILE (il y : Int → Int) (i : Int) : Prop := ∀ j, 0 ≤ j → j < i → il j = y j
theorem ile_step {il il' y : Int → Int} {i i' p v : Int} (h : ILE il y i) (hi : i' = i + 1) (hs : st1 il il' p v) (hp : p = i) (hv : v = y i) : ILE il' y i' := by
  intro x a b
  by_cases e : x = i
  · rw [(hs x a).1 (by omega), hv, e]
  · rw [(hs x a).2 (by omega)]; exact h x a (by omega)
def jn (r : Int) (A tu y : Int → Int) (e : Int) : Int := y (toT r A tu e) - y (frT r A tu e) - 1
def JNT (r : Int) (A tu y : Int → Int) (e j : Int) : Prop := j = sm (jn r A tu y) e
theorem jnt_zero {r : Int} {A tu y : Int → Int} {e j : Int} (he : e = 0) (hj : j = 0) : JNT r A tu y e j := by
  unfold JNT; rw [sm_zero (by omega)]; exact hj
theorem jnt_step {r : Int} {A tu y : Int → Int} {e e' j j' a b ya yb d : Int} (h : JNT r A tu y e j) (e0 : 0 ≤ e) (he : e' = e + 1) (hb : TOO r A tu e b) (hyb : yb = y b) (ha : FRO r A tu e a) (hya : ya = y a) (hd : d = yb - ya) (hj : j' = j + (d - 1)) : JNT r A tu y e' j' := by
  unfold JNT at h ⊢
  rw [sm_succ e0 he, ← h]
  unfold jn
  rw [← hb, ← ha, ← hyb, ← hya]; omega
def LYJ (r : Int) (A tu y : Int → Int) : Prop := LYP r A tu y ∧ A r + sm (jn r A tu y) (A (r + 1)) ≤ 72
theorem lyp_il {r : Int} {A tu y il : Int → Int} {i : Int} (h : LYP r A tu y) (hi : ILE il y i) (hn : A r ≤ i) : LYP r A tu il := by
  have e : ∀ j, 0 ≤ j → j < A r → il j = y j := fun j a b => hi j a (by omega)
  refine ⟨h.1, fun j a b => by rw [e j a b]; exact h.2.1 j a b, fun k a b => ?_⟩
  have f := ft_bd (tu := tu) h.1 a b
  rw [e _ f.1.1 f.1.2, e _ f.2.1 f.2.2]
  exact h.2.2 k a b
theorem lyj_of {r : Int} {A tu y il : Int → Int} {i e j : Int} (h : LYP r A tu y) (hi : ILE il y i) (hn : A r ≤ i) (hj : JNT r A tu y e j) (he : e = A (r + 1)) (h72 : A r + j ≤ 72) : LYJ r A tu il := by
  refine ⟨lyp_il h hi hn, ?_⟩
  have : sm (jn r A tu il) (A (r + 1)) = j := by
    rw [hj, he]
    refine sm_congr (fun k a b => ?_)
    have f := ft_bd (tu := tu) h.1 a b
    unfold jn
    rw [hi _ f.1.1 (by omega), hi _ f.2.1 (by omega)]
  omega
theorem jn_bd {r e : Int} {A tu y : Int → Int} (h : LYP r A tu y) (e0 : 0 ≤ e) (e1 : e < A (r + 1)) : 0 ≤ jn r A tu y e ∧ jn r A tu y e ≤ 22 := by
  have f := ft_bd (tu := tu) h.1 e0 e1
  have := h.2.2 e e0 e1
  have := h.2.1 _ f.1.1 f.1.2
  have := h.2.1 _ f.2.1 f.2.2
  unfold jn; omega
