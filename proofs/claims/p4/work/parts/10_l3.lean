/-! up: the table of a cut, the least set that gains -/
def UZ0 (F : Int → Int) (i : Int) : Prop := ∀ q, 0 ≤ q → q < i → F q = 0
theorem uz0_step {F F' : Int → Int} {i i' p v : Int} (h : UZ0 F i) (hi : i' = i + 1) (hs : st1 F F' p v) (hp : p = i) (hv : v = 0) : UZ0 F' i' := by
  intro x a b
  by_cases e : x = p
  · rw [(hs x a).1 e, hv]
  · rw [(hs x a).2 e]; exact h x a (by omega)
def UPC (p cm am : Int) (F g y cA cB cW PL aA aB aD : Int → Int) (k : Int) : Prop := PBK p cm am cA cB cW PL aA aB aD ∧ (∀ q, 0 ≤ q → q < (p + 2) * (p + 2) → 0 ≤ F q ∧ F q ≤ 144 * k) ∧ (∀ j, 0 ≤ j → j < p + 2 → F ((p + 2) * p + j) = 0 ∧ F ((p + 2) * j + (p + 1)) = 0) ∧ (∀ i, 0 ≤ i → i < p → -72 * k ≤ g i ∧ g i ≤ 72 * k) ∧ ∀ u, ind u (p + 2) p (p + 1) → XF F (p + 2) u + sm (fun i => g i * u i) p = slp k cA cB cW PL y u
theorem sq_mono {p q : Int} (p0 : 0 ≤ p) (hq : q < (p + 2) * (p + 2)) (p1 : p ≤ 76) : q < 6084 := by
  have : (p + 2) * (p + 2) ≤ 78 * 78 := Int.mul_le_mul (by omega) (by omega) (by omega) (by omega)
  omega
theorem upc_start {p cm am k : Int} {F g y cA cB cW PL aA aB aD : Int → Int} {i j : Int} (hP : PBK p cm am cA cB cW PL aA aB aD) (hF : UZ0 F i) (hn : (p + 2) * (p + 2) ≤ i) (hg : UZ0 g j) (hj : p ≤ j) (hk : k = 0) : UPC p cm am F g y cA cB cW PL aA aB aD k := by
  subst hk
  have p0 := hP.1
  refine ⟨hP, fun q a b => by rw [hF q a (by omega)]; omega, fun j a b => ?_, fun i a b => by rw [hg i a (by omega)]; omega, fun u hu => ?_⟩
  · have t1 := tb_ix (n := p + 2) (q := (p + 2) * p + j) rfl (by omega) (by omega) a b
    have t2 := tb_ix (n := p + 2) (q := (p + 2) * j + (p + 1)) rfl a b (by omega) (by omega)
    exact ⟨hF _ t1.2.2.1 (by omega), hF _ t2.2.2.1 (by omega)⟩
  · rw [show slp 0 cA cB cW PL y u = 0 from sm_zero (by omega), sm_nil (fun i a b => by (try simp only []); rw [hg i a (by omega)]; simp)]
    rw [xf_z hu (by omega) (fun i j a b c d _ _ => by
      have t1 := tb_ix (n := p + 2) (q := (p + 2) * i + j) rfl a b c d
      exact hF _ t1.2.2.1 (by omega))]; rfl
theorem gu_st {g g' u : Int → Int} {p i v : Int} (hs : st1 g g' i v) (i0 : 0 ≤ i) (i1 : i < p) : sm (fun j => g' j * u j) p = sm (fun j => g j * u j) p + (v - g i) * u i := by
  rw [sm_pt (f := fun j => g j * u j) i0 i1 (fun x x0 _ e => by (try simp only []); rw [(hs x x0).2 e])]
  (try simp only [])
  rw [(hs i i0).1 rfl, Int.sub_mul]
theorem slp_succ {k k' : Int} {cA cB cW PL y u : Int → Int} (h : 0 ≤ k) (hk : k' = k + 1) : slp k' cA cB cW PL y u = slp k cA cB cW PL y u + cW k * edg y (PL k) (cA k) (cB k) u := sm_succ h hk
theorem upc_go {p cm am k k' : Int} {F g g1 g2 y cA cB cW PL aA aB aD : Int → Int} {a b w o1 v1 o2 v2 : Int} (σ : Int) (h : UPC p cm am F g y cA cB cW PL aA aB aD k) (k0 : 0 ≤ k) (k1 : k < cm) (hk : k' = k + 1) (ha : a = cA k) (hb : b = cB k) (hw : w = cW k) (hσ : (σ = 1 ∧ (PL k ≠ 0 ∨ y a < y b)) ∨ (σ = -1 ∧ PL k = 0 ∧ y b < y a)) (ho1 : o1 = g a) (hv1 : v1 = o1 - σ * w) (hs1 : st1 g g1 a v1) (ho2 : o2 = g1 b) (hv2 : v2 = o2 + σ * w) (hs2 : st1 g1 g2 b v2) : UPC p cm am F g2 y cA cB cW PL aA aB aD k' := by
  obtain ⟨hP, hF, hz, hg, hu⟩ := h
  have c := hP.2.1 k k0 k1
  rw [← ha, ← hb, ← hw] at c
  subst hk
  have hw' : -72 ≤ σ * w ∧ σ * w ≤ 72 := by rcases hσ with e | e <;> rw [e.1] <;> omega
  refine ⟨hP, fun q x y => ⟨(hF q x y).1, by have := (hF q x y).2; omega⟩, hz, fun i i0 i1 => ?_, fun u hi => ?_⟩
  · have q := hg i i0 i1
    by_cases eb : i = b
    · rw [(hs2 i i0).1 eb, hv2, ho2]
      by_cases ea : b = a
      · rw [(hs1 b c.2.1.1).1 ea, hv1, ho1]; rw [eb, ea] at q; omega
      · rw [(hs1 b c.2.1.1).2 ea]; rw [eb] at q; omega
    · rw [(hs2 i i0).2 eb]
      by_cases ea : i = a
      · rw [(hs1 i i0).1 ea, hv1, ho1]; rw [ea] at q; omega
      · rw [(hs1 i i0).2 ea]; omega
  · rw [gu_st hs2 c.2.1.1 c.2.1.2, gu_st hs1 c.1.1 c.1.2, slp_succ k0 rfl, ← hu u hi, ← ha, ← hb, ← hw, hv2, hv1, ho2, ho1]
    have e : w * edg y (PL k) a b u = σ * w * u b - σ * w * u a := by
      unfold edg
      rcases hσ with z | z
      · rw [if_pos z.2, z.1, Int.mul_sub, Int.one_mul]
      · rw [if_neg (by have := z.2; omega), if_pos z.2.2, z.1, Int.mul_sub, Int.neg_mul, Int.one_mul, Int.neg_mul, Int.neg_mul]; omega
    rw [e, show g1 b + σ * w - g1 b = σ * w by omega, show g a - σ * w - g a = -(σ * w) by omega, Int.neg_mul]; omega
theorem upc_tie {p cm am k k' : Int} {F F1 F2 g y cA cB cW PL aA aB aD : Int → Int} {n a b w o1 v1 o2 v2 q1 q2 : Int} (h : UPC p cm am F g y cA cB cW PL aA aB aD k) (k0 : 0 ≤ k) (k1 : k < cm) (hk : k' = k + 1) (hn : n = p + 2) (ha : a = cA k) (hb : b = cB k) (hw : w = cW k) (h0 : PL k = 0) (h1 : ¬ y a < y b) (h2 : ¬ y b < y a) (hq1 : q1 = n * a + b) (ho1 : o1 = F q1) (hv1 : v1 = o1 + w) (hs1 : st1 F F1 q1 v1) (hq2 : q2 = n * b + a) (ho2 : o2 = F1 q2) (hv2 : v2 = o2 + w) (hs2 : st1 F1 F2 q2 v2) : UPC p cm am F2 g y cA cB cW PL aA aB aD k' := by
  obtain ⟨hP, hF, hz, hg, hu⟩ := h
  have c := hP.2.1 k k0 k1
  have p0 := hP.1
  rw [← ha, ← hb, ← hw] at c
  subst hk hn
  have t1 := tb_ix (n := p + 2) hq1 c.1.1 (by omega) c.2.1.1 (by omega)
  have t2 := tb_ix (n := p + 2) hq2 c.2.1.1 (by omega) c.1.1 (by omega)
  refine ⟨hP, fun q x y => ?_, fun j j0 j1 => ?_, fun i x y => by have := hg i x y; omega, fun u hi => ?_⟩
  · have f := hF q x y
    have f1 := hF q1 t1.2.2.1 t1.2.2.2
    have f2 := hF q2 t2.2.2.1 t2.2.2.2
    by_cases e2 : q = q2
    · rw [(hs2 q x).1 e2, hv2, ho2]
      by_cases e1 : q2 = q1
      · rw [(hs1 q2 t2.2.2.1).1 e1, hv1, ho1]; omega
      · rw [(hs1 q2 t2.2.2.1).2 e1]; omega
    · rw [(hs2 q x).2 e2]
      by_cases e1 : q = q1
      · rw [(hs1 q x).1 e1, hv1, ho1]; omega
      · rw [(hs1 q x).2 e1]; omega
  · have s1 := tb_ix (n := p + 2) (q := (p + 2) * p + j) rfl (by omega) (by omega) j0 j1
    have s2 := tb_ix (n := p + 2) (q := (p + 2) * j + (p + 1)) rfl j0 j1 (by omega) (by omega)
    have n1 : ∀ i x, 0 ≤ i → i < p → 0 ≤ x → x < p → (p + 2) * p + j ≠ (p + 2) * i + x := fun i x i0 i1 x0 x1 e => by
      have := tb_ne (by omega) (by omega) j0 j1 i0 (by omega) x0 (by omega) e; omega
    have n2 : ∀ i x, 0 ≤ i → i < p → 0 ≤ x → x < p → (p + 2) * j + (p + 1) ≠ (p + 2) * i + x := fun i x i0 i1 x0 x1 e => by
      have := tb_ne j0 j1 (by omega) (by omega) i0 (by omega) x0 (by omega) e; omega
    rw [(hs2 _ s1.2.2.1).2 (by rw [hq2]; exact n1 b a c.2.1.1 c.2.1.2 c.1.1 c.1.2), (hs1 _ s1.2.2.1).2 (by rw [hq1]; exact n1 a b c.1.1 c.1.2 c.2.1.1 c.2.1.2), (hs2 _ s2.2.2.1).2 (by rw [hq2]; exact n2 b a c.2.1.1 c.2.1.2 c.1.1 c.1.2), (hs1 _ s2.2.2.1).2 (by rw [hq1]; exact n2 a b c.1.1 c.1.2 c.2.1.1 c.2.1.2)]
    exact hz j j0 j1
  · rw [xf_st u hs2 hq2 c.2.1.1 (by omega) c.1.1 (by omega), xf_st u hs1 hq1 c.1.1 (by omega) c.2.1.1 (by omega), slp_succ k0 rfl, ← hu u hi, ← ha, ← hb, ← hw, hv2, hv1, ho2, ho1]
    have e : edg y (PL k) a b u = u a * (1 - u b) + u b * (1 - u a) := by
      unfold edg
      rw [if_neg (by omega), if_neg h2]
      rcases hi.1 a c.1.1 (by omega) with x | x <;> rcases hi.1 b c.2.1.1 (by omega) with y | y <;> rw [x, y] <;> simp
    rw [e, show F1 q2 + w - F1 q2 = w by omega, show F q1 + w - F q1 = w by omega, Int.mul_add]; omega
theorem upc_bd {p cm am k : Int} {F g y cA cB cW PL aA aB aD : Int → Int} (h : UPC p cm am F g y cA cB cW PL aA aB aD k) (k0 : 0 ≤ k) (k1 : k < cm) : (0 ≤ cA k ∧ cA k < p) ∧ (0 ≤ cB k ∧ cB k < p) ∧ (0 ≤ cW k ∧ cW k ≤ 72) ∧ (0 ≤ p ∧ p ≤ 76 ∧ cm ≤ 200) ∧ (∀ i, 0 ≤ i → i < p → -14328 ≤ g i ∧ g i ≤ 14328) ∧ ∀ i j, 0 ≤ i → i < p + 2 → 0 ≤ j → j < p + 2 → 0 ≤ F ((p + 2) * i + j) ∧ F ((p + 2) * i + j) ≤ 28800 := by
  obtain ⟨hP, hF, hz, hg, hu⟩ := h
  have c := hP.2.1 k k0 k1
  have p0 := hP.1
  refine ⟨c.1, c.2.1, c.2.2, by omega, fun i a b => by have := hg i a b; omega, fun i j a b c d => ?_⟩
  have t := tb_ix (n := p + 2) (q := (p + 2) * i + j) rfl a b c d
  have := hF _ t.2.2.1 t.2.2.2; omega
def UPI (p cm am : Int) (F g y cA cB cW PL aA aB aD : Int → Int) (i : Int) : Prop := PBK p cm am cA cB cW PL aA aB aD ∧ (∀ q, 0 ≤ q → q < (p + 2) * (p + 2) → 0 ≤ F q ∧ F q ≤ 28800) ∧ (∀ j, i ≤ j → j < p → F ((p + 2) * p + j) = 0 ∧ F ((p + 2) * j + (p + 1)) = 0) ∧ (∀ i, 0 ≤ i → i < p → -14400 ≤ g i ∧ g i ≤ 14400) ∧ ∀ u, ind u (p + 2) p (p + 1) → XF F (p + 2) u - XF F (p + 2) (uS p) + sm (fun x => if x < i then 0 else g x * u x) p = slp cm cA cB cW PL y u
theorem upi_start {p cm am k i : Int} {F g y cA cB cW PL aA aB aD : Int → Int} (h : UPC p cm am F g y cA cB cW PL aA aB aD k) (hk : cm ≤ k) (hk2 : k ≤ cm) (hi : i = 0) : UPI p cm am F g y cA cB cW PL aA aB aD i := by
  obtain ⟨hP, hF, hz, hg, hu⟩ := h
  have p0 := hP.1
  have e : k = cm := by omega
  subst hi e
  refine ⟨hP, fun q a b => by have := hF q a b; omega, fun j a b => hz j a (by omega), fun i a b => by have := hg i a b; omega, fun u hi => ?_⟩
  have h1 := hu u hi
  have h2 := hu (uS p) (ind_uS (by omega))
  rw [sm_nil (f := fun i => g i * uS p i) (fun i a b => by (try simp only []); rw [show uS p i = 0 by unfold uS; rw [if_neg (by omega)]]; simp)] at h2
  rw [show slp k cA cB cW PL y (uS p) = 0 from sm_nil (fun j a b => by
    have c := hP.2.1 j a b
    have z1 : uS p (cA j) = 0 := by unfold uS; rw [if_neg (by omega)]
    have z2 : uS p (cB j) = 0 := by unfold uS; rw [if_neg (by omega)]
    (try simp only [])
    rw [show edg y (PL j) (cA j) (cB j) (uS p) = 0 by unfold edg; rw [z1, z2]; simp]; simp)] at h2
  rw [sm_congr (f := fun x => if x < 0 then 0 else g x * u x) (g := fun x => g x * u x) (fun j a b => by (try simp only []); rw [if_neg (by omega)])]
  omega
theorem upi_step {p cm am i i' : Int} {F F1 g y cA cB cW PL aA aB aD : Int → Int} {n q v gi : Int} (h : UPI p cm am F g y cA cB cW PL aA aB aD i) (i0 : 0 ≤ i) (i1 : i < p) (hi : i' = i + 1) (hn : n = p + 2) (hg' : gi = g i) (hc : (gi < 0 ∧ q = n * p + i ∧ v = -gi) ∨ (0 ≤ gi ∧ q = n * i + (p + 1) ∧ v = gi)) (hs : st1 F F1 q v) : UPI p cm am F1 g y cA cB cW PL aA aB aD i' := by
  obtain ⟨hP, hF, hz, hg, hu⟩ := h
  have p0 := hP.1
  have gb := hg i i0 i1
  subst hi hn
  have z0 := hz i (by omega) i1
  have ex : ∃ a b, 0 ≤ a ∧ a < p + 2 ∧ 0 ≤ b ∧ b < p + 2 ∧ q = (p + 2) * a + b ∧ F q = 0 ∧ 0 ≤ v ∧ v ≤ 14400 ∧ ((gi < 0 ∧ a = p ∧ b = i) ∨ (0 ≤ gi ∧ a = i ∧ b = p + 1)) := by
    rcases hc with ⟨a, b, c⟩ | ⟨a, b, c⟩
    · exact ⟨p, i, by omega, by omega, by omega, by omega, b, by rw [b]; exact z0.1, by omega, by omega, Or.inl ⟨a, rfl, rfl⟩⟩
    · exact ⟨i, p + 1, by omega, by omega, by omega, by omega, b, by rw [b]; exact z0.2, by omega, by omega, Or.inr ⟨a, rfl, rfl⟩⟩
  obtain ⟨a, b, a0, a1, b0, b1, hq, Fq, v0, v1, hab⟩ := ex
  have t := tb_ix hq a0 a1 b0 b1
  refine ⟨hP, fun x x0 x1 => ?_, fun j j0 j1 => ?_, hg, fun u hi => ?_⟩
  · by_cases e : x = q
    · rw [(hs x x0).1 e]; omega
    · rw [(hs x x0).2 e]; exact hF x x0 x1
  · have s1 := tb_ix (n := p + 2) (q := (p + 2) * p + j) rfl (by omega) (by omega) (by omega) (by omega)
    have s2 := tb_ix (n := p + 2) (q := (p + 2) * j + (p + 1)) rfl (by omega) (by omega) (by omega) (by omega)
    rw [(hs _ s1.2.2.1).2 (fun e => by have := tb_ne (by omega) (by omega) (by omega) (by omega) a0 a1 b0 b1 (e.trans hq); omega), (hs _ s2.2.2.1).2 (fun e => by have := tb_ne (by omega) (by omega) (by omega) (by omega) a0 a1 b0 b1 (e.trans hq); omega)]
    exact hz j (by omega) j1
  · rw [xf_st u hs hq a0 a1 b0 b1, xf_st (uS p) hs hq a0 a1 b0 b1, Fq]
    have h1 := hu u hi
    have h2 := sm_pt (f := fun x => if x < i + 1 then 0 else g x * u x) (g := fun x => if x < i then 0 else g x * u x) i0 i1 (fun x _ _ e => by
      (try simp only [])
      by_cases l : x < i
      · rw [if_pos l, if_pos (by omega)]
      · rw [if_neg l, if_neg (by omega)])
    (try simp only [] at h2)
    rw [if_neg (show ¬ i < i by omega), if_pos (show i < i + 1 by omega)] at h2
    have e : (v - 0) * (u a * (1 - u b)) - (v - 0) * (uS p a * (1 - uS p b)) = g i * u i := by
      rcases hab with ⟨c1, c2, c3⟩ | ⟨c1, c2, c3⟩
      · have vv : v = -gi := by rcases hc with z | z <;> omega
        rw [c2, c3, hi.2.1, show uS p p = 1 by simp [uS], show uS p i = 0 by unfold uS; rw [if_neg (by omega)], vv, hg']
        rw [Int.one_mul, Int.one_mul, Int.sub_zero, Int.mul_sub, Int.mul_one, Int.neg_mul]; omega
      · have vv : v = gi := by rcases hc with z | z <;> omega
        rw [c2, c3, hi.2.2, show uS p i = 0 by unfold uS; rw [if_neg (by omega)], vv, hg']
        simp
    omega
theorem upi_bd {p cm am i : Int} {F g y cA cB cW PL aA aB aD : Int → Int} (h : UPI p cm am F g y cA cB cW PL aA aB aD i) (i0 : 0 ≤ i) (i1 : i < p) : (0 ≤ p ∧ p ≤ 76) ∧ -14400 ≤ g i ∧ g i ≤ 14400 := by
  have := h.1.1
  exact ⟨by omega, h.2.2.2.1 i i0 i1⟩
def UPA (p cm am : Int) (F y cA cB cW PL aA aB aD : Int → Int) (k : Int) : Prop := PBK p cm am cA cB cW PL aA aB aD ∧ (∀ q, 0 ≤ q → q < (p + 2) * (p + 2) → 0 ≤ F q ∧ F q ≤ 28800 + 1000000 * k) ∧ (∀ j, 0 ≤ j → j < p + 2 → F ((p + 2) * p + j) ≤ 28800) ∧ ∀ u, ind u (p + 2) p (p + 1) → XF F (p + 2) u - XF F (p + 2) (uS p) = slp cm cA cB cW PL y u + 1000000 * vio k aA aB aD y u
theorem upa_start {p cm am i k : Int} {F g y cA cB cW PL aA aB aD : Int → Int} (h : UPI p cm am F g y cA cB cW PL aA aB aD i) (hi : p ≤ i) (hk : k = 0) : UPA p cm am F y cA cB cW PL aA aB aD k := by
  obtain ⟨hP, hF, hz, hg, hu⟩ := h
  have p0 := hP.1
  subst hk
  refine ⟨hP, fun q a b => by have := hF q a b; omega, fun j a b => ?_, fun u hi' => ?_⟩
  · have s1 := tb_ix (n := p + 2) (q := (p + 2) * p + j) rfl (by omega) (by omega) a b
    exact (hF _ s1.2.2.1 s1.2.2.2).2
  · have := hu u hi'
    rw [sm_nil (f := fun x => if x < i then 0 else g x * u x) (fun j a b => by (try simp only []); rw [if_pos (by omega)])] at this
    rw [show vio 0 aA aB aD y u = 0 from sm_zero (by omega)]; omega
theorem vio_succ {k k' : Int} {aA aB aD y u : Int → Int} (h : 0 ≤ k) (hk : k' = k + 1) : vio k' aA aB aD y u = vio k aA aB aD y u + (if y (aB k) - y (aA k) = aD k then u (aA k) * (1 - u (aB k)) else 0) := sm_succ h hk
theorem upa_skip {p cm am k k' : Int} {F y cA cB cW PL aA aB aD : Int → Int} (h : UPA p cm am F y cA cB cW PL aA aB aD k) (k0 : 0 ≤ k) (hk : k' = k + 1) (hd : y (aB k) - y (aA k) ≠ aD k) : UPA p cm am F y cA cB cW PL aA aB aD k' := by
  subst hk
  refine ⟨h.1, fun q a b => by have := h.2.1 q a b; omega, h.2.2.1, fun u hi => ?_⟩
  rw [h.2.2.2 u hi, vio_succ k0 rfl, if_neg hd]; omega
theorem upa_step {p cm am k k' : Int} {F F1 y cA cB cW PL aA aB aD : Int → Int} {n a b q o v : Int} (h : UPA p cm am F y cA cB cW PL aA aB aD k) (k0 : 0 ≤ k) (k1 : k < am) (hk : k' = k + 1) (hn : n = p + 2) (hd : y (aB k) - y (aA k) = aD k) (ha : a = aA k) (hb : b = aB k) (hq : q = n * a + b) (ho : o = F q) (hv : v = o + 1000000) (hs : st1 F F1 q v) : UPA p cm am F1 y cA cB cW PL aA aB aD k' := by
  obtain ⟨hP, hF, hz, hu⟩ := h
  have p0 := hP.1
  have c := hP.2.2 k k0 k1
  rw [← ha, ← hb] at c
  subst hk hn
  have t := tb_ix hq c.1.1 (by omega) c.2.1.1 (by omega)
  refine ⟨hP, fun x x0 x1 => ?_, fun j j0 j1 => ?_, fun u hi => ?_⟩
  · have := hF x x0 x1
    by_cases e : x = q
    · rw [(hs x x0).1 e]; rw [e] at this; omega
    · rw [(hs x x0).2 e]; omega
  · have s1 := tb_ix (n := p + 2) (q := (p + 2) * p + j) rfl (by omega) (by omega) j0 j1
    rw [(hs _ s1.2.2.1).2 (fun e => by have := tb_ne (by omega) (by omega) j0 j1 c.1.1 (by omega) c.2.1.1 (by omega) (e.trans hq); omega)]
    exact hz j j0 j1
  · rw [xf_st u hs hq c.1.1 (by omega) c.2.1.1 (by omega), xf_st (uS p) hs hq c.1.1 (by omega) c.2.1.1 (by omega), vio_succ k0 rfl, if_pos hd, ← ha, ← hb, hv, ho]
    have := hu u hi
    rw [show uS p a = 0 by unfold uS; rw [if_neg (by omega)], show F q + 1000000 - F q = 1000000 by omega]
    omega
theorem upa_bd {p cm am k : Int} {F y cA cB cW PL aA aB aD : Int → Int} (h : UPA p cm am F y cA cB cW PL aA aB aD k) (k0 : 0 ≤ k) (k1 : k < am) : (0 ≤ p ∧ p ≤ 76 ∧ am ≤ 200) ∧ (0 ≤ aA k ∧ aA k < p) ∧ (0 ≤ aB k ∧ aB k < p) ∧ ∀ i j, 0 ≤ i → i < p + 2 → 0 ≤ j → j < p + 2 → 0 ≤ F ((p + 2) * i + j) ∧ F ((p + 2) * i + j) ≤ 199028800 := by
  have p0 := h.1.1
  have c := h.1.2.2 k k0 k1
  refine ⟨by omega, c.1, c.2.1, fun i j a b c d => ?_⟩
  have t := tb_ix (n := p + 2) (q := (p + 2) * i + j) rfl a b c d
  have := h.2.1 _ t.2.2.1 t.2.2.2; omega
theorem flo_of {p cm am k : Int} {F y cA cB cW PL aA aB aD : Int → Int} (h : UPA p cm am F y cA cB cW PL aA aB aD k) (hk : am ≤ k) (hk2 : k ≤ am) : FLO p cm am F y cA cB cW PL aA aB aD ∧ XF F (p + 2) (uS p) ≤ 180000000 := by
  obtain ⟨hP, hF, hz, hu⟩ := h
  have p0 := hP.1
  have e : k = am := by omega
  subst e
  refine ⟨⟨hP, fun i j a b c d => ?_, hu⟩, ?_⟩
  · have t := tb_ix (n := p + 2) (q := (p + 2) * i + j) rfl a b c d
    have t2 := tb_ix (n := p + 2) (q := (p + 2) * j + i) rfl c d a b
    have := hF _ t.2.2.1 t.2.2.2
    have := hF _ t2.2.2.1 t2.2.2.2
    omega
  · have nn : 0 ≤ (p + 2) * (p + 2) := Int.mul_nonneg (by omega) (by omega)
    have := (smrg (f := fun q => F q * cfc (p + 2) (uS p) q) (lo := 0) (hi := 28800) nn (fun q a b => by
      (try simp only [])
      have f := hF q a b
      obtain ⟨c1, c2, c3, c4, c5⟩ := tb_of a b (by omega)
      by_cases z : q / (p + 2) = p
      · have g := hz _ c3 c4
        rw [z] at c5
        rw [← c5] at g
        rcases cfc_01 (ind_uS (s := p) (t := p + 1) (n := p + 2) (by omega)) a b (by omega) with x | x <;> rw [x] <;> omega
      · have : cfc (p + 2) (uS p) q = 0 := by unfold cfc uS; rw [if_neg z]; simp
        rw [this]; omega)).2
    have sq : (p + 2) * (p + 2) ≤ 78 * 78 := Int.mul_le_mul (by omega) (by omega) (by omega) (by omega)
    unfold XF; omega
def clo (am : Int) (aA aB aD y u : Int → Int) : Prop := ∀ k, 0 ≤ k → k < am → y (aB k) - y (aA k) = aD k → u (aA k) = 1 → u (aB k) = 1
def UPP (p cm am : Int) (u y cA cB cW PL aA aB aD : Int → Int) (a : Int) : Prop := PBK p cm am cA cB cW PL aA aB aD ∧ (∀ i, 0 ≤ i → i < p → u i = 0 ∨ u i = 1) ∧ (0 < a → slp cm cA cB cW PL y u ≤ -1 ∧ clo am aA aB aD y u ∧ ∀ w, (∀ i, 0 ≤ i → i < p → w i = 0 ∨ w i = 1) → clo am aA aB aD y w → slp cm cA cB cW PL y u ≤ slp cm cA cB cW PL y w ∧ (slp cm cA cB cW PL y w ≤ slp cm cA cB cW PL y u → ∀ i, 0 ≤ i → i < p → u i = 1 → w i = 1))
theorem slp_congr {m p : Int} {A B W PL y u v : Int → Int} (hA : ∀ k, 0 ≤ k → k < m → (0 ≤ A k ∧ A k < p) ∧ 0 ≤ B k ∧ B k < p) (h : ∀ i, 0 ≤ i → i < p → u i = v i) : slp m A B W PL y u = slp m A B W PL y v :=
  sm_congr (fun k a b => by
    have c := hA k a b
    (try simp only [])
    unfold edg
    rw [h _ c.1.1 c.1.2, h _ c.2.1 c.2.2])
theorem edg_01 {y u : Int → Int} {pl a b : Int} (ha : u a = 0 ∨ u a = 1) (hb : u b = 0 ∨ u b = 1) : -1 ≤ edg y pl a b u ∧ edg y pl a b u ≤ 1 := by
  unfold edg
  split
  · omega
  · split
    · omega
    · split <;> omega
def UPE (g cb : Int → Int) (i many : Int) : Prop := (∀ j, 0 ≤ j → j < i → g j = if 0 ≤ cb j then 1 else 0) ∧ (0 ≤ many ∧ many ≤ i) ∧ (0 < many → ∃ j, 0 ≤ j ∧ j < i ∧ 0 ≤ cb j)
theorem upe_zero {g cb : Int → Int} {i m : Int} (hi : i = 0) (hm : m = 0) : UPE g cb i m := ⟨fun j a b => by omega, by omega, fun h => by omega⟩
theorem upe_step {g g' cb : Int → Int} {i i' m m' p v o : Int} (h : UPE g cb i m) (i0 : 0 ≤ i) (hi : i' = i + 1) (hs : st1 g g' p v) (hp : p = i) (hv : (0 ≤ cb i ∧ v = 1) ∨ (cb i < 0 ∧ v = 0)) (ho : o = g' i) (hm : m' = m + o) : UPE g' cb i' m' := by
  obtain ⟨h1, h2, h3⟩ := h
  have e : g' i = v := (hs i i0).1 hp.symm
  refine ⟨fun j a b => ?_, by rcases hv with z | z <;> omega, fun q => ?_⟩
  · by_cases z : j = i
    · subst z; rw [e]; rcases hv with z | z
      · rw [if_pos z.1, z.2]
      · rw [if_neg (by omega), z.2]
    · rw [(hs j a).2 (by omega)]; exact h1 j a (by omega)
  · rcases hv with z | z
    · exact ⟨i, i0, by omega, z.1⟩
    · obtain ⟨j, a, b, c⟩ := h3 (by omega)
      exact ⟨j, a, by omega, c⟩
theorem upp_of {p cm am : Int} {F g cb y cA cB cW PL aA aB aD : Int → Int} {n s t i many : Int} (h : FLO p cm am F y cA cB cW PL aA aB aD) (hc : CUT F cb n s t) (hn : n = p + 2) (hs : s = p) (ht : t = p + 1) (he : UPE g cb i many) (hi : p ≤ i) (hi2 : i ≤ p) : UPP p cm am g y cA cB cW PL aA aB aD many := by
  subst hn hs ht
  have p0 := h.1.1
  have hg : ∀ j, 0 ≤ j → j < s → g j = if 0 ≤ cb j then 1 else 0 := fun j a b => he.1 j a (by omega)
  refine ⟨h.1, fun j a b => by rw [hg j a b]; split <;> simp, fun many0 => ?_⟩
  obtain ⟨⟨c1, c2⟩, c3, c4, q, m, hA⟩ := hc
  obtain ⟨x, x0, x1, x2⟩ := he.2.2 many0
  have hq := flo_q h
  -- the reached set
  have hS : ind (fun j => if 0 ≤ cb j then 1 else 0) (s + 2) s (s + 1) := ⟨fun j _ _ => by (try simp only []); split <;> simp, by (try simp only []); rw [if_pos c1], by (try simp only []); rw [if_neg (by omega)]⟩
  have XS := xf_z (F := F) hS (by omega) (fun i j a b c d e f => c3 i j a b c d (by (try simp only [] at e); by_cases z : 0 ≤ cb i; exact z; rw [if_neg z] at e; omega) (by (try simp only [] at f); by_cases z : 0 ≤ cb j; rw [if_pos z] at f; omega; omega))
  have KS := h.2.2 _ hS
  rw [XS] at KS
  have hpt : ∀ k, 0 ≤ k → k < cm → (0 ≤ cA k ∧ cA k < s) ∧ 0 ≤ cB k ∧ cB k < s := fun k a b => ⟨(h.1.2.1 k a b).1, (h.1.2.1 k a b).2.1⟩
  have sl : slp cm cA cB cW PL y g = slp cm cA cB cW PL y (fun j => if 0 ≤ cb j then 1 else 0) := slp_congr hpt hg
  have k1 : 1 ≤ XF F (s + 2) (uS s) := by
    obtain ⟨k, k0, k1, k2⟩ := hA.2.2.2.2.2 x x0 (by omega) x2
    by_cases xs : x < s
    · have hk : k ≠ 0 := fun e => by rw [e, hA.2.1.1] at k2; omega
      obtain ⟨j, j0, j1, j2⟩ := hA.2.2.2.2.1 1 (by omega) (by omega)
      rw [show j = 0 by omega, hA.2.1.1] at j2
      have b1 := hA.2.2.1 1 (by omega) (by omega)
      have n1 : q 1 ≠ s := fun e => hA.2.2.2.1 0 1 (by omega) (by omega) (by omega) (by rw [hA.2.1.1, e])
      have f1 := c4 (q 1) b1.1 b1.2 (by rw [j2]; omega) n1
      rw [j2] at f1
      have f2 := (h.2.1 s (q 1) (by omega) (by omega) b1.1 b1.2).1
      have := xf_ge (i := s) (j := q 1) (ind_uS (s := s) (t := s + 1) (n := s + 2) (by omega)) hq (by omega) (by omega) b1.1 b1.2 (by simp [uS]) (by unfold uS; rw [if_neg n1])
      omega
    · exfalso; omega
  have lo : -14400 ≤ slp cm cA cB cW PL y (fun j => if 0 ≤ cb j then 1 else 0) := by
    have := (smrg (f := fun k => cW k * edg y (PL k) (cA k) (cB k) (fun j => if 0 ≤ cb j then 1 else 0)) (lo := -72) (hi := 72) (n := cm) (by omega) (fun k a b => by
      have c := h.1.2.1 k a b
      have e := edg_01 (u := fun j => if 0 ≤ cb j then 1 else 0) (y := y) (pl := PL k) (hS.1 (cA k) c.1.1 (by omega)) (hS.1 (cB k) c.2.1.1 (by omega))
      (try simp only [])
      constructor
      · have := Int.mul_le_mul_of_nonneg_left e.1 c.2.2.1; omega
      · have := Int.mul_le_mul_of_nonneg_left e.2 c.2.2.1; omega)).1
    unfold slp; omega
  have v0 : ∀ w, ind w (s + 2) s (s + 1) → ∀ k, 0 ≤ k → k < am → 0 ≤ (if y (aB k) - y (aA k) = aD k then w (aA k) * (1 - w (aB k)) else 0) := fun w hw k a b => by
    have c := h.1.2.2 k a b
    split
    · rcases hw.1 (aA k) c.1.1 (by omega) with z | z <;> rcases hw.1 (aB k) c.2.1.1 (by omega) with z' | z' <;> rw [z, z'] <;> omega
    · omega
  have vn : 0 ≤ vio am aA aB aD y (fun j => if 0 ≤ cb j then 1 else 0) := sm_nn (v0 _ hS)
  have vz : vio am aA aB aD y (fun j => if 0 ≤ cb j then 1 else 0) = 0 := by unfold KK at KS; omega
  have sS : slp cm cA cB cW PL y (fun j => if 0 ≤ cb j then 1 else 0) = - XF F (s + 2) (uS s) := by unfold KK at KS; omega
  refine ⟨by omega, fun k a b d e => ?_, fun w hw cw => ?_⟩
  · have c := h.1.2.2 k a b
    have := sm_one (p := k) (f := fun k => if y (aB k) - y (aA k) = aD k then (fun j => if 0 ≤ cb j then (1 : Int) else 0) (aA k) * (1 - (fun j => if 0 ≤ cb j then (1 : Int) else 0) (aB k)) else 0) a b (v0 _ hS)
    unfold vio at vz
    rw [vz] at this
    (try simp only [] at this)
    rw [if_pos d] at this
    rw [hg _ c.1.1 c.1.2] at e
    rw [hg _ c.2.1.1 c.2.1.2]
    rw [e] at this
    by_cases z : 0 ≤ cb (aB k)
    · rw [if_pos z]
    · rw [if_neg z] at this; omega
  · -- any closed set
    have hW : ind (fun j => if j = s then 1 else if j = s + 1 then 0 else w j) (s + 2) s (s + 1) := ⟨fun j a b => by
      (try simp only [])
      by_cases z : j = s
      · rw [if_pos z]; simp
      · rw [if_neg z]; by_cases z' : j = s + 1
        · rw [if_pos z']; simp
        · rw [if_neg z']; exact hw j a (by omega), by simp, by show (if s + 1 = s then (1 : Int) else if s + 1 = s + 1 then 0 else w (s + 1)) = 0; rw [if_neg (by omega), if_pos rfl]⟩
    have ew : ∀ j, 0 ≤ j → j < s → w j = (fun j => if j = s then 1 else if j = s + 1 then 0 else w j) j := fun j a b => by (try simp only []); rw [if_neg (by omega), if_neg (by omega)]
    have KW := h.2.2 _ hW
    have vw : vio am aA aB aD y (fun j => if j = s then 1 else if j = s + 1 then 0 else w j) = 0 := sm_nil (fun k a b => by
      have c := h.1.2.2 k a b
      (try simp only [])
      rw [if_neg (show ¬ aA k = s by omega), if_neg (show ¬ aA k = s + 1 by omega), if_neg (show ¬ aB k = s by omega), if_neg (show ¬ aB k = s + 1 by omega)]
      split
      · rename_i d
        rcases hw (aA k) c.1.1 c.1.2 with z | z
        · rw [z]; simp
        · rw [cw k a b d z]; simp
      · rfl)
    have X0 := xf_nn hW (by omega) hq
    have sw := slp_congr (W := cW) (PL := PL) (y := y) hpt ew
    unfold KK at KW
    rw [vw] at KW
    refine ⟨by omega, fun le j j0 j1 hj => ?_⟩
    have Xz : XF F (s + 2) (fun j => if j = s then 1 else if j = s + 1 then 0 else w j) = 0 := by omega
    have all : ∀ k : Nat, ∀ l : Nat, l ≤ k → (l : Int) < m → (fun j => if j = s then (1 : Int) else if j = s + 1 then 0 else w j) (q l) = 1 := fun k => by
      induction k with
      | zero => intro l hl _; rw [show ((l : Nat) : Int) = 0 by omega, hA.2.1.1]; simp
      | succ k ih =>
        intro l hl hm
        by_cases l0 : l = 0
        · subst l0; rw [show (((0 : Nat)) : Int) = 0 by omega, hA.2.1.1]; simp
        · obtain ⟨j', a, b, c⟩ := hA.2.2.2.2.1 l (by omega) hm
          have b1 := hA.2.2.1 l (by omega) hm
          have b2 := hA.2.2.1 j' a (by omega)
          have i1 := ih j'.toNat (by omega) (by omega)
          rw [show ((j'.toNat : Nat) : Int) = j' by omega] at i1
          have n1 : q l ≠ s := fun e => hA.2.2.2.1 0 l (by omega) (by omega) hm (by rw [hA.2.1.1, e])
          have f1 := c4 (q l) b1.1 b1.2 (by rw [c]; exact b2.1) n1
          rw [c] at f1
          have f2 := (h.2.1 (q j') (q l) b2.1 b2.2 b1.1 b1.2).1
          rcases hW.1 (q l) b1.1 b1.2 with z | z
          · have := xf_ge hW hq b2.1 b2.2 b1.1 b1.2 i1 z
            omega
          · exact z
    rw [hg j j0 j1] at hj
    have cj : 0 ≤ cb j := by
      by_cases z : 0 ≤ cb j
      · exact z
      · rw [if_neg z] at hj; omega
    obtain ⟨k, a, b, c⟩ := hA.2.2.2.2.2 j j0 (by omega) cj
    have := all k.toNat k.toNat (by omega) (by omega)
    rw [show ((k.toNat : Nat) : Int) = k by omega, c] at this
    rw [ew j j0 j1]; exact this
