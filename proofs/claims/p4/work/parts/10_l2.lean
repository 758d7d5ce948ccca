/-! augment: what the flood and the push keep -/
def stq (cb : Int → Int) (s a b : Int) : Prop := a ≠ s ∧ b = cb a
/-- who is reached came by an edge with room -/
def FPT (F cb : Int → Int) (n s : Int) : Prop := ∀ v, 0 ≤ v → v < n → 0 ≤ cb v → v ≠ s → F (n * cb v + v) ≠ 0
/-- nobody who has left the queue has room towards one that is not reached -/
def BF1 (F q cb : Int → Int) (n f : Int) : Prop := ∀ k, 0 ≤ k → k < f → ∀ j, 0 ≤ j → j < n → cb j < 0 → F (n * q k + j) = 0
def BF2 (F cb : Int → Int) (n i j : Int) : Prop := ∀ x, 0 ≤ x → x < j → cb x < 0 → F (n * i + x) = 0
theorem fpt_start {F cb cb' : Int → Int} {n s k p v : Int} (h : AU0 cb k) (hk : n ≤ k) (hs : st1 cb cb' p v) (hp : p = s) : FPT F cb' n s := by
  intro x a b c d
  rw [(hs x a).2 (by omega)] at c
  have := h x a (by omega); omega
theorem fpt_step {F cb cb' : Int → Int} {n s i p v q : Int} (h : FPT F cb n s) (hs : st1 cb cb' p v) (hv : v = i) (hq : q = n * i + p) (hF : F q ≠ 0) (p0 : 0 ≤ p) : FPT F cb' n s := by
  intro x a b c d
  by_cases e : x = p
  · rw [(hs x a).1 e, hv, e, ← hq]; exact hF
  · rw [(hs x a).2 e] at c ⊢; exact h x a b c d
theorem bf1_step {F q cb cb' q' : Int → Int} {n f p v i w : Int} (h : BF1 F q cb n f) (hs : st1 cb cb' p v) (v0 : 0 ≤ v) (ht : st1 q q' i w) (hi : f ≤ i) : BF1 F q' cb' n f := by
  intro k a b j c d e
  rw [(ht k a).2 (by omega)]
  by_cases z : j = p
  · rw [(hs j c).1 z] at e; omega
  · rw [(hs j c).2 z] at e; exact h k a b j c d e
theorem bf1_zero {F q cb : Int → Int} {n f : Int} (h : f ≤ 0) : BF1 F q cb n f := fun k a b => by omega
theorem bf1_next {F q cb : Int → Int} {n f f' i j : Int} (h : BF1 F q cb n f) (h2 : BF2 F cb n i j) (hj : n ≤ j) (hi : i = q f) (hf : f' = f + 1) : BF1 F q cb n f' := by
  intro k a b x c d e
  by_cases z : k = f
  · rw [z, ← hi]; exact h2 x c (by omega) e
  · exact h k a (by omega) x c d e
theorem bf2_zero {F cb : Int → Int} {n i j : Int} (h : j ≤ 0) : BF2 F cb n i j := fun k a b => by omega
theorem bf2_step {F cb cb' : Int → Int} {n i j j' p v : Int} (h : BF2 F cb n i j) (hj : j' = j + 1) (hs : st1 cb cb' p v) (hp : p = j) (v0 : 0 ≤ v) : BF2 F cb' n i j' := by
  intro x a b c
  by_cases e : x = p
  · rw [(hs x a).1 e] at c; omega
  · rw [(hs x a).2 e] at c; exact h x a (by omega) c
theorem bf2_skip {F cb : Int → Int} {n i j j' : Int} (h : BF2 F cb n i j) (hj : j' = j + 1) (hc : 0 ≤ cb j ∨ F (n * i + j) = 0) : BF2 F cb n i j' := by
  intro x a b c
  by_cases e : x = j
  · subst e; rcases hc with z | z
    · omega
    · exact z
  · exact h x a (by omega) c
/-- no way on: a cut -/
def CUT (F cb : Int → Int) (n s t : Int) : Prop := (0 ≤ cb s ∧ cb t < 0) ∧ (∀ i j, 0 ≤ i → i < n → 0 ≤ j → j < n → 0 ≤ cb i → cb j < 0 → F (n * i + j) = 0) ∧ FPT F cb n s ∧ ∃ q m, AU1 q cb n s m
def CTA (F cb : Int → Int) (n s t a : Int) : Prop := a = 0 → CUT F cb n s t
theorem cut_of {F q cb : Int → Int} {n s t m f : Int} (h : AU1 q cb n s m) (h2 : FPT F cb n s) (h3 : BF1 F q cb n f) (hf : m ≤ f) (ht : cb t < 0) : CUT F cb n s t := by
  refine ⟨⟨by rw [h.2.1.2]; exact h.1.2.1, ht⟩, fun i j a b c d e g => ?_, h2, q, m, h⟩
  obtain ⟨k, k0, k1, k2⟩ := h.2.2.2.2.2 i a b e
  have := h3 k k0 (by omega) j c d g
  rwa [k2] at this
theorem stp_split {cb : Int → Int} {s x y : Int} (h : rc (stq cb s) x y) : y = x ∨ (x ≠ s ∧ rc (stq cb s) (cb x) y) := by
  refine h (fun z => z = x ∨ (x ≠ s ∧ rc (stq cb s) (cb x) z)) (fun a b r g => ?_) (Or.inl rfl)
  rcases g with g | ⟨g1, g2⟩
  · subst g; exact Or.inr ⟨r.1, by rw [r.2]; exact fun L _ z => z⟩
  · exact Or.inr ⟨g1, fun L hL z => hL a b r (g2 L hL z)⟩
theorem stp_one {cb : Int → Int} {s x y : Int} (hx : x ≠ s) (h : rc (stq cb s) (cb x) y) : rc (stq cb s) x y := fun L hL z => h L hL (hL x (cb x) ⟨hx, rfl⟩ z)
theorem stp_idx {q cb : Int → Int} {n s m x y k : Int} (h : AU1 q cb n s m) (hr : rc (stq cb s) x y) (k0 : 0 ≤ k) (k1 : k < m) (hx : q k = x) : ∃ j, 0 ≤ j ∧ j ≤ k ∧ q j = y := by
  refine hr (fun z => ∃ j, 0 ≤ j ∧ j ≤ k ∧ q j = z) (fun a b r g => ?_) ⟨k, k0, by omega, hx⟩
  obtain ⟨j, j0, j1, j2⟩ := g
  have hj : j ≠ 0 := fun e => r.1 (by rw [← j2, e]; exact h.2.1.1)
  obtain ⟨i, i0, i1, i2⟩ := h.2.2.2.2.1 j (by omega) (by omega)
  exact ⟨i, i0, by omega, by rw [r.2, ← j2, i2]⟩
/-- the least room of the way gone over -/
def MN1 (F cb : Int → Int) (n s t x m : Int) : Prop := (1 ≤ m ∧ m ≤ 1000000) ∧ ∀ y, rc (stq cb s) t y → y ≠ s → rc (stq cb s) x y ∨ m ≤ F (n * cb y + y)
theorem mn1_start {F cb : Int → Int} {n s t x m : Int} (hx : x = t) (hm : m = 1000000) : MN1 F cb n s t x m := ⟨by omega, fun y a _ => Or.inl (by rw [hx]; exact a)⟩
theorem mn1_step {F cb : Int → Int} {n s t x z m m' f q : Int} (h : MN1 F cb n s t x m) (hx : x ≠ s) (hz : z = cb x) (hq : q = n * z + x) (hf : f = F q) (f1 : 1 ≤ f) (hm : m' ≤ m) (hm2 : m' ≤ f) (hm3 : 1 ≤ m') : MN1 F cb n s t z m' := by
  refine ⟨by have := h.1; omega, fun y a b => ?_⟩
  rcases h.2 y a b with g | g
  · rcases stp_split g with e | e
    · right; rw [e, ← hz, ← hq, ← hf]; exact hm2
    · left; rw [hz]; exact e.2
  · right; omega
def PSH (p cm am : Int) (F cb y cA cB cW PL aA aB aD : Int → Int) (m x g : Int) : Prop := PBK p cm am cA cB cW PL aA aB aD ∧ (1 ≤ m ∧ m ≤ 1000000) ∧ (∀ v, rc (stq cb p) x v → v ≠ p → m ≤ F ((p + 2) * cb v + v)) ∧ (∀ i j, 0 ≤ i → i < p + 2 → 0 ≤ j → j < p + 2 → 0 ≤ F ((p + 2) * i + j) ∧ F ((p + 2) * i + j) + F ((p + 2) * j + i) ≤ 410000000) ∧ (∀ u, ind u (p + 2) p (p + 1) → XF F (p + 2) u - XF F (p + 2) (uS p) = KK cm am y cA cB cW PL aA aB aD u - m * (u x - uS p x)) ∧ XF F (p + 2) (uS p) + m * uS p x ≤ g
theorem psh_start {p cm am : Int} {F cb y cA cB cW PL aA aB aD : Int → Int} {m x g n s t x' : Int} (h : FLO p cm am F y cA cB cW PL aA aB aD) (h2 : MN1 F cb n s t x' m) (hx' : x' = s) (hg : XLE p F g) (hn : n = p + 2) (hs : s = p) (ht : t = p + 1) (hx : x = t) : PSH p cm am F cb y cA cB cW PL aA aB aD m x g := by
  subst hn hs ht hx
  refine ⟨h.1, h2.1, fun v a b => ?_, h.2.1, fun u hu => ?_, ?_⟩
  · rcases h2.2 v a b with g | g
    · rw [hx'] at g
      rcases stp_split g with e | e
      · exact absurd e b
      · exact absurd rfl e.1
    · exact g
  · rw [h.2.2 u hu, hu.2.2, show uS s (s + 1) = 0 by unfold uS; rw [if_neg (by omega)]]; simp
  · rw [show uS s (s + 1) = 0 by unfold uS; rw [if_neg (by omega)]]; unfold XLE at hg; omega
theorem psh_bd {p cm am : Int} {F F1 cb y cA cB cW PL aA aB aD : Int → Int} {m x g z v1 q1 n o : Int} (h : PSH p cm am F cb y cA cB cW PL aA aB aD m x g) (hx : x ≠ p) (x0 : 0 ≤ x) (x1 : x < n) (z0 : 0 ≤ z) (z1 : z < n) (hz : z = cb x) (hn : n = p + 2) (hq1 : q1 = n * z + x) (ho : o = F q1) (hv : v1 = o - m) : 0 ≤ v1 ∧ v1 ≤ 410000000 := by
  subst hn
  have h3 := h.2.2.1 x (fun L _ z => z) hx
  have h4 := h.2.2.2.1 z x z0 z1 x0 x1
  have h5 := h.2.2.2.1 x z x0 x1 z0 z1
  rw [← hz, ← hq1, ← ho] at h3
  rw [← hq1, ← ho] at h4
  have := h.2.1
  omega
theorem psh_bd2 {p cm am : Int} {F F1 cb y cA cB cW PL aA aB aD : Int → Int} {m x g z v1 q1 n o v2 q2 o2 : Int} (h : PSH p cm am F cb y cA cB cW PL aA aB aD m x g) (hx : x ≠ p) (x0 : 0 ≤ x) (x1 : x < n) (z0 : 0 ≤ z) (z1 : z < n) (hzx : z ≠ x) (hz : z = cb x) (hn : n = p + 2) (hq1 : q1 = n * z + x) (ho : o = F q1) (hv : v1 = o - m) (hs : st1 F F1 q1 v1) (hq2 : q2 = n * x + z) (ho2 : o2 = F1 q2) (hv2 : v2 = o2 + m) : 0 ≤ v2 ∧ v2 ≤ 410000000 := by
  subst hn
  have h3 := h.2.2.1 x (fun L _ z => z) hx
  have h4 := h.2.2.2.1 z x z0 z1 x0 x1
  have h5 := h.2.2.2.1 x z x0 x1 z0 z1
  have hne : q2 ≠ q1 := fun e => by
    have := tb_ne x0 x1 z0 z1 z0 z1 x0 x1 (by rw [← hq1, ← hq2]; exact e); omega
  have hq0 := (tb_ix hq2 x0 x1 z0 z1).2.2.1
  have e2 : F1 q2 = F q2 := (hs q2 hq0).2 hne
  rw [← hz, ← hq1, ← ho] at h3
  rw [← hq1, ← hq2, ← ho] at h4
  rw [← hq1, ← hq2, ← ho] at h5
  have := h.2.1
  omega
theorem psh_step {p cm am : Int} {F F1 F2 q cb y cA cB cW PL aA aB aD : Int → Int} {m x g z v1 q1 n o v2 q2 o2 K L : Int} (h : PSH p cm am F cb y cA cB cW PL aA aB aD m x g) (hA : AUW q cb n p L x K) (hx : x ≠ p) (hz : z = cb x) (hn : n = p + 2) (hq1 : q1 = n * z + x) (ho : o = F q1) (hv : v1 = o - m) (hs : st1 F F1 q1 v1) (hq2 : q2 = n * x + z) (ho2 : o2 = F1 q2) (hv2 : v2 = o2 + m) (hs2 : st1 F1 F2 q2 v2) : PSH p cm am F2 cb y cA cB cW PL aA aB aD m z g := by
  subst hn
  obtain ⟨h0, k, k0, kK, k1, k2⟩ := hA
  have hk : k ≠ 0 := fun e => hx (by rw [← k2, e]; exact h0.2.1.1)
  obtain ⟨j, j0, j1, j2⟩ := h0.2.2.2.2.1 k (by omega) k1
  rw [k2, ← hz] at j2
  obtain ⟨x0, x1⟩ := h0.2.2.1 k k0 k1
  rw [k2] at x0 x1
  obtain ⟨z0, z1⟩ := h0.2.2.1 j j0 (by omega)
  rw [← j2] at z0 z1
  have hzx : z ≠ x := fun e => h0.2.2.2.1 j k j0 j1 k1 (by rw [← j2, k2]; exact e)
  obtain ⟨hP, hm, hw, hr, hu, hg⟩ := h
  have h3 := hw x (fun L _ z => z) hx
  have hne : q2 ≠ q1 := fun e => by
    have := tb_ne x0 x1 z0 z1 z0 z1 x0 x1 (by rw [← hq1, ← hq2]; exact e); omega
  have t1 := tb_ix hq1 z0 z1 x0 x1
  have t2 := tb_ix hq2 x0 x1 z0 z1
  have e2 : F1 q2 = F q2 := (hs q2 t2.2.2.1).2 hne
  have val : ∀ i, 0 ≤ i → F2 i = if i = q1 then F q1 - m else if i = q2 then F q2 + m else F i := fun i i0 => by
    by_cases a : i = q2
    · rw [(hs2 i i0).1 a, if_neg (by omega), if_pos a, hv2, ho2, e2]
    · rw [(hs2 i i0).2 a]
      by_cases b : i = q1
      · rw [(hs i i0).1 b, if_pos b, hv, ho]
      · rw [(hs i i0).2 b, if_neg b, if_neg a]
  have XX : ∀ u, XF F2 (p + 2) u = XF F (p + 2) u - m * (u z - u x) := fun u => by
    rw [xf_st u hs2 hq2 x0 x1 z0 z1, xf_st u hs hq1 z0 z1 x0 x1, hv2, hv, ho2, ho]
    have a1 : F1 q2 + m - F1 q2 = m := by omega
    have a2 : F q1 - m - F q1 = -m := by omega
    rw [a1, a2]
    have : u z * (1 - u x) = u z - u z * u x := by rw [Int.mul_sub, Int.mul_one]
    have t : u x * (1 - u z) = u x - u z * u x := by rw [Int.mul_sub, Int.mul_one, Int.mul_comm (u x) (u z)]
    rw [this, t, Int.neg_mul, Int.mul_sub, Int.mul_sub, Int.mul_sub]; omega
  refine ⟨hP, hm, fun v a b => ?_, fun i i' a b c d => ?_, fun u hi => ?_, ?_⟩
  · obtain ⟨l, l0, l1, l2⟩ := stp_idx h0 (k := j) a j0 (by omega) j2.symm
    have hl : l ≠ 0 := fun e => b (by rw [← l2, e]; exact h0.2.1.1)
    obtain ⟨o', o0, o1, o2'⟩ := h0.2.2.2.2.1 l (by omega) (by omega)
    have hv0 := h0.2.2.1 l l0 (by omega)
    have hc0 := h0.2.2.1 o' o0 (by omega)
    rw [l2] at hv0 o2'
    have hvx : v ≠ x := fun e => h0.2.2.2.1 l k l0 (by omega) k1 (by rw [l2, k2]; exact e)
    have hcx : cb v ≠ x := fun e => h0.2.2.2.1 o' k o0 (by omega) k1 (by rw [k2, ← o2']; exact e)
    have old := hw v (stp_one hx (by rw [← hz]; exact a)) b
    have i0 := (tb_ix (q := (p + 2) * cb v + v) rfl (by rw [o2']; exact hc0.1) (by rw [o2']; exact hc0.2) hv0.1 hv0.2).2.2.1
    rw [val _ i0, if_neg, if_neg]
    · exact old
    · intro e
      have := tb_ne (i := cb v) (j := v) (by rw [o2']; exact hc0.1) (by rw [o2']; exact hc0.2) hv0.1 hv0.2 x0 x1 z0 z1 (by rw [e, hq2])
      exact hcx this.1
    · intro e
      have := tb_ne (i := cb v) (j := v) (by rw [o2']; exact hc0.1) (by rw [o2']; exact hc0.2) hv0.1 hv0.2 z0 z1 x0 x1 (by rw [e, hq1])
      exact hvx this.2
  · have r1 := hr i i' a b c d
    have r2 := hr i' i c d a b
    have i0 := (tb_ix (q := (p + 2) * i + i') rfl a b c d).2.2.1
    have i1 := (tb_ix (q := (p + 2) * i' + i) rfl c d a b).2.2.1
    rw [val _ i0, val _ i1]
    rw [← hz, ← hq1] at h3
    have r3 := hr z x z0 z1 x0 x1
    have r4 := hr x z x0 x1 z0 z1
    rw [← hq1, ← hq2] at r3 r4
    by_cases c1 : (p + 2) * i + i' = q1
    · have c2 := tb_ne a b c d z0 z1 x0 x1 (by rw [c1, hq1])
      have c3 : (p + 2) * i' + i = q2 := by rw [hq2, c2.1, c2.2]
      rw [if_pos c1, c3, if_neg hne, if_pos rfl]; omega
    · by_cases c2 : (p + 2) * i + i' = q2
      · have c4 := tb_ne a b c d x0 x1 z0 z1 (by rw [c2, hq2])
        have c3 : (p + 2) * i' + i = q1 := by rw [hq1, c4.1, c4.2]
        rw [if_neg c1, if_pos c2, if_pos c3]; omega
      · rw [if_neg c1, if_neg c2, if_neg, if_neg]
        · omega
        · intro e; have c4 := tb_ne c d a b x0 x1 z0 z1 (by rw [e, hq2]); exact c1 (by rw [hq1, c4.1, c4.2])
        · intro e; have c4 := tb_ne c d a b z0 z1 x0 x1 (by rw [e, hq1]); exact c2 (by rw [hq2, c4.1, c4.2])
  · rw [XX u, XX (uS p)]
    have := hu u hi
    have e1 : m * (u z - u x) = m * u z - m * u x := by rw [Int.mul_sub]
    have e2 : m * (uS p z - uS p x) = m * uS p z - m * uS p x := by rw [Int.mul_sub]
    have e3 : m * (u x - uS p x) = m * u x - m * uS p x := by rw [Int.mul_sub]
    have e4 : m * (u z - uS p z) = m * u z - m * uS p z := by rw [Int.mul_sub]
    omega
  · rw [XX (uS p)]
    have e2 : m * (uS p z - uS p x) = m * uS p z - m * uS p x := by rw [Int.mul_sub]
    omega
theorem psh_end {p cm am : Int} {F cb y cA cB cW PL aA aB aD : Int → Int} {m x g : Int} (h : PSH p cm am F cb y cA cB cW PL aA aB aD m x g) (hx : x = p) : FLO p cm am F y cA cB cW PL aA aB aD ∧ XF F (p + 2) (uS p) ≤ g - 1 := by
  subst hx
  obtain ⟨hP, hm, hw, hr, hu, hg⟩ := h
  have e : uS x x = 1 := by simp [uS]
  rw [e] at hg
  refine ⟨⟨hP, hr, fun u hi => ?_⟩, by omega⟩
  rw [hu u hi, hi.2.1, e]; simp
