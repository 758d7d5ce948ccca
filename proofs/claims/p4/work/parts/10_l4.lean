/-! rise: the least places, then raised set by set -/
def fea (am : Int) (aA aB aD y : Int → Int) : Prop := ∀ k, 0 ≤ k → k < am → y (aA k) + aD k ≤ y (aB k)
def gap (pl x y : Int) : Int := if pl ≠ 0 ∨ x ≤ y then y - x else x - y
noncomputable def kst (cm : Int) (cA cB cW PL y : Int → Int) : Int := sm (fun k => cW k * gap (PL k) (y (cA k)) (y (cB k))) cm
/-- what rise wants: distances without a ring, plain costs along distances -/
def PBR (p cm am : Int) (cA cB cW PL aA aB aD : Int → Int) : Prop := PBK p cm am cA cB cW PL aA aB aD ∧ (∃ rk : Int → Int, (∀ i, 0 ≤ i → i < p → 0 ≤ rk i ∧ rk i ≤ 75) ∧ ∀ k, 0 ≤ k → k < am → rk (aA k) + 1 ≤ rk (aB k)) ∧ ∀ k, 0 ≤ k → k < cm → PL k ≠ 0 → ∃ l, 0 ≤ l ∧ l < am ∧ aA l = cA k ∧ aB l = cB k
def lst (p am : Int) (aA aB aD y : Int → Int) : Prop := ∀ x, fea am aA aB aD x → (∀ i, 0 ≤ i → i < p → 0 ≤ x i) → ∀ i, 0 ≤ i → i < p → y i ≤ x i
def RSA (p cm am : Int) (y cA cB cW PL aA aB aD : Int → Int) (mo g : Int) : Prop := PBR p cm am cA cB cW PL aA aB aD ∧ (∀ i, 0 ≤ i → i < p → 0 ≤ y i) ∧ (∃ rk : Int → Int, (∀ i, 0 ≤ i → i < p → 0 ≤ rk i ∧ rk i ≤ 75) ∧ (∀ k, 0 ≤ k → k < am → rk (aA k) + 1 ≤ rk (aB k)) ∧ (∀ M, 1 ≤ M → (∀ k, 0 ≤ k → k < am → aD k ≤ M) → ∀ i, 0 ≤ i → i < p → y i ≤ M * rk i) ∧ sm (fun i => 202 * rk i - y i) p + mo ≤ g) ∧ lst p am aA aB aD y
def RSB (p cm am : Int) (y cA cB cW PL aA aB aD : Int → Int) (mo g : Int) : Prop := RSA p cm am y cA cB cW PL aA aB aD mo (g - 1)
def RSK (y aA aB aD : Int → Int) (mo k : Int) : Prop := mo = 0 → ∀ j, 0 ≤ j → j < k → y (aA j) + aD j ≤ y (aB j)
def RSE (am : Int) (y aA aB aD : Int → Int) (mo : Int) : Prop := RSK y aA aB aD mo am
theorem rsa_start {p cm am mo g j : Int} {y cA cB cW PL aA aB aD : Int → Int} (h : PBR p cm am cA cB cW PL aA aB aD) (hy : UZ0 y j) (hj : p ≤ j) (hmo : mo ≤ 1) (hg : 1200000 ≤ g) : RSA p cm am y cA cB cW PL aA aB aD mo g := by
  obtain ⟨hP, ⟨rk, r1, r2⟩, h3⟩ := h
  have p0 := hP.1
  have hz : ∀ i, 0 ≤ i → i < p → y i = 0 := fun i a b => hy i a (by omega)
  refine ⟨⟨hP, ⟨rk, r1, r2⟩, h3⟩, fun i a b => by rw [hz i a b]; omega, ⟨rk, r1, r2, fun M hM _ i a b => ?_, ?_⟩, fun x _ hx i a b => by rw [hz i a b]; exact hx i a b⟩
  · rw [hz i a b]; exact Int.mul_nonneg (by omega) (r1 i a b).1
  · have := (smrg (f := fun i => 202 * rk i - y i) (lo := 0) (hi := 15150) (n := p) (by omega) (fun i a b => by
      have := r1 i a b
      have := hz i a b
      (try simp only [])
      omega)).2
    omega
theorem rsa_bd {p cm am mo g : Int} {y cA cB cW PL aA aB aD : Int → Int} (h : RSA p cm am y cA cB cW PL aA aB aD mo g) : (0 ≤ p ∧ p ≤ 76 ∧ 0 ≤ am ∧ am ≤ 200 ∧ 0 ≤ cm ∧ cm ≤ 200) ∧ mo ≤ g ∧ (∀ i, 0 ≤ i → i < p → 0 ≤ y i ∧ y i ≤ 15150) ∧ ∀ k, 0 ≤ k → k < am → (0 ≤ aA k ∧ aA k < p) ∧ (0 ≤ aB k ∧ aB k < p) ∧ 1 ≤ aD k ∧ aD k ≤ 202 ∧ 0 ≤ y (aA k) + aD k ∧ y (aA k) + aD k ≤ 15150 := by
  obtain ⟨⟨hP, hR, h3⟩, hy, ⟨rk, r1, r2, r3, r4⟩, hl⟩ := h
  have p0 := hP.1
  have M2 := r3 202 (by omega) (fun k a b => (hP.2.2 k a b).2.2.2)
  have yb : ∀ i, 0 ≤ i → i < p → 0 ≤ y i ∧ y i ≤ 15150 := fun i a b => by
    have := M2 i a b; have := r1 i a b; have := hy i a b; omega
  refine ⟨by omega, ?_, yb, fun k a b => ?_⟩
  · have := sm_nn (f := fun i => 202 * rk i - y i) (n := p) (fun i a b => by have := M2 i a b; (try simp only []); omega)
    omega
  · have c := hP.2.2 k a b
    have := M2 _ c.1.1 c.1.2
    have := r2 k a b
    have := r1 _ c.2.1.1 c.2.1.2
    have := hy _ c.1.1 c.1.2
    exact ⟨c.1, c.2.1, c.2.2.1, c.2.2.2, by omega, by omega⟩
theorem rsb_step {p cm am mo mo' g k i v : Int} {y y' cA cB cW PL aA aB aD : Int → Int} (h : RSB p cm am y cA cB cW PL aA aB aD mo g) (k0 : 0 ≤ k) (k1 : k < am) (hi : i = aB k) (hv : v = y (aA k) + aD k) (hlt : y (aB k) < v) (hs : st1 y y' i v) (hm0 : 0 ≤ mo) (hm : mo' = 1) : RSB p cm am y' cA cB cW PL aA aB aD mo' g := by
  obtain ⟨⟨hP, hR, h3⟩, hy, ⟨rk, r1, r2, r3, r4⟩, hl⟩ := h
  have c := hP.2.2 k k0 k1
  have p0 := hP.1
  rw [← hi] at c hlt
  have e1 : y' i = v := (hs i c.2.1.1).1 rfl
  have e2 : ∀ j, 0 ≤ j → j ≠ i → y' j = y j := fun j a b => (hs j a).2 b
  refine ⟨⟨hP, hR, h3⟩, fun j a b => ?_, ⟨rk, r1, r2, fun M hM hD j a b => ?_, ?_⟩, fun x hx x0 j a b => ?_⟩
  · by_cases z : j = i
    · rw [z, e1]; have := hy _ c.1.1 c.1.2; omega
    · rw [e2 j a z]; exact hy j a b
  · by_cases z : j = i
    · rw [z, e1, hv]
      have t1 := r3 M hM hD _ c.1.1 c.1.2
      have t2 := hD k k0 k1
      have t3 := r2 k k0 k1
      rw [← hi] at t3
      have t4 : M * (rk (aA k) + 1) ≤ M * rk i := Int.mul_le_mul_of_nonneg_left t3 (by omega)
      rw [Int.mul_add, Int.mul_one] at t4
      omega
    · rw [e2 j a z]; exact r3 M hM hD j a b
  · have := sm_pt (f := fun i => 202 * rk i - y i) (g := fun i => 202 * rk i - y' i) c.2.1.1 c.2.1.2 (fun j a b z => by (try simp only []); rw [e2 j a z])
    (try simp only [] at this)
    rw [e1] at this
    omega
  · by_cases z : j = i
    · rw [z, e1, hv]
      have := hl x hx x0 _ c.1.1 c.1.2
      have := hx k k0 k1
      rw [← hi] at this
      omega
    · rw [e2 j a z]; exact hl x hx x0 j a b
def LSS (p cm am : Int) (y cA cB cW PL aA aB aD : Int → Int) : Prop := (∀ k, 0 ≤ k → k < cm → PL k ≠ 0) → ∀ x, fea am aA aB aD x → (∀ i, 0 ≤ i → i < p → 0 ≤ x i ∧ x i ≤ y i) → kst cm cA cB cW PL x ≤ kst cm cA cB cW PL y → ∀ i, 0 ≤ i → i < p → x i = y i
def RII (p cm am : Int) (y cA cB cW PL aA aB aD : Int → Int) (g : Int) : Prop := PBR p cm am cA cB cW PL aA aB aD ∧ fea am aA aB aD y ∧ (∀ i, 0 ≤ i → i < p → 0 ≤ y i) ∧ (∀ M, 1 ≤ M → (∀ k, 0 ≤ k → k < am → aD k ≤ M) → ∀ i, 0 ≤ i → i < p → y i + kst cm cA cB cW PL y ≤ M * 1094476) ∧ kst cm cA cB cW PL y ≤ g ∧ LSS p cm am y cA cB cW PL aA aB aD
theorem gap_nn {pl x y : Int} (h : pl ≠ 0 → x ≤ y) : 0 ≤ gap pl x y := by
  unfold gap
  split
  · rename_i z
    rcases z with z | z
    · have := h z; omega
    · omega
  · omega
theorem pl_lt {p cm am k : Int} {y cA cB cW PL aA aB aD : Int → Int} (h : PBR p cm am cA cB cW PL aA aB aD) (hf : fea am aA aB aD y) (k0 : 0 ≤ k) (k1 : k < cm) (hp : PL k ≠ 0) : y (cA k) + 1 ≤ y (cB k) := by
  obtain ⟨l, l0, l1, l2, l3⟩ := h.2.2 k k0 k1 hp
  have := hf l l0 l1
  have := (h.1.2.2 l l0 l1).2.2
  rw [l2, l3] at *
  omega
theorem kst_nn {p cm am : Int} {y cA cB cW PL aA aB aD : Int → Int} (h : PBR p cm am cA cB cW PL aA aB aD) (hf : fea am aA aB aD y) : 0 ≤ kst cm cA cB cW PL y :=
  sm_nn (fun k a b => Int.mul_nonneg (h.1.2.1 k a b).2.2.1 (gap_nn (fun z => by have := pl_lt h hf a b z; omega)))
theorem rii_start {p cm am mo g g' : Int} {y cA cB cW PL aA aB aD : Int → Int} (h : RSA p cm am y cA cB cW PL aA aB aD mo g) (he : RSE am y aA aB aD mo) (hmo : mo = 0) (hg : 221100000 ≤ g') : RII p cm am y cA cB cW PL aA aB aD g' := by
  obtain ⟨hP, hy, ⟨rk, r1, r2, r3, r4⟩, hl⟩ := h
  have hf : fea am aA aB aD y := he hmo
  have p0 := hP.1.1
  have cb : ∀ M, 1 ≤ M → (∀ k, 0 ≤ k → k < am → aD k ≤ M) → kst cm cA cB cW PL y ≤ M * 1080000 := fun M hM hD => by
    have M75 : ∀ i, 0 ≤ i → i < p → y i ≤ M * 75 := fun i a b => by
      have := r3 M hM hD i a b
      have := Int.mul_le_mul_of_nonneg_left (r1 i a b).2 (show 0 ≤ M by omega)
      omega
    have := (smrg (f := fun k => cW k * gap (PL k) (y (cA k)) (y (cB k))) (lo := 0) (hi := M * 5400) (n := cm) (by omega) (fun k a b => by
      have c := hP.1.2.1 k a b
      have a1 := M75 _ c.1.1 c.1.2
      have a2 := M75 _ c.2.1.1 c.2.1.2
      have a3 := hy _ c.1.1 c.1.2
      have a4 := hy _ c.2.1.1 c.2.1.2
      have g0 := gap_nn (pl := PL k) (x := y (cA k)) (y := y (cB k)) (fun z => by have := pl_lt hP hf a b z; omega)
      have g1 : gap (PL k) (y (cA k)) (y (cB k)) ≤ M * 75 := by unfold gap; split <;> omega
      (try simp only [])
      refine ⟨Int.mul_nonneg c.2.2.1 g0, ?_⟩
      have := Int.mul_le_mul c.2.2.2 g1 g0 (by omega)
      omega)).2
    have t : M * 5400 * cm ≤ M * 5400 * 200 := Int.mul_le_mul_of_nonneg_left (by omega) (by omega)
    unfold kst
    omega
  refine ⟨hP, hf, hy, fun M hM hD i a b => ?_, ?_, fun _ x hx xb _ i a b => ?_⟩
  · have := cb M hM hD
    have := r3 M hM hD i a b
    have := Int.mul_le_mul_of_nonneg_left (r1 i a b).2 (show 0 ≤ M by omega)
    omega
  · have := cb 202 (by omega) (fun k a b => (hP.1.2.2 k a b).2.2.2); omega
  · have := hl x hx (fun i a b => (xb i a b).1) i a b
    have := (xb i a b).2
    omega
theorem kst_slp {p cm am : Int} {y u cA cB cW PL aA aB aD : Int → Int} (h : PBR p cm am cA cB cW PL aA aB aD) (hf : fea am aA aB aD y) (hu : ∀ i, 0 ≤ i → i < p → u i = 0 ∨ u i = 1) : 0 ≤ kst cm cA cB cW PL y + slp cm cA cB cW PL y u := by
  have := sm_add2 (n := cm) (f := fun k => cW k * gap (PL k) (y (cA k)) (y (cB k))) (g := fun k => cW k * edg y (PL k) (cA k) (cB k) u) (k := fun k => cW k * (gap (PL k) (y (cA k)) (y (cB k)) + edg y (PL k) (cA k) (cB k) u)) (fun k a b => by (try simp only []); rw [Int.mul_add])
  unfold kst slp
  rw [← this]
  refine sm_nn (fun k a b => ?_)
  have c := h.1.2.1 k a b
  refine Int.mul_nonneg c.2.2.1 ?_
  have ua := hu _ c.1.1 c.1.2
  have ub := hu _ c.2.1.1 c.2.1.2
  by_cases pl : PL k ≠ 0
  · have := pl_lt h hf a b pl
    unfold gap edg
    rw [if_pos (Or.inl pl), if_pos (Or.inl pl)]; omega
  · unfold gap edg
    by_cases l1 : y (cA k) < y (cB k)
    · rw [if_pos (Or.inr (by omega)), if_pos (Or.inr l1)]; omega
    · by_cases l2 : y (cB k) < y (cA k)
      · rw [if_neg (by omega), if_neg (by omega), if_pos l2]; omega
      · rw [if_pos (Or.inr (by omega)), if_neg (by omega), if_neg l2]
        split <;> omega
/-- how far the set may rise -/
def RD1 (y u cA cB PL : Int → Int) (d k : Int) : Prop := (1 ≤ d ∧ d ≤ 1000000) ∧ ∀ j, 0 ≤ j → j < k → PL j = 0 → (u (cA j) = 1 → u (cB j) = 0 → 0 < y (cB j) - y (cA j) → d ≤ y (cB j) - y (cA j)) ∧ (u (cA j) = 0 → u (cB j) = 1 → 0 < y (cA j) - y (cB j) → d ≤ y (cA j) - y (cB j))
def RDA (y u aA aB aD : Int → Int) (k d : Int) : Prop := ∀ j, 0 ≤ j → j < k → u (aA j) = 1 → u (aB j) = 0 → d ≤ y (aB j) - y (aA j) - aD j
def RDC (cm : Int) (y u cA cB PL : Int → Int) (d : Int) : Prop := RD1 y u cA cB PL d cm
theorem rd1_start {y u cA cB PL : Int → Int} {d k : Int} (hd : d = 1000000) (hk : k = 0) : RD1 y u cA cB PL d k := ⟨by omega, fun j a b => by omega⟩
theorem rd1_step {y u cA cB PL : Int → Int} {d d' k k' : Int} (h : RD1 y u cA cB PL d k) (hk : k' = k + 1) (hd : 1 ≤ d' ∧ d' ≤ d) (hc : PL k = 0 → (u (cA k) = 1 → u (cB k) = 0 → 0 < y (cB k) - y (cA k) → d' ≤ y (cB k) - y (cA k)) ∧ (u (cA k) = 0 → u (cB k) = 1 → 0 < y (cA k) - y (cB k) → d' ≤ y (cA k) - y (cB k))) : RD1 y u cA cB PL d' k' := by
  refine ⟨by have := h.1; omega, fun j a b pl => ?_⟩
  by_cases e : j = k
  · subst e; exact hc pl
  · have := h.2 j a (by omega) pl
    exact ⟨fun x y z => by have := this.1 x y z; omega, fun x y z => by have := this.2 x y z; omega⟩
theorem rd1_less {y u cA cB PL : Int → Int} {d d' k : Int} (h : RD1 y u cA cB PL d k) (hd : 1 ≤ d' ∧ d' ≤ d) : RD1 y u cA cB PL d' k := by
  refine ⟨by have := h.1; omega, fun j a b pl => ?_⟩
  have := h.2 j a b pl
  exact ⟨fun x y z => by have := this.1 x y z; omega, fun x y z => by have := this.2 x y z; omega⟩
theorem rda_step {y u aA aB aD : Int → Int} {d d' k k' : Int} (h : RDA y u aA aB aD k d) (hk : k' = k + 1) (hd : d' ≤ d) (hc : u (aA k) = 1 → u (aB k) = 0 → d' ≤ y (aB k) - y (aA k) - aD k) : RDA y u aA aB aD k' d' := by
  intro j a b c e
  by_cases z : j = k
  · subst z; exact hc c e
  · have := h j a (by omega) c e; omega
theorem slack1 {p cm am a k : Int} {y u cA cB cW PL aA aB aD : Int → Int} (hu : UPP p cm am u y cA cB cW PL aA aB aD a) (a0 : 0 < a) (hf : fea am aA aB aD y) (k0 : 0 ≤ k) (k1 : k < am) (h1 : u (aA k) = 1) (h2 : u (aB k) = 0) : 1 ≤ y (aB k) - y (aA k) - aD k := by
  have := hf k k0 k1
  by_cases z : y (aB k) - y (aA k) = aD k
  · have := (hu.2.2 a0).2.1 k k0 k1 z h1; omega
  · omega
theorem gap_up {pl x y a b d : Int} (ha : a = 0 ∨ a = 1) (hb : b = 0 ∨ b = 1) (d0 : 1 ≤ d) (dd : pl = 0 → (a = 1 → b = 0 → 0 < y - x → d ≤ y - x) ∧ (a = 0 → b = 1 → 0 < x - y → d ≤ x - y)) : gap pl (x + d * a) (y + d * b) = gap pl x y + d * (if pl ≠ 0 ∨ x < y then b - a else if y < x then a - b else if a = b then 0 else 1) := by
  unfold gap
  rcases ha with ha | ha <;> rcases hb with hb | hb <;> subst ha hb
  · simp only [Int.mul_zero, Int.add_zero, Int.sub_self]
    repeat' split
    all_goals first | omega | (rename_i zz; exact absurd trivial zz) | (rename_i zz; exact absurd rfl zz)
  · have q := fun z => (dd z).2 rfl rfl
    repeat' split
    all_goals first | omega | (rename_i zz; exact absurd trivial zz) | (rename_i zz; exact absurd rfl zz)
  · have q := fun z => (dd z).1 rfl rfl
    repeat' split
    all_goals first | omega | (rename_i zz; exact absurd trivial zz) | (rename_i zz; exact absurd rfl zz)
  · simp only [Int.mul_one, Int.sub_self]
    repeat' split
    all_goals first | omega | (rename_i zz; exact absurd trivial zz) | (rename_i zz; exact absurd rfl zz)
theorem kst_up {p cm am a d : Int} {y u z cA cB cW PL aA aB aD : Int → Int} (hu : UPP p cm am u y cA cB cW PL aA aB aD a) (hd : RDC cm y u cA cB PL d) (hz : ∀ i, 0 ≤ i → i < p → z i = y i + d * u i) : kst cm cA cB cW PL z = kst cm cA cB cW PL y + d * slp cm cA cB cW PL y u := by
  have hm := sm_mul (n := cm) (f := fun k => cW k * edg y (PL k) (cA k) (cB k) u) (k := fun k => d * (cW k * edg y (PL k) (cA k) (cB k) u)) (c := d) (fun _ _ _ => rfl)
  have ha := sm_add2 (n := cm) (f := fun k => cW k * gap (PL k) (y (cA k)) (y (cB k))) (g := fun k => d * (cW k * edg y (PL k) (cA k) (cB k) u)) (k := fun k => cW k * gap (PL k) (z (cA k)) (z (cB k))) (fun k a b => by
    have c := hu.1.2.1 k a b
    have ua := hu.2.1 _ c.1.1 c.1.2
    have ub := hu.2.1 _ c.2.1.1 c.2.1.2
    have za := hz _ c.1.1 c.1.2
    have zb := hz _ c.2.1.1 c.2.1.2
    have dd := hd.2 k a b
    have d0 := hd.1
    (try simp only [])
    rw [show d * (cW k * edg y (PL k) (cA k) (cB k) u) = cW k * (d * edg y (PL k) (cA k) (cB k) u) by rw [← Int.mul_assoc, Int.mul_comm d (cW k), Int.mul_assoc], ← Int.mul_add]
    congr 1
    rw [za, zb]; unfold edg
    exact gap_up ua ub d0.1 dd)
  unfold kst slp
  rw [ha, hm]
/-- costs that are all plain are linear -/
theorem kst_plain {cm : Int} {y cA cB cW PL : Int → Int} (h : ∀ k, 0 ≤ k → k < cm → PL k ≠ 0) : kst cm cA cB cW PL y = sm (fun k => cW k * (y (cB k) - y (cA k))) cm :=
  sm_congr (fun k a b => by (try simp only []); unfold gap; rw [if_pos (Or.inl (h k a b))])
noncomputable def ln (cm : Int) (cA cB cW z : Int → Int) : Int := sm (fun k => cW k * (z (cB k) - z (cA k))) cm
theorem ln_add {p cm : Int} {cA cB cW x y z : Int → Int} (hb : ∀ k, 0 ≤ k → k < cm → (0 ≤ cA k ∧ cA k < p) ∧ 0 ≤ cB k ∧ cB k < p) (h : ∀ i, 0 ≤ i → i < p → z i = x i + y i) : ln cm cA cB cW z = ln cm cA cB cW x + ln cm cA cB cW y :=
  sm_add2 (fun k a b => by
    have c := hb k a b
    (try simp only [])
    rw [h _ c.1.1 c.1.2, h _ c.2.1 c.2.2, ← Int.mul_add]; congr 1; omega)
theorem slp_plain {cm : Int} {y u cA cB cW PL : Int → Int} (h : ∀ k, 0 ≤ k → k < cm → PL k ≠ 0) : slp cm cA cB cW PL y u = ln cm cA cB cW u :=
  sm_congr (fun k a b => by (try simp only []); unfold edg; rw [if_pos (Or.inl (h k a b))])
theorem lev {p cm am a : Int} {y u z cA cB cW PL aA aB aD : Int → Int} (hu : UPP p cm am u y cA cB cW PL aA aB aD a) (a0 : 0 < a) (hp : ∀ k, 0 ≤ k → k < cm → PL k ≠ 0) (hf : fea am aA aB aD (fun i => y i + z i)) (hz : ∀ i, 0 ≤ i → i < p → 0 ≤ z i) : ∀ t, 0 ≤ t → t * slp cm cA cB cW PL y u ≤ ln cm cA cB cW (fun i => min (z i) t) ∧ (ln cm cA cB cW (fun i => min (z i) t) ≤ t * slp cm cA cB cW PL y u → 0 < t → ∀ i, 0 ≤ i → i < p → u i = 1 → t ≤ z i) := by
  have hb : ∀ k, 0 ≤ k → k < cm → (0 ≤ cA k ∧ cA k < p) ∧ 0 ≤ cB k ∧ cB k < p := fun k a b => ⟨(hu.1.2.1 k a b).1, (hu.1.2.1 k a b).2.1⟩
  refine sm_ind ?_ ?_
  · refine ⟨?_, fun _ h => by omega⟩
    rw [Int.zero_mul]
    have : ln cm cA cB cW (fun i => min (z i) 0) = 0 := sm_nil (fun k a b => by
      have c := hb k a b
      have := hz _ c.1.1 c.1.2
      have := hz _ c.2.1 c.2.2
      (try simp only [])
      rw [show min (z (cB k)) 0 = 0 by omega, show min (z (cA k)) 0 = 0 by omega]; simp)
    omega
  · intro t t0 ih
    have w1 : ∀ i, 0 ≤ i → i < p → (fun i => if t + 1 ≤ z i then (1 : Int) else 0) i = 0 ∨ (fun i => if t + 1 ≤ z i then (1 : Int) else 0) i = 1 := fun i _ _ => by (try simp only []); split <;> simp
    have w2 : clo am aA aB aD y (fun i => if t + 1 ≤ z i then (1 : Int) else 0) := fun k k0 k1 ht hA => by
      have := hf k k0 k1
      simp only [] at this hA ⊢
      have zA : t + 1 ≤ z (aA k) := by
        by_cases q : t + 1 ≤ z (aA k)
        · exact q
        · rw [if_neg q] at hA; omega
      rw [if_pos (by omega)]
    have w3 := (hu.2.2 a0).2.2 _ w1 w2
    have e := ln_add (cW := cW) hb (x := fun i => min (z i) t) (y := fun i => if t + 1 ≤ z i then (1 : Int) else 0) (z := fun i => min (z i) (t + 1)) (fun i _ _ => by
      (try simp only [])
      by_cases q : t + 1 ≤ z i
      · rw [if_pos q]; omega
      · rw [if_neg q]; omega)
    rw [slp_plain (u := fun i => if t + 1 ≤ z i then (1 : Int) else 0) hp] at w3
    rw [e, Int.add_mul, Int.one_mul]
    refine ⟨by have := ih.1; have := w3.1; omega, fun le _ i i0 i1 ui => ?_⟩
    have := w3.2 (by have := ih.1; omega) i i0 i1 ui
    (try simp only [] at this)
    by_cases q : t + 1 ≤ z i
    · exact q
    · rw [if_neg q] at this; omega
def RD3 (p cm am : Int) (y u cA cB cW PL aA aB aD : Int → Int) (d i a g : Int) : Prop := ∃ y0, RII p cm am y0 cA cB cW PL aA aB aD g ∧ UPP p cm am u y0 cA cB cW PL aA aB aD a ∧ 0 < a ∧ RDC cm y0 u cA cB PL d ∧ RDA y0 u aA aB aD am d ∧ (∀ j, 0 ≤ j → j < i → j < p → y j = y0 j + d * u j) ∧ ∀ j, i ≤ j → j < p → y j = y0 j
theorem rise_end {p cm am d i a g g' : Int} {y u cA cB cW PL aA aB aD : Int → Int} (h : RD3 p cm am y u cA cB cW PL aA aB aD d i a g) (hi : p ≤ i) (hg : g ≤ g' + 1) : RII p cm am y cA cB cW PL aA aB aD g' := by
  obtain ⟨y0, hR, hu, a0, hd, hd2, hy, _⟩ := h
  obtain ⟨hP, hf, hn, hM, hc, hL⟩ := hR
  have hz : ∀ j, 0 ≤ j → j < p → y j = y0 j + d * u j := fun j x z => hy j x (by omega) z
  have d0 := hd.1
  have sl := (hu.2.2 a0).1
  have ce := kst_up hu hd hz
  have dd : d * slp cm cA cB cW PL y0 u ≤ d * -1 := Int.mul_le_mul_of_nonneg_left sl (by omega)
  have du : ∀ j, 0 ≤ j → j < p → 0 ≤ d * u j ∧ d * u j ≤ d := fun j x z => by
    rcases hu.2.1 j x z with q | q <;> rw [q] <;> omega
  have hf' : fea am aA aB aD y := fun k k0 k1 => by
    have c := hP.1.2.2 k k0 k1
    have q := hf k k0 k1
    rw [hz _ c.1.1 c.1.2, hz _ c.2.1.1 c.2.1.2]
    have b1 := du _ c.1.1 c.1.2
    have b2 := du _ c.2.1.1 c.2.1.2
    rcases hu.2.1 _ c.1.1 c.1.2 with q1 | q1
    · rw [q1]; omega
    · rcases hu.2.1 _ c.2.1.1 c.2.1.2 with q2 | q2
      · have := hd2 k k0 k1 q1 q2; rw [q1, q2]; omega
      · rw [q1, q2]; omega
  refine ⟨hP, hf', fun j x z => by rw [hz j x z]; have := hn j x z; have := du j x z; omega, fun M m1 m2 j x z => ?_, by omega, fun hp x hx xb cx => ?_⟩
  · have := hM M m1 m2 j x z
    have := du j x z
    rw [hz j x z]; omega
  · -- the least strict one
    have hb : ∀ k, 0 ≤ k → k < cm → (0 ≤ cA k ∧ cA k < p) ∧ 0 ≤ cB k ∧ cB k < p := fun k a b => ⟨(hu.1.2.1 k a b).1, (hu.1.2.1 k a b).2.1⟩
    have fm : fea am aA aB aD (fun i => min (x i) (y0 i)) := fun k k0 k1 => by
      have := hx k k0 k1; have := hf k k0 k1; (try simp only []); omega
    have fM : fea am aA aB aD (fun i => y0 i + (max (x i) (y0 i) - y0 i)) := fun k k0 k1 => by
      have := hx k k0 k1; have := hf k k0 k1; (try simp only []); omega
    have mn : kst cm cA cB cW PL (fun i => min (x i) (y0 i)) ≤ kst cm cA cB cW PL y0 → ∀ i, 0 ≤ i → i < p → min (x i) (y0 i) = y0 i := fun le => hL hp _ fm (fun i i0 i1 => by have := xb i i0 i1; have := hn i i0 i1; (try simp only []); omega) le
    have mn2 : kst cm cA cB cW PL y0 ≤ kst cm cA cB cW PL (fun i => min (x i) (y0 i)) := by
      by_cases q : kst cm cA cB cW PL (fun i => min (x i) (y0 i)) ≤ kst cm cA cB cW PL y0
      · have := mn q
        rw [kst_plain hp, kst_plain hp]
        exact Int.le_of_eq (sm_congr (fun k a b => by have c := hb k a b; (try simp only []); rw [this _ c.1.1 c.1.2, this _ c.2.1 c.2.2]))
      · omega
    -- sums
    have e1 := ln_add (cW := cW) hb (x := fun i => min (x i) (y0 i)) (y := fun i => max (x i) (y0 i) - y0 i) (z := x) (fun i _ _ => by (try simp only []); omega)
    have cl : ∀ w, kst cm cA cB cW PL w = ln cm cA cB cW w := fun w => kst_plain hp
    have L := lev hu a0 hp fM (fun i _ _ => by (try simp only []); omega) d (by omega)
    have e2 : ln cm cA cB cW (fun i => min ((fun i => max (x i) (y0 i) - y0 i) i) d) = ln cm cA cB cW (fun i => max (x i) (y0 i) - y0 i) := sm_congr (fun k a b => by
      have c := hb k a b
      have q1 := xb _ c.1.1 c.1.2
      have q2 := xb _ c.2.1 c.2.2
      rw [hz _ c.1.1 c.1.2] at q1
      rw [hz _ c.2.1 c.2.2] at q2
      have b1 := du _ c.1.1 c.1.2
      have b2 := du _ c.2.1 c.2.2
      (try simp only [])
      rw [show min (max (x (cB k)) (y0 (cB k)) - y0 (cB k)) d = max (x (cB k)) (y0 (cB k)) - y0 (cB k) by omega, show min (max (x (cA k)) (y0 (cA k)) - y0 (cA k)) d = max (x (cA k)) (y0 (cA k)) - y0 (cA k) by omega])
    rw [e2] at L
    rw [cl] at mn mn2 cx ce
    rw [cl] at mn mn2 cx ce
    have top := L.2 (by omega) (by omega)
    have low := mn (by have := L.1; omega)
    intro i i0 i1
    have q1 := xb i i0 i1
    have q2 := low i i0 i1
    rw [hz i i0 i1] at q1 ⊢
    rcases hu.2.1 i i0 i1 with q | q
    · rw [q] at q1 ⊢; omega
    · have := top i i0 i1 q
      (try simp only [] at this)
      rw [q] at q1 ⊢; omega
theorem rd3_start {p cm am d i a g : Int} {y u cA cB cW PL aA aB aD : Int → Int} (hR : RII p cm am y cA cB cW PL aA aB aD g) (hu : UPP p cm am u y cA cB cW PL aA aB aD a) (a0 : 0 < a) (hd : RDC cm y u cA cB PL d) (hd2 : RDA y u aA aB aD am d) (hi : i = 0) : RD3 p cm am y u cA cB cW PL aA aB aD d i a g := ⟨y, hR, hu, a0, hd, hd2, fun j _ _ _ => by omega, fun _ _ _ => rfl⟩
theorem rd3_step {p cm am d i i' a g q v o w : Int} {y y' u cA cB cW PL aA aB aD : Int → Int} (h : RD3 p cm am y u cA cB cW PL aA aB aD d i a g) (i0 : 0 ≤ i) (i1 : i < p) (hi : i' = i + 1) (ho : o = y i) (hw : w = u i * d) (hv : v = o + w) (hs : st1 y y' q v) (hq : q = i) : RD3 p cm am y' u cA cB cW PL aA aB aD d i' a g := by
  obtain ⟨y0, hR, hu, a0, hd, hd2, hy, hy2⟩ := h
  refine ⟨y0, hR, hu, a0, hd, hd2, fun j x z z2 => ?_, fun j x z => ?_⟩
  · by_cases e : j = i
    · rw [(hs j x).1 (by omega), hv, ho, hw, e, hy2 i (by omega) i1, Int.mul_comm]
    · rw [(hs j x).2 (by omega)]; exact hy j x (by omega) z2
  · rw [(hs j (by omega)).2 (by omega)]; exact hy2 j (by omega) z
theorem rd3_bd {p cm am d i a g : Int} {y u cA cB cW PL aA aB aD : Int → Int} (h : RD3 p cm am y u cA cB cW PL aA aB aD d i a g) (i0 : 0 ≤ i) (i1 : i < p) : (u i = 0 ∨ u i = 1) ∧ (1 ≤ d ∧ d ≤ 1000000) ∧ (0 ≤ y i + u i * d ∧ y i + u i * d ≤ 221100000) ∧ 1 ≤ g := by
  obtain ⟨y0, hR, hu, a0, hd, hd2, hy, hy2⟩ := h
  have d0 := hd.1
  have full : RD3 p cm am (fun j => y0 j + d * u j) u cA cB cW PL aA aB aD d p a g := ⟨y0, hR, hu, a0, hd, hd2, fun j _ _ _ => rfl, fun j x z => by omega⟩
  have R := rise_end (g' := g - 1) full (by omega) (by omega)
  have b := R.2.2.2.1 202 (by omega) (fun k x z => (hu.1.2.2 k x z).2.2.2) i i0 i1
  have c := kst_nn R.1 R.2.1
  have e := R.2.2.1 i i0 i1
  have f := R.2.2.2.2.1
  (try simp only [] at b e)
  rw [hy2 i (by omega) i1, Int.mul_comm (u i) d]
  exact ⟨hu.2.1 i i0 i1, d0, ⟨by omega, by omega⟩, by omega⟩
theorem rii_bd {p cm am g : Int} {y cA cB cW PL aA aB aD : Int → Int} (h : RII p cm am y cA cB cW PL aA aB aD g) : (0 ≤ p ∧ p ≤ 76 ∧ 0 ≤ cm ∧ cm ≤ 200 ∧ 0 ≤ am ∧ am ≤ 200) ∧ 0 ≤ g ∧ (∀ i, 0 ≤ i → i < p → 0 ≤ y i ∧ y i ≤ 221100000) ∧ (∀ k, 0 ≤ k → k < cm → (0 ≤ cA k ∧ cA k < p) ∧ 0 ≤ cB k ∧ cB k < p) ∧ ∀ k, 0 ≤ k → k < am → (0 ≤ aA k ∧ aA k < p) ∧ (0 ≤ aB k ∧ aB k < p) ∧ 1 ≤ aD k ∧ aD k ≤ 202 := by
  obtain ⟨hP, hf, hn, hM, hc, hL⟩ := h
  have c := kst_nn hP hf
  have p0 := hP.1.1
  refine ⟨by omega, by omega, fun i a b => ⟨hn i a b, ?_⟩, fun k a b => ⟨(hP.1.2.1 k a b).1, (hP.1.2.1 k a b).2.1⟩, fun k a b => hP.1.2.2 k a b⟩
  have := hM 202 (by omega) (fun k x z => (hP.1.2.2 k x z).2.2.2) i a b
  omega
theorem rii_one {p cm am a g : Int} {y u cA cB cW PL aA aB aD : Int → Int} (h : RII p cm am y cA cB cW PL aA aB aD g) (hu : UPP p cm am u y cA cB cW PL aA aB aD a) (a0 : 0 < a) : 1 ≤ g := by
  have := kst_slp h.1 h.2.1 hu.2.1
  have := (hu.2.2 a0).1
  have := h.2.2.2.2.1
  omega
def RIP (p cm am : Int) (y cA cB cW PL aA aB aD : Int → Int) : Prop := RII p cm am y cA cB cW PL aA aB aD 221100001
def UZN (p : Int) (F : Int → Int) : Prop := UZ0 F ((p + 2) * (p + 2))
def UZG (g : Int → Int) (i : Int) : Prop := UZ0 g i ∧ True
def UZS (g : Int → Int) (i : Int) : Prop := UZ0 g i ∧ True
def BG1 (F q cb : Int → Int) (n f i : Int) : Prop := BF1 F q cb n (f - 1) ∧ q (f - 1) = i ∧ 1 ≤ f
def XLB (p : Int) (F : Int → Int) (g : Int) : Prop := XLE p F (g - 1)
def UPQ (p cm am : Int) (u y cA cB cW PL aA aB aD : Int → Int) : Prop := UPP p cm am u y cA cB cW PL aA aB aD 1
def RDX (p cm am : Int) (y u cA cB cW PL aA aB aD : Int → Int) (d i g : Int) : Prop := RD3 p cm am y u cA cB cW PL aA aB aD d i 1 g
theorem upq_of {p cm am a : Int} {u y cA cB cW PL aA aB aD : Int → Int} (h : UPP p cm am u y cA cB cW PL aA aB aD a) (a0 : 0 < a) : UPQ p cm am u y cA cB cW PL aA aB aD := ⟨h.1, h.2.1, fun _ => h.2.2 a0⟩
theorem xle_nn {p cm am g : Int} {F y cA cB cW PL aA aB aD : Int → Int} (h : FLO p cm am F y cA cB cW PL aA aB aD) (hx : XLE p F g) : 0 ≤ g := by
  have p0 := h.1.1
  have := xf_nn (ind_uS (s := p) (t := p + 1) (n := p + 2) (by omega)) (by omega) (flo_q h)
  unfold XLE at hx; omega
theorem bg1_start {F q cb : Int → Int} {n f f' i : Int} (h : BF1 F q cb n f) (f0 : 0 ≤ f) (hf : f' = f + 1) (hi : i = q f) : BG1 F q cb n f' i := by
  have e : f' - 1 = f := by omega
  exact ⟨by rw [e]; exact h, by rw [e]; exact hi.symm, by omega⟩
theorem bg1_step {F q cb cb' q' : Int → Int} {n f u p v i w : Int} (h : BG1 F q cb n f u) (hs : st1 cb cb' p v) (v0 : 0 ≤ v) (ht : st1 q q' i w) (hi : f ≤ i) : BG1 F q' cb' n f u := ⟨bf1_step h.1 hs v0 ht (by omega), by rw [(ht _ (by have := h.2.2; omega)).2 (by omega)]; exact h.2.1, h.2.2⟩
theorem bf2_skip1 {F cb : Int → Int} {n i j j' c : Int} (h : BF2 F cb n i j) (hj : j' = j + 1) (hc : c = cb j) (c0 : 0 ≤ c) : BF2 F cb n i j' := bf2_skip h hj (Or.inl (by omega))
theorem bf2_skip2 {F cb : Int → Int} {n i j j' q r o : Int} (h : BF2 F cb n i j) (hj : j' = j + 1) (hr : r = n * i) (hq : q = r + j) (ho : o = F q) (o0 : o = 0) : BF2 F cb n i j' := bf2_skip h hj (Or.inr (by rw [← hr, ← hq, ← ho, o0]))
theorem fpt_step2 {F cb cb' : Int → Int} {n s i p v q r o : Int} (h : FPT F cb n s) (hs : st1 cb cb' p v) (hv : v = i) (hr : r = n * i) (hq : q = r + p) (ho : o = F q) (o0 : o ≠ 0) (p0 : 0 ≤ p) : FPT F cb' n s := fpt_step (q := q) h hs hv (by rw [hq, hr]) (by rw [← ho]; exact o0) p0
/-- what is reached is reached with room -/
theorem mn1_step2 {p cm am : Int} {F qu cb y cA cB cW PL aA aB aD : Int → Int} {n s t x z z2 m m' o q r L K : Int} (h0 : FLO p cm am F y cA cB cW PL aA aB aD) (hF : FPT F cb n s) (hA : AUW qu cb n s L x K) (h : MN1 F cb n s t x m) (hn : n = p + 2) (hx : x ≠ s) (hz : z = cb x) (hz2 : z2 = cb x) (hr : r = n * z) (hq : q = r + x) (ho : o = F q) (hm : (m' = m ∧ m ≤ o) ∨ (m' = o ∧ o ≤ m)) : MN1 F cb n s t z2 m' := by
  rw [hz2, ← hz]
  obtain ⟨hB, k, k0, kg, k1, k2⟩ := hA
  have hk : k ≠ 0 := fun e => hx (by rw [← k2, e]; exact hB.2.1.1)
  obtain ⟨j, j0, j1, j2⟩ := hB.2.2.2.2.1 k (by omega) k1
  have x0 := hB.2.2.1 k k0 k1
  have z0 := hB.2.2.1 j j0 (by omega)
  rw [k2] at j2 x0
  rw [← j2] at z0
  have f1 := hF x x0.1 x0.2 z0.1 hx
  have f2 := (h0.2.1 (cb x) x z0.1 (by omega) x0.1 (by omega)).1
  rw [← hn] at f2
  have e : n * cb x + x = q := by rw [hq, hr, hz]
  rw [e] at f1 f2
  have := h.1
  exact mn1_step h hx hz (by rw [hq, hr]) ho (by omega) (by omega) (by omega) (by omega)
theorem psh_bdA {p cm am : Int} {F qu cb y cA cB cW PL aA aB aD : Int → Int} {m x g z v1 q1 n s o r L K : Int} (h : PSH p cm am F cb y cA cB cW PL aA aB aD m x g) (hA : AUW qu cb n s L x K) (hx : x ≠ s) (hs : s = p) (hz : z = cb x) (hn : n = p + 2) (hr : r = n * z) (hq1 : q1 = r + x) (ho : o = F q1) (hv : v1 = o - m) : 0 ≤ v1 ∧ v1 ≤ 410000000 := by
  obtain ⟨hB, k, k0, kg, k1, k2⟩ := hA
  have hk : k ≠ 0 := fun e => hx (by rw [← k2, e]; exact hB.2.1.1)
  obtain ⟨j, j0, j1, j2⟩ := hB.2.2.2.2.1 k (by omega) k1
  have x0 := hB.2.2.1 k k0 k1
  have z0 := hB.2.2.1 j j0 (by omega)
  rw [k2] at j2 x0
  rw [← j2, ← hz] at z0
  exact psh_bd (F1 := F) h (by omega) x0.1 x0.2 z0.1 z0.2 hz hn (by rw [hq1, hr]) ho hv
theorem psh_bdB {p cm am : Int} {F F1 qu cb y cA cB cW PL aA aB aD : Int → Int} {m x g z z2 v1 q1 n s o r L K v2 q2 o2 r2 : Int} (h : PSH p cm am F cb y cA cB cW PL aA aB aD m x g) (hA : AUW qu cb n s L x K) (hx : x ≠ s) (hs : s = p) (hz : z = cb x) (hz2 : z2 = cb x) (hn : n = p + 2) (hr : r = n * z) (hq1 : q1 = r + x) (ho : o = F q1) (hv : v1 = o - m) (ht : st1 F F1 q1 v1) (hr2 : r2 = n * x) (hq2 : q2 = r2 + z2) (ho2 : o2 = F1 q2) (hv2 : v2 = o2 + m) : 0 ≤ v2 ∧ v2 ≤ 410000000 := by
  obtain ⟨hB, k, k0, kg, k1, k2⟩ := hA
  have hk : k ≠ 0 := fun e => hx (by rw [← k2, e]; exact hB.2.1.1)
  obtain ⟨j, j0, j1, j2⟩ := hB.2.2.2.2.1 k (by omega) k1
  have x0 := hB.2.2.1 k k0 k1
  have z0 := hB.2.2.1 j j0 (by omega)
  have ne := hB.2.2.2.1 j k j0 j1 k1
  rw [k2] at j2 x0 ne
  rw [← j2, ← hz] at z0 ne
  have e : z2 = z := by rw [hz, hz2]
  subst e
  exact psh_bd2 h (by omega) x0.1 x0.2 z0.1 z0.2 ne hz hn (by rw [hq1, hr]) ho hv ht (by rw [hq2, hr2]) ho2 hv2
theorem psh_stepA {p cm am : Int} {F F1 F2 qu cb y cA cB cW PL aA aB aD : Int → Int} {m x g z z2 z3 v1 q1 n s o r L K v2 q2 o2 r2 : Int} (h : PSH p cm am F cb y cA cB cW PL aA aB aD m x g) (hA : AUW qu cb n s L x K) (hx : x ≠ s) (hs : s = p) (hz : z = cb x) (hz2 : z2 = cb x) (hz3 : z3 = cb x) (hn : n = p + 2) (hr : r = n * z) (hq1 : q1 = r + x) (ho : o = F q1) (hv : v1 = o - m) (ht : st1 F F1 q1 v1) (hr2 : r2 = n * x) (hq2 : q2 = r2 + z2) (ho2 : o2 = F1 q2) (hv2 : v2 = o2 + m) (ht2 : st1 F1 F2 q2 v2) : PSH p cm am F2 cb y cA cB cW PL aA aB aD m z3 g := by
  have e : z2 = z := by rw [hz, hz2]
  have e3 : z3 = z := by rw [hz, hz3]
  subst e e3
  rw [hs] at hA
  exact psh_step h hA (by omega) hz hn (by rw [hq1, hr]) ho hv ht (by rw [hq2, hr2]) ho2 hv2 ht2
theorem upc_v1 {p cm am k : Int} {F g y cA cB cW PL aA aB aD : Int → Int} {a w o : Int} (h : UPC p cm am F g y cA cB cW PL aA aB aD k) (k0 : 0 ≤ k) (k1 : k < cm) (ha : a = cA k ∨ a = cB k) (hw : w = cW k) (ho : o = g a) : (-14328 ≤ o ∧ o ≤ 14328) ∧ 0 ≤ w ∧ w ≤ 72 := by
  obtain ⟨b1, b2, b3, b4, b5, b6⟩ := upc_bd h k0 k1
  have : 0 ≤ a ∧ a < p := by rcases ha with z | z <;> rw [z] <;> assumption
  have := b5 a this.1 this.2
  omega
theorem upc_v2 {p cm am k : Int} {F g g1 y cA cB cW PL aA aB aD : Int → Int} {a b w w2 o v1 o2 : Int} (σ : Int) (h : UPC p cm am F g y cA cB cW PL aA aB aD k) (k0 : 0 ≤ k) (k1 : k < cm) (ha : a = cA k) (hb : b = cB k) (hw : w = cW k) (hw2 : w2 = cW k) (ho : o = g a) (hσ : σ = 1 ∨ σ = -1) (hv : v1 = o - σ * w) (hs : st1 g g1 a v1) (ho2 : o2 = g1 b) : -14400 ≤ o2 + σ * w2 ∧ o2 + σ * w2 ≤ 14400 := by
  obtain ⟨b1, b2, b3, b4, b5, b6⟩ := upc_bd h k0 k1
  rw [← ha] at b1
  rw [← hb] at b2
  have q1 := b5 a b1.1 b1.2
  have q2 := b5 b b2.1 b2.2
  have hs' := hs b b2.1
  rcases hσ with z | z <;> subst z <;> (by_cases e : b = a; (have := hs'.1 e; omega); (have := hs'.2 e; omega))
theorem upc_goP {p cm am k k' : Int} {F g g1 g2 y cA cB cW PL aA aB aD : Int → Int} {a b w w2 o1 v1 o2 v2 : Int} (h : UPC p cm am F g y cA cB cW PL aA aB aD k) (k0 : 0 ≤ k) (k1 : k < cm) (hk : k' = k + 1) (ha : a = cA k) (hb : b = cB k) (hw : w = cW k) (hw2 : w2 = cW k) (hc : PL k ≠ 0 ∨ y a < y b) (ho1 : o1 = g a) (hv1 : v1 = o1 - w) (hs1 : st1 g g1 a v1) (ho2 : o2 = g1 b) (hv2 : v2 = o2 + w2) (hs2 : st1 g1 g2 b v2) : UPC p cm am F g2 y cA cB cW PL aA aB aD k' :=
  upc_go 1 h k0 k1 hk ha hb hw (Or.inl ⟨rfl, hc⟩) ho1 (by omega) hs1 ho2 (by omega) hs2
theorem upc_goM {p cm am k k' : Int} {F g g1 g2 y cA cB cW PL aA aB aD : Int → Int} {a b w w2 o1 v1 o2 v2 : Int} (h : UPC p cm am F g y cA cB cW PL aA aB aD k) (k0 : 0 ≤ k) (k1 : k < cm) (hk : k' = k + 1) (ha : a = cA k) (hb : b = cB k) (hw : w = cW k) (hw2 : w2 = cW k) (hc : PL k = 0 ∧ y b < y a) (ho1 : o1 = g a) (hv1 : v1 = o1 + w) (hs1 : st1 g g1 a v1) (ho2 : o2 = g1 b) (hv2 : v2 = o2 - w2) (hs2 : st1 g1 g2 b v2) : UPC p cm am F g2 y cA cB cW PL aA aB aD k' :=
  upc_go (-1) h k0 k1 hk ha hb hw (Or.inr ⟨rfl, hc⟩) ho1 (by omega) hs1 ho2 (by omega) hs2
theorem upc_f1 {p cm am k n a b r q o w : Int} {F g y cA cB cW PL aA aB aD : Int → Int} (h : UPC p cm am F g y cA cB cW PL aA aB aD k) (k0 : 0 ≤ k) (k1 : k < cm) (hn : n = p + 2) (ha : a = cA k) (hb : b = cB k) (hr : r = n * a) (hq : q = r + b) (ho : o = F q) (hw : w = cW k) : (0 ≤ o ∧ o ≤ 28800) ∧ 0 ≤ w ∧ w ≤ 72 := by
  obtain ⟨b1, b2, b3, b4, b5, b6⟩ := upc_bd h k0 k1
  rw [← ha] at b1
  rw [← hb] at b2
  have := b6 a b b1.1 (by omega) b2.1 (by omega)
  rw [← hn, ← hr, ← hq, ← ho] at this
  omega
theorem upc_f2 {p cm am k n a b r q o w v1 r2 q2 o2 w2 : Int} {F F1 g y cA cB cW PL aA aB aD : Int → Int} (h : UPC p cm am F g y cA cB cW PL aA aB aD k) (k0 : 0 ≤ k) (k1 : k < cm) (hn : n = p + 2) (ha : a = cA k) (hb : b = cB k) (hr : r = n * a) (hq : q = r + b) (ho : o = F q) (hw : w = cW k) (hv : v1 = o + w) (hs : st1 F F1 q v1) (hr2 : r2 = n * b) (hq2 : q2 = r2 + a) (ho2 : o2 = F1 q2) (hw2 : w2 = cW k) : (0 ≤ o2 ∧ o2 ≤ 28872) ∧ 0 ≤ w2 ∧ w2 ≤ 72 := by
  obtain ⟨b1, b2, b3, b4, b5, b6⟩ := upc_bd h k0 k1
  rw [← ha] at b1
  rw [← hb] at b2
  have c1 := b6 a b b1.1 (by omega) b2.1 (by omega)
  have c2 := b6 b a b2.1 (by omega) b1.1 (by omega)
  rw [← hn, ← hr, ← hq, ← ho] at c1
  rw [← hn, ← hr2, ← hq2] at c2
  have q0 := (tb_ix (n := n) (q := q2) (by rw [hq2, hr2]) b2.1 (by omega) b1.1 (by omega)).2.2.1
  have hs' := hs q2 q0
  by_cases e : q2 = q
  · have := hs'.1 e; omega
  · have := hs'.2 e; omega
theorem upc_tie2 {p cm am k k' : Int} {F F1 F2 g y cA cB cW PL aA aB aD : Int → Int} {n a b w w2 o1 v1 o2 v2 q1 q2 r1 r2 : Int} (h : UPC p cm am F g y cA cB cW PL aA aB aD k) (k0 : 0 ≤ k) (k1 : k < cm) (hk : k' = k + 1) (hn : n = p + 2) (ha : a = cA k) (hb : b = cB k) (hw : w = cW k) (hw2 : w2 = cW k) (h0 : PL k = 0) (h1 : ¬ y a < y b) (h2 : ¬ y b < y a) (hr1 : r1 = n * a) (hq1 : q1 = r1 + b) (ho1 : o1 = F q1) (hv1 : v1 = o1 + w) (hs1 : st1 F F1 q1 v1) (hr2 : r2 = n * b) (hq2 : q2 = r2 + a) (ho2 : o2 = F1 q2) (hv2 : v2 = o2 + w2) (hs2 : st1 F1 F2 q2 v2) : UPC p cm am F2 g y cA cB cW PL aA aB aD k' :=
  upc_tie h k0 k1 hk hn ha hb hw h0 h1 h2 (by rw [hq1, hr1]) ho1 hv1 hs1 (by rw [hq2, hr2]) ho2 (by omega) hs2
theorem upi_step2 {p cm am i i' : Int} {F F1 g y cA cB cW PL aA aB aD : Int → Int} {n q v gi g2 r s t : Int} (h : UPI p cm am F g y cA cB cW PL aA aB aD i) (i0 : 0 ≤ i) (i1 : i < p) (hi : i' = i + 1) (hn : n = p + 2) (hs' : s = p) (ht : t = p + 1) (hg' : gi = g i) (hg2 : g2 = g i) (hc : (gi < 0 ∧ r = n * s ∧ q = r + i ∧ v = -g2) ∨ (0 ≤ gi ∧ r = n * i ∧ q = r + t ∧ v = g2)) (hs : st1 F F1 q v) : UPI p cm am F1 g y cA cB cW PL aA aB aD i' :=
  upi_step h i0 i1 hi hn hg' (by
    rcases hc with ⟨a, b, c, d⟩ | ⟨a, b, c, d⟩
    · exact Or.inl ⟨a, by rw [c, b, hs'], by omega⟩
    · exact Or.inr ⟨a, by rw [c, b, ht], by omega⟩) hs
theorem upa_step2 {p cm am k k' : Int} {F F1 y cA cB cW PL aA aB aD : Int → Int} {n a b r q o v : Int} (h : UPA p cm am F y cA cB cW PL aA aB aD k) (k0 : 0 ≤ k) (k1 : k < am) (hk : k' = k + 1) (hn : n = p + 2) (hd : y (aB k) - y (aA k) = aD k) (ha : a = aA k) (hb : b = aB k) (hr : r = n * a) (hq : q = r + b) (ho : o = F q) (hv : v = o + 1000000) (hs : st1 F F1 q v) : UPA p cm am F1 y cA cB cW PL aA aB aD k' := upa_step h k0 k1 hk hn hd ha hb (by rw [hq, hr]) ho hv hs
theorem upa_f {p cm am k n a b r q o : Int} {F y cA cB cW PL aA aB aD : Int → Int} (h : UPA p cm am F y cA cB cW PL aA aB aD k) (k0 : 0 ≤ k) (k1 : k < am) (hn : n = p + 2) (ha : a = aA k) (hb : b = aB k) (hr : r = n * a) (hq : q = r + b) (ho : o = F q) : 0 ≤ o ∧ o ≤ 199028800 := by
  obtain ⟨b1, b2, b3, b4⟩ := upa_bd h k0 k1
  rw [← ha] at b2
  rw [← hb] at b3
  have := b4 a b b2.1 (by omega) b3.1 (by omega)
  rw [← hn, ← hr, ← hq, ← ho] at this
  exact this
theorem uzg_step {F F' : Int → Int} {i i' p v : Int} (h : UZG F i) (hi : i' = i + 1) (hs : st1 F F' p v) (hp : p = i) (hv : v = 0) : UZG F' i' := ⟨uz0_step h.1 hi hs hp hv, trivial⟩
theorem uzs_step {F F' : Int → Int} {i i' p v : Int} (h : UZS F i) (hi : i' = i + 1) (hs : st1 F F' p v) (hp : p = i) (hv : v = 0) : UZS F' i' := ⟨uz0_step h.1 hi hs hp hv, trivial⟩
theorem upc_goP1 {p cm am k k' : Int} {F g g1 g2 y cA cB cW PL aA aB aD : Int → Int} {a b w w2 o1 v1 o2 v2 pl : Int} (h : UPC p cm am F g y cA cB cW PL aA aB aD k) (k0 : 0 ≤ k) (k1 : k < cm) (hk : k' = k + 1) (ha : a = cA k) (hb : b = cB k) (hw : w = cW k) (hw2 : w2 = cW k) (hpl : pl = PL k) (pl0 : pl ≠ 0) (ho1 : o1 = g a) (hv1 : v1 = o1 - w) (hs1 : st1 g g1 a v1) (ho2 : o2 = g1 b) (hv2 : v2 = o2 + w2) (hs2 : st1 g1 g2 b v2) : UPC p cm am F g2 y cA cB cW PL aA aB aD k' :=
  upc_goP h k0 k1 hk ha hb hw hw2 (Or.inl (by omega)) ho1 hv1 hs1 ho2 hv2 hs2
theorem upc_goP2 {p cm am k k' : Int} {F g g1 g2 y cA cB cW PL aA aB aD : Int → Int} {a b w w2 o1 v1 o2 v2 ya yb : Int} (h : UPC p cm am F g y cA cB cW PL aA aB aD k) (k0 : 0 ≤ k) (k1 : k < cm) (hk : k' = k + 1) (ha : a = cA k) (hb : b = cB k) (hw : w = cW k) (hw2 : w2 = cW k) (hya : ya = y a) (hyb : yb = y b) (hy : ya < yb) (ho1 : o1 = g a) (hv1 : v1 = o1 - w) (hs1 : st1 g g1 a v1) (ho2 : o2 = g1 b) (hv2 : v2 = o2 + w2) (hs2 : st1 g1 g2 b v2) : UPC p cm am F g2 y cA cB cW PL aA aB aD k' :=
  upc_goP h k0 k1 hk ha hb hw hw2 (Or.inr (by omega)) ho1 hv1 hs1 ho2 hv2 hs2
theorem upc_goM2 {p cm am k k' : Int} {F g g1 g2 y cA cB cW PL aA aB aD : Int → Int} {a b w w2 o1 v1 o2 v2 pl ya yb : Int} (h : UPC p cm am F g y cA cB cW PL aA aB aD k) (k0 : 0 ≤ k) (k1 : k < cm) (hk : k' = k + 1) (ha : a = cA k) (hb : b = cB k) (hw : w = cW k) (hw2 : w2 = cW k) (hpl : pl = PL k) (pl0 : pl = 0) (hya : ya = y a) (hyb : yb = y b) (hy : yb < ya) (ho1 : o1 = g a) (hv1 : v1 = o1 + w) (hs1 : st1 g g1 a v1) (ho2 : o2 = g1 b) (hv2 : v2 = o2 - w2) (hs2 : st1 g1 g2 b v2) : UPC p cm am F g2 y cA cB cW PL aA aB aD k' :=
  upc_goM h k0 k1 hk ha hb hw hw2 ⟨by omega, by omega⟩ ho1 hv1 hs1 ho2 hv2 hs2
theorem upc_tie3 {p cm am k k' : Int} {F F1 F2 g y cA cB cW PL aA aB aD : Int → Int} {n a b w w2 o1 v1 o2 v2 q1 q2 r1 r2 pl ya yb ya2 yb2 : Int} (h : UPC p cm am F g y cA cB cW PL aA aB aD k) (k0 : 0 ≤ k) (k1 : k < cm) (hk : k' = k + 1) (hn : n = p + 2) (ha : a = cA k) (hb : b = cB k) (hw : w = cW k) (hw2 : w2 = cW k) (hpl : pl = PL k) (pl0 : pl = 0) (hya : ya = y a) (hyb : yb = y b) (h1 : yb ≤ ya) (hya2 : ya2 = y a) (hyb2 : yb2 = y b) (h2 : ya2 ≤ yb2) (hr1 : r1 = n * a) (hq1 : q1 = r1 + b) (ho1 : o1 = F q1) (hv1 : v1 = o1 + w) (hs1 : st1 F F1 q1 v1) (hr2 : r2 = n * b) (hq2 : q2 = r2 + a) (ho2 : o2 = F1 q2) (hv2 : v2 = o2 + w2) (hs2 : st1 F1 F2 q2 v2) : UPC p cm am F2 g y cA cB cW PL aA aB aD k' :=
  upc_tie2 h k0 k1 hk hn ha hb hw hw2 (by omega) (by omega) (by omega) hr1 hq1 ho1 hv1 hs1 hr2 hq2 ho2 hv2 hs2
theorem upa_skip2 {p cm am k k' d c yb b ya a : Int} {F y cA cB cW PL aA aB aD : Int → Int} (h : UPA p cm am F y cA cB cW PL aA aB aD k) (k0 : 0 ≤ k) (hk : k' = k + 1) (hb : b = aB k) (hyb : yb = y b) (ha : a = aA k) (hya : ya = y a) (hc : c = yb - ya) (hd : d = aD k) (ne : c ≠ d) : UPA p cm am F y cA cB cW PL aA aB aD k' := upa_skip h k0 hk (by rw [← hb, ← ha, ← hyb, ← hya, ← hd, ← hc]; exact ne)
theorem upa_step3 {p cm am k k' d c yb b' ya a' : Int} {F F1 y cA cB cW PL aA aB aD : Int → Int} {n a b r q o v : Int} (h : UPA p cm am F y cA cB cW PL aA aB aD k) (k0 : 0 ≤ k) (k1 : k < am) (hk : k' = k + 1) (hn : n = p + 2) (hb' : b' = aB k) (hyb : yb = y b') (ha' : a' = aA k) (hya : ya = y a') (hc : c = yb - ya) (hd : d = aD k) (e : c = d) (ha : a = aA k) (hb : b = aB k) (hr : r = n * a) (hq : q = r + b) (ho : o = F q) (hv : v = o + 1000000) (hs : st1 F F1 q v) : UPA p cm am F1 y cA cB cW PL aA aB aD k' := upa_step2 h k0 k1 hk hn (by rw [← hb', ← ha', ← hyb, ← hya, ← hd, ← hc]; exact e) ha hb hr hq ho hv hs
theorem rd1_go {y u cA cB PL : Int → Int} {d d' k k' a b : Int} (h : RD1 y u cA cB PL d k) (hk : k' = k + 1) (ha : a = cA k) (hb : b = cB k) (hd : 1 ≤ d' ∧ d' ≤ d) (hc : PL k = 0 → (u a = 1 → u b = 0 → 0 < y b - y a → d' ≤ y b - y a) ∧ (u a = 0 → u b = 1 → 0 < y a - y b → d' ≤ y a - y b)) : RD1 y u cA cB PL d' k' := rd1_step h hk hd (fun z => by rw [← ha, ← hb]; exact hc z)
theorem rd1_pos {y u cA cB PL : Int → Int} {d k : Int} (h : RD1 y u cA cB PL d k) : 1 ≤ d := h.1.1
theorem rdc_of {y u cA cB PL : Int → Int} {d k cm : Int} (h : RD1 y u cA cB PL d k) (hk : cm ≤ k) : RDC cm y u cA cB PL d := ⟨h.1, fun j a b c => h.2 j a (by omega) c⟩
theorem rdc_less {y u cA cB PL : Int → Int} {d d' cm : Int} (h : RDC cm y u cA cB PL d) (h1 : 1 ≤ d') (h2 : d' ≤ d) : RDC cm y u cA cB PL d' := rd1_less h ⟨h1, h2⟩
theorem slk {p cm am k a b x z a' b' ya yb d g : Int} {y u cA cB cW PL aA aB aD : Int → Int} (hu : UPQ p cm am u y cA cB cW PL aA aB aD) (hR : RII p cm am y cA cB cW PL aA aB aD g) (k0 : 0 ≤ k) (k1 : k < am) (ha : a = aA k) (hx : x = u a) (x1 : x = 1) (hb : b = aB k) (hz : z = u b) (z0 : z = 0) (ha' : a' = aA k) (hya : ya = y a') (hb' : b' = aB k) (hyb : yb = y b') (hd : d = aD k) : 1 ≤ yb - ya - d := by
  have := slack1 hu (by omega) hR.2.1 k0 k1 (by rw [← ha, ← hx, x1]) (by rw [← hb, ← hz, z0])
  rw [hyb, hya, hd, hb', ha']; exact this
theorem rda_skip {y u aA aB aD : Int → Int} {d k k' a x b z : Int} (h : RDA y u aA aB aD k d) (hk : k' = k + 1) (hc : (a = aA k ∧ x = u a ∧ x ≠ 1) ∨ (b = aB k ∧ z = u b ∧ z ≠ 0)) : RDA y u aA aB aD k' d := rda_step h hk (Int.le_refl _) (fun h1 h2 => by
  rcases hc with ⟨e1, e2, e3⟩ | ⟨e1, e2, e3⟩
  · rw [e1] at e2; omega
  · rw [e1] at e2; omega)
theorem rda_go {y u aA aB aD : Int → Int} {d d' k k' a ya b yb w : Int} (h : RDA y u aA aB aD k d) (hk : k' = k + 1) (ha : a = aA k) (hya : ya = y a) (hb : b = aB k) (hyb : yb = y b) (hw : w = aD k) (h1 : d' ≤ d) (h2 : d' ≤ yb - ya - w) : RDA y u aA aB aD k' d' := rda_step h hk h1 (fun _ _ => by rw [← ha, ← hb, ← hya, ← hyb, ← hw]; exact h2)
theorem rsk_end {y aA aB aD : Int → Int} {mo k am : Int} (h : RSK y aA aB aD mo k) (hk : am ≤ k) : RSE am y aA aB aD mo := fun m j a b => h m j a (by omega)
theorem rsk_next {y aA aB aD : Int → Int} {mo k k' a ya b yb d v : Int} (h : RSK y aA aB aD mo k) (hk : k' = k + 1) (ha : a = aA k) (hya : ya = y a) (hb : b = aB k) (hyb : yb = y b) (hd : d = aD k) (hv : v = ya + d) (le : v ≤ yb) : RSK y aA aB aD mo k' := fun m j x z => by
  by_cases e : j = k
  · subst e; rw [← ha, ← hb, ← hya, ← hyb, ← hd]; omega
  · exact h m j x (by omega)
theorem rsb_go {p cm am mo mo' g k i v a ya d b' yb d' v' a' ya' : Int} {y y' cA cB cW PL aA aB aD : Int → Int} (h : RSB p cm am y cA cB cW PL aA aB aD mo g) (k0 : 0 ≤ k) (k1 : k < am) (hi : i = aB k) (ha : a = aA k) (hya : ya = y a) (hd : d = aD k) (hv : v = ya + d) (hb' : b' = aB k) (hyb : yb = y b') (ha' : a' = aA k) (hya' : ya' = y a') (hd' : d' = aD k) (hv' : v' = ya' + d') (lt : yb < v') (hs : st1 y y' i v) (hm0 : 0 ≤ mo) (hm : mo' = 1) : RSB p cm am y' cA cB cW PL aA aB aD mo' g := by
  have e : v' = v := by rw [hv', hv, hya', ha', hya, ha, hd', hd]
  exact rsb_step h k0 k1 hi (by rw [hv, hya, ha, hd]) (by rw [← hb', ← hyb, ← e]; exact lt) hs hm0 hm
theorem rsb_v {p cm am mo g k a ya d : Int} {y cA cB cW PL aA aB aD : Int → Int} (h : RSB p cm am y cA cB cW PL aA aB aD mo g) (k0 : 0 ≤ k) (k1 : k < am) (ha : a = aA k) (hya : ya = y a) (hd : d = aD k) : 0 ≤ ya + d ∧ ya + d ≤ 15150 := by
  have := (rsa_bd h).2.2.2 k k0 k1
  rw [← ha, ← hya, ← hd] at this
  exact this.2.2.2.2
theorem rd3_go {p cm am d i i' g q v o w c : Int} {y y' u cA cB cW PL aA aB aD : Int → Int} (h : RDX p cm am y u cA cB cW PL aA aB aD d i g) (i0 : 0 ≤ i) (i1 : i < p) (hi : i' = i + 1) (ho : o = y i) (hc : c = u i) (hw : w = c * d) (hv : v = o + w) (hs : st1 y y' q v) (hq : q = i) : RDX p cm am y' u cA cB cW PL aA aB aD d i' g := rd3_step h i0 i1 hi ho (by rw [hw, hc]) hv hs hq
theorem rd3_v {p cm am d i g o w c : Int} {y u cA cB cW PL aA aB aD : Int → Int} (h : RDX p cm am y u cA cB cW PL aA aB aD d i g) (i0 : 0 ≤ i) (i1 : i < p) (ho : o = y i) (hc : c = u i) (hw : w = c * d) : 0 ≤ o + w ∧ o + w ≤ 221100000 := by
  have := (rd3_bd h i0 i1).2.2.1
  rw [ho, hw, hc]; exact this
