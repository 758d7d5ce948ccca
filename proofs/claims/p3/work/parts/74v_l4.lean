section
/-! rise: the least places, then raised set by set -/
def fea (am : Int) (aA aB aD y : Int → Int) : Prop := ∀ k, 0 ≤ k → k < am → y (aA k) + aD k ≤ y (aB k)
def gap (pl x y : Int) : Int := if pl ≠ 0 ∨ x ≤ y then y - x else x - y
noncomputable def kst (cm : Int) (cA cB cW PL y : Int → Int) : Int := sm (fun k => cW k * gap (PL k) (y (cA k)) (y (cB k))) cm
/-- what rise wants: distances without a ring, plain costs along distances -/
def PBR (p cm am : Int) (cA cB cW PL aA aB aD : Int → Int) : Prop := PBK p cm am cA cB cW PL aA aB aD ∧ (∃ rk : Int → Int, (∀ i, 0 ≤ i → i < p → 0 ≤ rk i ∧ rk i ≤ 75) ∧ ∀ k, 0 ≤ k → k < am → rk (aA k) + 1 ≤ rk (aB k)) ∧ ∀ k, 0 ≤ k → k < cm → PL k ≠ 0 → ∃ l, 0 ≤ l ∧ l < am ∧ aA l = cA k ∧ aB l = cB k
def lst (p am : Int) (aA aB aD y : Int → Int) : Prop := ∀ x, fea am aA aB aD x → (∀ i, 0 ≤ i → i < p → 0 ≤ x i) → ∀ i, 0 ≤ i → i < p → y i ≤ x i
def RSA (p cm am : Int) (y cA cB cW PL aA aB aD : Int → Int) (mo g : Int) : Prop := PBR p cm am cA cB cW PL aA aB aD ∧ (∀ i, 0 ≤ i → i < p → 0 ≤ y i) ∧ (∃ rk : Int → Int, (∀ i, 0 ≤ i → i < p → 0 ≤ rk i ∧ rk i ≤ 75) ∧ (∀ k, 0 ≤ k → k < am → rk (aA k) + 1 ≤ rk (aB k)) ∧ (∀ M, 1 ≤ M → (∀ k, 0 ≤ k → k < am → aD k ≤ M) → ∀ i, 0 ≤ i → i < p → y i ≤ M * rk i) ∧ sm (fun i => 202 * rk i - y i) p + mo ≤ g) ∧ lst p am aA aB aD y
def RSB (p cm am : Int) (y cA cB cW PL aA aB aD : Int → Int) (mo g : Int) : Prop := RSA p cm am y cA cB cW PL aA aB aD mo (g - 1)
def RSK (y aA aB aD : Int → Int) (mo k : Int) : Prop := mo = 0 → ∀ j, 0 ≤ j → j < k → y (aA j) + aD j ≤ y (aB j)
def RSE (am : Int) (y aA aB aD : Int → Int) (mo : Int) : Prop := RSK y aA aB aD mo am
theorem rsa_start {p cm am mo g j : Int} {y cA cB cW PL aA aB aD : Int → Int} (h : PBR p cm am cA cB cW PL aA aB aD) (hy : UZ0 y j) (hj : p ≤ j) (hmo : mo ≤ 1) (hg : 1200000 ≤ g) : RSA p cm am y cA cB cW PL aA aB aD mo g := by
  obtain ⟨hP, ⟨rk, r1, r2⟩, h3⟩ := h
  have p0 := hP.1
  have hz : ∀ i, 0 ≤ i → i < p → y i = 0 := fun i a b => hy i a (by omega)
  refine ⟨⟨hP, ⟨rk, r1, r2⟩, h3⟩, fun i a b => by rw [hz i a b]; omega, ⟨rk, r1, r2, fun M hM _ i a b => ?_, ?_⟩, fun x _ hx i a b => by rw [hz i a b]; exact hx i a b⟩
  · rw [hz i a b]; exact Int.mul_nonneg (by omega) (r1 i a b).1
  · have := (smrg (f := fun i => 202 * rk i - y i) (lo := 0) (hi := 15150) (n := p) (by omega) (fun i a b => by
      have := r1 i a b
      have := hz i a b
      (try simp only [])
      omega)).2
    omega
theorem rsa_bd {p cm am mo g : Int} {y cA cB cW PL aA aB aD : Int → Int} (h : RSA p cm am y cA cB cW PL aA aB aD mo g) : (0 ≤ p ∧ p ≤ 76 ∧ 0 ≤ am ∧ am ≤ 200 ∧ 0 ≤ cm ∧ cm ≤ 200) ∧ mo ≤ g ∧ (∀ i, 0 ≤ i → i < p → 0 ≤ y i ∧ y i ≤ 15150) ∧ ∀ k, 0 ≤ k → k < am → (0 ≤ aA k ∧ aA k < p) ∧ (0 ≤ aB k ∧ aB k < p) ∧ 1 ≤ aD k ∧ aD k ≤ 202 ∧ 0 ≤ y (aA k) + aD k ∧ y (aA k) + aD k ≤ 15150 := by
  obtain ⟨⟨hP, hR, h3⟩, hy, ⟨rk, r1, r2, r3, r4⟩, hl⟩ := h
  have p0 := hP.1
  have M2 := r3 202 (by omega) (fun k a b => (hP.2.2 k a b).2.2.2)
  have yb : ∀ i, 0 ≤ i → i < p → 0 ≤ y i ∧ y i ≤ 15150 := fun i a b => by
    have := M2 i a b; have := r1 i a b; have := hy i a b; omega
  refine ⟨by omega, ?_, yb, fun k a b => ?_⟩
  · have := sm_nn (f := fun i => 202 * rk i - y i) (n := p) (fun i a b => by have := M2 i a b; (try simp only []); omega)
    omega
  · have c := hP.2.2 k a b
    have := M2 _ c.1.1 c.1.2
    have := r2 k a b
    have := r1 _ c.2.1.1 c.2.1.2
    have := hy _ c.1.1 c.1.2
    exact ⟨c.1, c.2.1, c.2.2.1, c.2.2.2, by omega, by omega⟩
theorem rsb_step {p cm am mo mo_zq g k i v : Int} {y y_zq cA cB cW PL aA aB aD : Int → Int} (h : RSB p cm am y cA cB cW PL aA aB aD mo g) (k0 : 0 ≤ k) (k1 : k < am) (hi : i = aB k) (hv : v = y (aA k) + aD k) (hlt : y (aB k) < v) (hs : st1 y y_zq i v) (hm0 : 0 ≤ mo) (hm : mo_zq = 1) : RSB p cm am y_zq cA cB cW PL aA aB aD mo_zq g := by
  obtain ⟨⟨hP, hR, h3⟩, hy, ⟨rk, r1, r2, r3, r4⟩, hl⟩ := h
  have c := hP.2.2 k k0 k1
  have p0 := hP.1
  rw [← hi] at c hlt
  have e1 : y_zq i = v := (hs i c.2.1.1).1 rfl
  have e2 : ∀ j, 0 ≤ j → j ≠ i → y_zq j = y j := fun j a b => (hs j a).2 b
  refine ⟨⟨hP, hR, h3⟩, fun j a b => ?_, ⟨rk, r1, r2, fun M hM hD j a b => ?_, ?_⟩, fun x hx x0 j a b => ?_⟩
  · by_cases z : j = i
    · rw [z, e1]; have := hy _ c.1.1 c.1.2; omega
    · rw [e2 j a z]; exact hy j a b
  · by_cases z : j = i
    · rw [z, e1, hv]
      have t1 := r3 M hM hD _ c.1.1 c.1.2
      have t2 := hD k k0 k1
      have t3 := r2 k k0 k1
      rw [← hi] at t3
      have t4 : M * (rk (aA k) + 1) ≤ M * rk i := Int.mul_le_mul_of_nonneg_left t3 (by omega)
      rw [Int.mul_add, Int.mul_one] at t4
      omega
    · rw [e2 j a z]; exact r3 M hM hD j a b
  · have := sm_pt (f := fun i => 202 * rk i - y i) (g := fun i => 202 * rk i - y_zq i) c.2.1.1 c.2.1.2 (fun j a b z => by (try simp only []); rw [e2 j a z])
    (try simp only [] at this)
    rw [e1] at this
    omega
  · by_cases z : j = i
    · rw [z, e1, hv]
      have := hl x hx x0 _ c.1.1 c.1.2
      have := hx k k0 k1
      rw [← hi] at this
      omega
    · rw [e2 j a z]; exact hl x hx x0 j a b
def LSS (p cm am : Int) (y cA cB cW PL aA aB aD : Int → Int) : Prop := (∀ k, 0 ≤ k → k < cm → PL k ≠ 0) → ∀ x, fea am aA aB aD x → (∀ i, 0 ≤ i → i < p → 0 ≤ x i ∧ x i ≤ y i) → kst cm cA cB cW PL x ≤ kst cm cA cB cW PL y → ∀ i, 0 ≤ i → i < p → x i = y i
def RII (p cm am : Int) (y cA cB cW PL aA aB aD : Int → Int) (g : Int) : Prop := PBR p cm am cA cB cW PL aA aB aD ∧ fea am aA aB aD y ∧ (∀ i, 0 ≤ i → i < p → 0 ≤ y i) ∧ (∀ M, 1 ≤ M → (∀ k, 0 ≤ k → k < am → aD k ≤ M) → ∀ i, 0 ≤ i → i < p → y i + kst cm cA cB cW PL y ≤ M * 1094476) ∧ kst cm cA cB cW PL y ≤ g ∧ LSS p cm am y cA cB cW PL aA aB aD
theorem gap_nn {pl x y : Int} (h : pl ≠ 0 → x ≤ y) : 0 ≤ gap pl x y := by
  unfold gap
  split
  · rename_i z
    rcases z with z | z
    · have := h z; omega
    · omega
  · omega
theorem pl_lt {p cm am k : Int} {y cA cB cW PL aA aB aD : Int → Int} (h : PBR p cm am cA cB cW PL aA aB aD) (hf : fea am aA aB aD y) (k0 : 0 ≤ k) (k1 : k < cm) (hp : PL k ≠ 0) : y (cA k) + 1 ≤ y (cB k) := by
  obtain ⟨l, l0, l1, l2, l3⟩ := h.2.2 k k0 k1 hp
  have := hf l l0 l1
  have := (h.1.2.2 l l0 l1).2.2
  rw [l2, l3] at *
  omega
theorem kst_nn {p cm am : Int} {y cA cB cW PL aA aB aD : Int → Int} (h : PBR p cm am cA cB cW PL aA aB aD) (hf : fea am aA aB aD y) : 0 ≤ kst cm cA cB cW PL y :=
  sm_nn (fun k a b => Int.mul_nonneg (h.1.2.1 k a b).2.2.1 (gap_nn (fun z => by have := pl_lt h hf a b z; omega)))
theorem rii_start {p cm am mo g g_zq : Int} {y cA cB cW PL aA aB aD : Int → Int} (h : RSA p cm am y cA cB cW PL aA aB aD mo g) (he : RSE am y aA aB aD mo) (hmo : mo = 0) (hg : 221100000 ≤ g_zq) : RII p cm am y cA cB cW PL aA aB aD g_zq := by
  obtain ⟨hP, hy, ⟨rk, r1, r2, r3, r4⟩, hl⟩ := h
  have hf : fea am aA aB aD y := he hmo
  have p0 := hP.1.1
  have cb : ∀ M, 1 ≤ M → (∀ k, 0 ≤ k → k < am → aD k ≤ M) → kst cm cA cB cW PL y ≤ M * 1080000 := fun M hM hD => by
    have M75 : ∀ i, 0 ≤ i → i < p → y i ≤ M * 75 := fun i a b => by
      have := r3 M hM hD i a b
      have := Int.mul_le_mul_of_nonneg_left (r1 i a b).2 (show 0 ≤ M by omega)
      omega
    have := (smrg (f := fun k => cW k * gap (PL k) (y (cA k)) (y (cB k))) (lo := 0) (hi := M * 5400) (n := cm) (by omega) (fun k a b => by
      have c := hP.1.2.1 k a b
      have a1 := M75 _ c.1.1 c.1.2
      have a2 := M75 _ c.2.1.1 c.2.1.2
      have a3 := hy _ c.1.1 c.1.2
      have a4 := hy _ c.2.1.1 c.2.1.2
      have g0 := gap_nn (pl := PL k) (x := y (cA k)) (y := y (cB k)) (fun z => by have := pl_lt hP hf a b z; omega)
      have g1 : gap (PL k) (y (cA k)) (y (cB k)) ≤ M * 75 := by unfold gap; split <;> omega
      (try simp only [])
      refine ⟨Int.mul_nonneg c.2.2.1 g0, ?_⟩
      have := Int.mul_le_mul c.2.2.2 g1 g0 (by omega)
      omega)).2
    have t : M * 5400 * cm ≤ M * 5400 * 200 := Int.mul_le_mul_of_nonneg_left (by omega) (by omega)
    unfold kst
    omega
  refine ⟨hP, hf, hy, fun M hM hD i a b => ?_, ?_, fun _ x hx xb _ i a b => ?_⟩
  · have := cb M hM hD
    have := r3 M hM hD i a b
    have := Int.mul_le_mul_of_nonneg_left (r1 i a b).2 (show 0 ≤ M by omega)
    omega
  · have := cb 202 (by omega) (fun k a b => (hP.1.2.2 k a b).2.2.2); omega
  · have := hl x hx (fun i a b => (xb i a b).1) i a b
    have := (xb i a b).2
    omega
theorem kst_slp {p cm am : Int} {y u cA cB cW PL aA aB aD : Int → Int} (h : PBR p cm am cA cB cW PL aA aB aD) (hf : fea am aA aB aD y) (hu : ∀ i, 0 ≤ i → i < p → u i = 0 ∨ u i = 1) : 0 ≤ kst cm cA cB cW PL y + slp cm cA cB cW PL y u := by
  have := sm_add2 (n := cm) (f := fun k => cW k * gap (PL k) (y (cA k)) (y (cB k))) (g := fun k => cW k * edg y (PL k) (cA k) (cB k) u) (k := fun k => cW k * (gap (PL k) (y (cA k)) (y (cB k)) + edg y (PL k) (cA k) (cB k) u)) (fun k a b => by (try simp only []); rw [Int.mul_add])
  unfold kst slp
  rw [← this]
  refine sm_nn (fun k a b => ?_)
  have c := h.1.2.1 k a b
  refine Int.mul_nonneg c.2.2.1 ?_
  have ua := hu _ c.1.1 c.1.2
  have ub := hu _ c.2.1.1 c.2.1.2
  by_cases pl : PL k ≠ 0
  · have := pl_lt h hf a b pl
    unfold gap edg
    rw [if_pos (Or.inl pl), if_pos (Or.inl pl)]; omega
  · unfold gap edg
    by_cases l1 : y (cA k) < y (cB k)
    · rw [if_pos (Or.inr (by omega)), if_pos (Or.inr l1)]; omega
    · by_cases l2 : y (cB k) < y (cA k)
      · rw [if_neg (by omega), if_neg (by omega), if_pos l2]; omega
      · rw [if_pos (Or.inr (by omega)), if_neg (by omega), if_neg l2]
        split <;> omega
/-- how far the set may rise -/
def RD1 (y u cA cB PL : Int → Int) (d k : Int) : Prop := (1 ≤ d ∧ d ≤ 1000000) ∧ ∀ j, 0 ≤ j → j < k → PL j = 0 → (u (cA j) = 1 → u (cB j) = 0 → 0 < y (cB j) - y (cA j) → d ≤ y (cB j) - y (cA j)) ∧ (u (cA j) = 0 → u (cB j) = 1 → 0 < y (cA j) - y (cB j) → d ≤ y (cA j) - y (cB j))
def RDA (y u aA aB aD : Int → Int) (k d : Int) : Prop := ∀ j, 0 ≤ j → j < k → u (aA j) = 1 → u (aB j) = 0 → d ≤ y (aB j) - y (aA j) - aD j
def RDC (cm : Int) (y u cA cB PL : Int → Int) (d : Int) : Prop := RD1 y u cA cB PL d cm
theorem rd1_start {y u cA cB PL : Int → Int} {d k : Int} (hd : d = 1000000) (hk : k = 0) : RD1 y u cA cB PL d k := ⟨by omega, fun j a b => by omega⟩
theorem rd1_step {y u cA cB PL : Int → Int} {d d_zq k k_zq : Int} (h : RD1 y u cA cB PL d k) (hk : k_zq = k + 1) (hd : 1 ≤ d_zq ∧ d_zq ≤ d) (hc : PL k = 0 → (u (cA k) = 1 → u (cB k) = 0 → 0 < y (cB k) - y (cA k) → d_zq ≤ y (cB k) - y (cA k)) ∧ (u (cA k) = 0 → u (cB k) = 1 → 0 < y (cA k) - y (cB k) → d_zq ≤ y (cA k) - y (cB k))) : RD1 y u cA cB PL d_zq k_zq := by
  refine ⟨by have := h.1; omega, fun j a b pl => ?_⟩
  by_cases e : j = k
  · subst e; exact hc pl
  · have := h.2 j a (by omega) pl
    exact ⟨fun x y z => by have := this.1 x y z; omega, fun x y z => by have := this.2 x y z; omega⟩
theorem rd1_less {y u cA cB PL : Int → Int} {d d_zq k : Int} (h : RD1 y u cA cB PL d k) (hd : 1 ≤ d_zq ∧ d_zq ≤ d) : RD1 y u cA cB PL d_zq k := by
  refine ⟨by have := h.1; omega, fun j a b pl => ?_⟩
  have := h.2 j a b pl
  exact ⟨fun x y z => by have := this.1 x y z; omega, fun x y z => by have := this.2 x y z; omega⟩
theorem rda_step {y u aA aB aD : Int → Int} {d d_zq k k_zq : Int} (h : RDA y u aA aB aD k d) (hk : k_zq = k + 1) (hd : d_zq ≤ d) (hc : u (aA k) = 1 → u (aB k) = 0 → d_zq ≤ y (aB k) - y (aA k) - aD k) : RDA y u aA aB aD k_zq d_zq := by
  intro j a b c e
  by_cases z : j = k
  · subst z; exact hc c e
  · have := h j a (by omega) c e; omega
theorem slack1 {p cm am a k : Int} {y u cA cB cW PL aA aB aD : Int → Int} (hu : UPP p cm am u y cA cB cW PL aA aB aD a) (a0 : 0 < a) (hf : fea am aA aB aD y) (k0 : 0 ≤ k) (k1 : k < am) (h1 : u (aA k) = 1) (h2 : u (aB k) = 0) : 1 ≤ y (aB k) - y (aA k) - aD k := by
  have := hf k k0 k1
  by_cases z : y (aB k) - y (aA k) = aD k
  · have := (hu.2.2 a0).2.1 k k0 k1 z h1; omega
  · omega
theorem gap_up {pl x y a b d : Int} (ha : a = 0 ∨ a = 1) (hb : b = 0 ∨ b = 1) (d0 : 1 ≤ d) (dd : pl = 0 → (a = 1 → b = 0 → 0 < y - x → d ≤ y - x) ∧ (a = 0 → b = 1 → 0 < x - y → d ≤ x - y)) : gap pl (x + d * a) (y + d * b) = gap pl x y + d * (if pl ≠ 0 ∨ x < y then b - a else if y < x then a - b else if a = b then 0 else 1) := by
  unfold gap
  rcases ha with ha | ha <;> rcases hb with hb | hb <;> subst ha hb
  · simp only [Int.mul_zero, Int.add_zero, Int.sub_self]
    repeat' split
    all_goals first | omega | (rename_i zz; exact absurd trivial zz) | (rename_i zz; exact absurd rfl zz)
  · have q := fun z => (dd z).2 rfl rfl
    repeat' split
    all_goals first | omega | (rename_i zz; exact absurd trivial zz) | (rename_i zz; exact absurd rfl zz)
  · have q := fun z => (dd z).1 rfl rfl
    repeat' split
    all_goals first | omega | (rename_i zz; exact absurd trivial zz) | (rename_i zz; exact absurd rfl zz)
  · simp only [Int.mul_one, Int.sub_self]
    repeat' split
    all_goals first | omega | (rename_i zz; exact absurd trivial zz) | (rename_i zz; exact absurd rfl zz)
theorem kst_up {p cm am a d : Int} {y u z cA cB cW PL aA aB aD : Int → Int} (hu : UPP p cm am u y cA cB cW PL aA aB aD a) (hd : RDC cm y u cA cB PL d) (hz : ∀ i, 0 ≤ i → i < p → z i = y i + d * u i) : kst cm cA cB cW PL z = kst cm cA cB cW PL y + d * slp cm cA cB cW PL y u := by
  have hm := sm_mul (n := cm) (f := fun k => cW k * edg y (PL k) (cA k) (cB k) u) (k := fun k => d * (cW k * edg y (PL k) (cA k) (cB k) u)) (c := d) (fun _ _ _ => rfl)
  have ha := sm_add2 (n := cm) (f := fun k => cW k * gap (PL k) (y (cA k)) (y (cB k))) (g := fun k => d * (cW k * edg y (PL k) (cA k) (cB k) u)) (k := fun k => cW k * gap (PL k) (z (cA k)) (z (cB k))) (fun k a b => by
    have c := hu.1.2.1 k a b
    have ua := hu.2.1 _ c.1.1 c.1.2
    have ub := hu.2.1 _ c.2.1.1 c.2.1.2
    have za := hz _ c.1.1 c.1.2
    have zb := hz _ c.2.1.1 c.2.1.2
    have dd := hd.2 k a b
    have d0 := hd.1
    (try simp only [])
    rw [show d * (cW k * edg y (PL k) (cA k) (cB k) u) = cW k * (d * edg y (PL k) (cA k) (cB k) u) by rw [← Int.mul_assoc, Int.mul_comm d (cW k), Int.mul_assoc], ← Int.mul_add]
    congr 1
    rw [za, zb]; unfold edg
    exact gap_up ua ub d0.1 dd)
  unfold kst slp
  rw [ha, hm]
/-- costs that are all plain are linear -/
theorem kst_plain {cm : Int} {y cA cB cW PL : Int → Int} (h : ∀ k, 0 ≤ k → k < cm → PL k ≠ 0) : kst cm cA cB cW PL y = sm (fun k => cW k * (y (cB k) - y (cA k))) cm :=
  sm_congr (fun k a b => by (try simp only []); unfold gap; rw [if_pos (Or.inl (h k a b))])
noncomputable def ln (cm : Int) (cA cB cW z : Int → Int) : Int := sm (fun k => cW k * (z (cB k) - z (cA k))) cm
theorem ln_add {p cm : Int} {cA cB cW x y z : Int → Int} (hb : ∀ k, 0 ≤ k → k < cm → (0 ≤ cA k ∧ cA k < p) ∧ 0 ≤ cB k ∧ cB k < p) (h : ∀ i, 0 ≤ i → i < p → z i = x i + y i) : ln cm cA cB cW z = ln cm cA cB cW x + ln cm cA cB cW y :=
  sm_add2 (fun k a b => by
    have c := hb k a b
    (try simp only [])
    rw [h _ c.1.1 c.1.2, h _ c.2.1 c.2.2, ← Int.mul_add]; congr 1; omega)
theorem slp_plain {cm : Int} {y u cA cB cW PL : Int → Int} (h : ∀ k, 0 ≤ k → k < cm → PL k ≠ 0) : slp cm cA cB cW PL y u = ln cm cA cB cW u :=
  sm_congr (fun k a b => by (try simp only []); unfold edg; rw [if_pos (Or.inl (h k a b))])
theorem lev {p cm am a : Int} {y u z cA cB cW PL aA aB aD : Int → Int} (hu : UPP p cm am u y cA cB cW PL aA aB aD a) (a0 : 0 < a) (hp : ∀ k, 0 ≤ k → k < cm → PL k ≠ 0) (hf : fea am aA aB aD (fun i => y i + z i)) (hz : ∀ i, 0 ≤ i → i < p → 0 ≤ z i) : ∀ t, 0 ≤ t → t * slp cm cA cB cW PL y u ≤ ln cm cA cB cW (fun i => min (z i) t) ∧ (ln cm cA cB cW (fun i => min (z i) t) ≤ t * slp cm cA cB cW PL y u → 0 < t → ∀ i, 0 ≤ i → i < p → u i = 1 → t ≤ z i) := by
  have hb : ∀ k, 0 ≤ k → k < cm → (0 ≤ cA k ∧ cA k < p) ∧ 0 ≤ cB k ∧ cB k < p := fun k a b => ⟨(hu.1.2.1 k a b).1, (hu.1.2.1 k a b).2.1⟩
  refine sm_ind ?_ ?_
  · refine ⟨?_, fun _ h => by omega⟩
    rw [Int.zero_mul]
    have : ln cm cA cB cW (fun i => min (z i) 0) = 0 := sm_nil (fun k a b => by
      have c := hb k a b
      have := hz _ c.1.1 c.1.2
      have := hz _ c.2.1 c.2.2
      (try simp only [])
      rw [show min (z (cB k)) 0 = 0 by omega, show min (z (cA k)) 0 = 0 by omega]; simp)
    omega
  · intro t t0 ih
    have w1 : ∀ i, 0 ≤ i → i < p → (fun i => if t + 1 ≤ z i then (1 : Int) else 0) i = 0 ∨ (fun i => if t + 1 ≤ z i then (1 : Int) else 0) i = 1 := fun i _ _ => by (try simp only []); split <;> simp
    have w2 : clo am aA aB aD y (fun i => if t + 1 ≤ z i then (1 : Int) else 0) := fun k k0 k1 ht hA => by
      have := hf k k0 k1
      simp only [] at this hA ⊢
      have zA : t + 1 ≤ z (aA k) := by
        by_cases q : t + 1 ≤ z (aA k)
        · exact q
        · rw [if_neg q] at hA; omega
      rw [if_pos (by omega)]
    have w3 := (hu.2.2 a0).2.2 _ w1 w2
    have e := ln_add (cW := cW) hb (x := fun i => min (z i) t) (y := fun i => if t + 1 ≤ z i then (1 : Int) else 0) (z := fun i => min (z i) (t + 1)) (fun i _ _ => by
      (try simp only [])
      by_cases q : t + 1 ≤ z i
      · rw [if_pos q]; omega
      · rw [if_neg q]; omega)
    rw [slp_plain (u := fun i => if t + 1 ≤ z i then (1 : Int) else 0) hp] at w3
    rw [e, Int.add_mul, Int.one_mul]
    refine ⟨by have := ih.1; have := w3.1; omega, fun le _ i i0 i1 ui => ?_⟩
    have := w3.2 (by have := ih.1; omega) i i0 i1 ui
    (try simp only [] at this)
    by_cases q : t + 1 ≤ z i
    · exact q
    · rw [if_neg q] at this; omega
def RD3 (p cm am : Int) (y u cA cB cW PL aA aB aD : Int → Int) (d i a g : Int) : Prop := ∃ y0, RII p cm am y0 cA cB cW PL aA aB aD g ∧ UPP p cm am u y0 cA cB cW PL aA aB aD a ∧ 0 < a ∧ RDC cm y0 u cA cB PL d ∧ RDA y0 u aA aB aD am d ∧ (∀ j, 0 ≤ j → j < i → j < p → y j = y0 j + d * u j) ∧ ∀ j, i ≤ j → j < p → y j = y0 j
theorem rise_end {p cm am d i a g g_zq : Int} {y u cA cB cW PL aA aB aD : Int → Int} (h : RD3 p cm am y u cA cB cW PL aA aB aD d i a g) (hi : p ≤ i) (hg : g ≤ g_zq + 1) : RII p cm am y cA cB cW PL aA aB aD g_zq := by
  obtain ⟨y0, hR, hu, a0, hd, hd2, hy, _⟩ := h
  obtain ⟨hP, hf, hn, hM, hc, hL⟩ := hR
  have hz : ∀ j, 0 ≤ j → j < p → y j = y0 j + d * u j := fun j x z => hy j x (by omega) z
  have d0 := hd.1
  have sl := (hu.2.2 a0).1
  have ce := kst_up hu hd hz
  have dd : d * slp cm cA cB cW PL y0 u ≤ d * -1 := Int.mul_le_mul_of_nonneg_left sl (by omega)
  have du : ∀ j, 0 ≤ j → j < p → 0 ≤ d * u j ∧ d * u j ≤ d := fun j x z => by
    rcases hu.2.1 j x z with q | q <;> rw [q] <;> omega
  have hf_zq : fea am aA aB aD y := fun k k0 k1 => by
    have c := hP.1.2.2 k k0 k1
    have q := hf k k0 k1
    rw [hz _ c.1.1 c.1.2, hz _ c.2.1.1 c.2.1.2]
    have b1 := du _ c.1.1 c.1.2
    have b2 := du _ c.2.1.1 c.2.1.2
    rcases hu.2.1 _ c.1.1 c.1.2 with q1 | q1
    · rw [q1]; omega
    · rcases hu.2.1 _ c.2.1.1 c.2.1.2 with q2 | q2
      · have := hd2 k k0 k1 q1 q2; rw [q1, q2]; omega
      · rw [q1, q2]; omega
  refine ⟨hP, hf_zq, fun j x z => by rw [hz j x z]; have := hn j x z; have := du j x z; omega, fun M m1 m2 j x z => ?_, by omega, fun hp x hx xb cx => ?_⟩
  · have := hM M m1 m2 j x z
    have := du j x z
    rw [hz j x z]; omega
  · -- the least strict one
    have hb : ∀ k, 0 ≤ k → k < cm → (0 ≤ cA k ∧ cA k < p) ∧ 0 ≤ cB k ∧ cB k < p := fun k a b => ⟨(hu.1.2.1 k a b).1, (hu.1.2.1 k a b).2.1⟩
    have fm : fea am aA aB aD (fun i => min (x i) (y0 i)) := fun k k0 k1 => by
      have := hx k k0 k1; have := hf k k0 k1; (try simp only []); omega
    have fM : fea am aA aB aD (fun i => y0 i + (max (x i) (y0 i) - y0 i)) := fun k k0 k1 => by
      have := hx k k0 k1; have := hf k k0 k1; (try simp only []); omega
    have mn : kst cm cA cB cW PL (fun i => min (x i) (y0 i)) ≤ kst cm cA cB cW PL y0 → ∀ i, 0 ≤ i → i < p → min (x i) (y0 i) = y0 i := fun le => hL hp _ fm (fun i i0 i1 => by have := xb i i0 i1; have := hn i i0 i1; (try simp only []); omega) le
    have mn2 : kst cm cA cB cW PL y0 ≤ kst cm cA cB cW PL (fun i => min (x i) (y0 i)) := by
      by_cases q : kst cm cA cB cW PL (fun i => min (x i) (y0 i)) ≤ kst cm cA cB cW PL y0
      · have := mn q
        rw [kst_plain hp, kst_plain hp]
        exact Int.le_of_eq (sm_congr (fun k a b => by have c := hb k a b; (try simp only []); rw [this _ c.1.1 c.1.2, this _ c.2.1 c.2.2]))
      · omega
    -- sums
    have e1 := ln_add (cW := cW) hb (x := fun i => min (x i) (y0 i)) (y := fun i => max (x i) (y0 i) - y0 i) (z := x) (fun i _ _ => by (try simp only []); omega)
    have cl : ∀ w, kst cm cA cB cW PL w = ln cm cA cB cW w := fun w => kst_plain hp
    have L := lev hu a0 hp fM (fun i _ _ => by (try simp only []); omega) d (by omega)
    have e2 : ln cm cA cB cW (fun i => min ((fun i => max (x i) (y0 i) - y0 i) i) d) = ln cm cA cB cW (fun i => max (x i) (y0 i) - y0 i) := sm_congr (fun k a b => by
      have c := hb k a b
      have q1 := xb _ c.1.1 c.1.2
      have q2 := xb _ c.2.1 c.2.2
      rw [hz _ c.1.1 c.1.2] at q1
      rw [hz _ c.2.1 c.2.2] at q2
      have b1 := du _ c.1.1 c.1.2
      have b2 := du _ c.2.1 c.2.2
      (try simp only [])
      rw [show min (max (x (cB k)) (y0 (cB k)) - y0 (cB k)) d = max (x (cB k)) (y0 (cB k)) - y0 (cB k) by omega, show min (max (x (cA k)) (y0 (cA k)) - y0 (cA k)) d = max (x (cA k)) (y0 (cA k)) - y0 (cA k) by omega])
    rw [e2] at L
    rw [cl] at mn mn2 cx ce
    rw [cl] at mn mn2 cx ce
    have top := L.2 (by omega) (by omega)
    have low := mn (by have := L.1; omega)
    intro i i0 i1
    have q1 := xb i i0 i1
    have q2 := low i i0 i1
    rw [hz i i0 i1] at q1 ⊢
    rcases hu.2.1 i i0 i1 with q | q
    · rw [q] at q1 ⊢; omega
    · have := top i i0 i1 q
      (try simp only [] at this)
      rw [q] at q1 ⊢; omega
theorem rd3_start {p cm am d i a g : Int} {y u cA cB cW PL aA aB aD : Int → Int} (hR : RII p cm am y cA cB cW PL aA aB aD g) (hu : UPP p cm am u y cA cB cW PL aA aB aD a) (a0 : 0 < a) (hd : RDC cm y u cA cB PL d) (hd2 : RDA y u aA aB aD am d) (hi : i = 0) : RD3 p cm am y u cA cB cW PL aA aB aD d i a g := ⟨y, hR, hu, a0, hd, hd2, fun j _ _ _ => by omega, fun _ _ _ => rfl⟩
theorem rd3_step {p cm am d i i_zq a g q v o w : Int} {y y_zq u cA cB cW PL aA aB aD : Int → Int} (h : RD3 p cm am y u cA cB cW PL aA aB aD d i a g) (i0 : 0 ≤ i) (i1 : i < p) (hi : i_zq = i + 1) (ho : o = y i) (hw : w = u i * d) (hv : v = o + w) (hs : st1 y y_zq q v) (hq : q = i) : RD3 p cm am y_zq u cA cB cW PL aA aB aD d i_zq a g := by
  obtain ⟨y0, hR, hu, a0, hd, hd2, hy, hy2⟩ := h
  refine ⟨y0, hR, hu, a0, hd, hd2, fun j x z z2 => ?_, fun j x z => ?_⟩
  · by_cases e : j = i
    · rw [(hs j x).1 (by omega), hv, ho, hw, e, hy2 i (by omega) i1, Int.mul_comm]
    · rw [(hs j x).2 (by omega)]; exact hy j x (by omega) z2
  · rw [(hs j (by omega)).2 (by omega)]; exact hy2 j (by omega) z
theorem rd3_bd {p cm am d i a g : Int} {y u cA cB cW PL aA aB aD : Int → Int} (h : RD3 p cm am y u cA cB cW PL aA aB aD d i a g) (i0 : 0 ≤ i) (i1 : i < p) : (u i = 0 ∨ u i = 1) ∧ (1 ≤ d ∧ d ≤ 1000000) ∧ (0 ≤ y i + u i * d ∧ y i + u i * d ≤ 221100000) ∧ 1 ≤ g := by
  obtain ⟨y0, hR, hu, a0, hd, hd2, hy, hy2⟩ := h
  have d0 := hd.1
  have full : RD3 p cm am (fun j => y0 j + d * u j) u cA cB cW PL aA aB aD d p a g := ⟨y0, hR, hu, a0, hd, hd2, fun j _ _ _ => rfl, fun j x z => by omega⟩
  have R := rise_end (g_zq := g - 1) full (by omega) (by omega)
  have b := R.2.2.2.1 202 (by omega) (fun k x z => (hu.1.2.2 k x z).2.2.2) i i0 i1
  have c := kst_nn R.1 R.2.1
  have e := R.2.2.1 i i0 i1
  have f := R.2.2.2.2.1
  (try simp only [] at b e)
  rw [hy2 i (by omega) i1, Int.mul_comm (u i) d]
  exact ⟨hu.2.1 i i0 i1, d0, ⟨by omega, by omega⟩, by omega⟩
theorem rii_bd {p cm am g : Int} {y cA cB cW PL aA aB aD : Int → Int} (h : RII p cm am y cA cB cW PL aA aB aD g) : (0 ≤ p ∧ p ≤ 76 ∧ 0 ≤ cm ∧ cm ≤ 200 ∧ 0 ≤ am ∧ am ≤ 200) ∧ 0 ≤ g ∧ (∀ i, 0 ≤ i → i < p → 0 ≤ y i ∧ y i ≤ 221100000) ∧ (∀ k, 0 ≤ k → k < cm → (0 ≤ cA k ∧ cA k < p) ∧ 0 ≤ cB k ∧ cB k < p) ∧ ∀ k, 0 ≤ k → k < am → (0 ≤ aA k ∧ aA k < p) ∧ (0 ≤ aB k ∧ aB k < p) ∧ 1 ≤ aD k ∧ aD k ≤ 202 := by
  obtain ⟨hP, hf, hn, hM, hc, hL⟩ := h
  have c := kst_nn hP hf
  have p0 := hP.1.1
  refine ⟨by omega, by omega, fun i a b => ⟨hn i a b, ?_⟩, fun k a b => ⟨(hP.1.2.1 k a b).1, (hP.1.2.1 k a b).2.1⟩, fun k a b => hP.1.2.2 k a b⟩
  have := hM 202 (by omega) (fun k x z => (hP.1.2.2 k x z).2.2.2) i a b
  omega
theorem rii_one {p cm am a g : Int} {y u cA cB cW PL aA aB aD : Int → Int} (h : RII p cm am y cA cB cW PL aA aB aD g) (hu : UPP p cm am u y cA cB cW PL aA aB aD a) (a0 : 0 < a) : 1 ≤ g := by
  have := kst_slp h.1 h.2.1 hu.2.1
  have := (hu.2.2 a0).1
  have := h.2.2.2.2.1
  omega
def RIP (p cm am : Int) (y cA cB cW PL aA aB aD : Int → Int) : Prop := RII p cm am y cA cB cW PL aA aB aD 221100001
def UZN (p : Int) (F : Int → Int) : Prop := UZ0 F ((p + 2) * (p + 2))
def UZG (g : Int → Int) (i : Int) : Prop := UZ0 g i ∧ True
def UZS (g : Int → Int) (i : Int) : Prop := UZ0 g i ∧ True
def BG1 (F q cb : Int → Int) (n f i : Int) : Prop := BF1 F q cb n (f - 1) ∧ q (f - 1) = i ∧ 1 ≤ f
def XLB (p : Int) (F : Int → Int) (g : Int) : Prop := XLE p F (g - 1)
def UPQ (p cm am : Int) (u y cA cB cW PL aA aB aD : Int → Int) : Prop := UPP p cm am u y cA cB cW PL aA aB aD 1
def RDX (p cm am : Int) (y u cA cB cW PL aA aB aD : Int → Int) (d i g : Int) : Prop := RD3 p cm am y u cA cB cW PL aA aB aD d i 1 g
theorem upq_of {p cm am a : Int} {u y cA cB cW PL aA aB aD : Int → Int} (h : UPP p cm am u y cA cB cW PL aA aB aD a) (a0 : 0 < a) : UPQ p cm am u y cA cB cW PL aA aB aD := ⟨h.1, h.2.1, fun _ => h.2.2 a0⟩
theorem xle_nn {p cm am g : Int} {F y cA cB cW PL aA aB aD : Int → Int} (h : FLO p cm am F y cA cB cW PL aA aB aD) (hx : XLE p F g) : 0 ≤ g := by
  have p0 := h.1.1
  have := xf_nn (ind_uS (s := p) (t := p + 1) (n := p + 2) (by omega)) (by omega) (flo_q h)
  unfold XLE at hx; omega
theorem bg1_start {F q cb : Int → Int} {n f f_zq i : Int} (h : BF1 F q cb n f) (f0 : 0 ≤ f) (hf : f_zq = f + 1) (hi : i = q f) : BG1 F q cb n f_zq i := by
  have e : f_zq - 1 = f := by omega
  exact ⟨by rw [e]; exact h, by rw [e]; exact hi.symm, by omega⟩
theorem bg1_step {F q cb cb_zq q_zq : Int → Int} {n f u p v i w : Int} (h : BG1 F q cb n f u) (hs : st1 cb cb_zq p v) (v0 : 0 ≤ v) (ht : st1 q q_zq i w) (hi : f ≤ i) : BG1 F q_zq cb_zq n f u := ⟨bf1_step h.1 hs v0 ht (by omega), by rw [(ht _ (by have := h.2.2; omega)).2 (by omega)]; exact h.2.1, h.2.2⟩
theorem bf2_skip1 {F cb : Int → Int} {n i j j_zq c : Int} (h : BF2 F cb n i j) (hj : j_zq = j + 1) (hc : c = cb j) (c0 : 0 ≤ c) : BF2 F cb n i j_zq := bf2_skip h hj (Or.inl (by omega))
theorem bf2_skip2 {F cb : Int → Int} {n i j j_zq q r o : Int} (h : BF2 F cb n i j) (hj : j_zq = j + 1) (hr : r = n * i) (hq : q = r + j) (ho : o = F q) (o0 : o = 0) : BF2 F cb n i j_zq := bf2_skip h hj (Or.inr (by rw [← hr, ← hq, ← ho, o0]))
theorem fpt_step2 {F cb cb_zq : Int → Int} {n s i p v q r o : Int} (h : FPT F cb n s) (hs : st1 cb cb_zq p v) (hv : v = i) (hr : r = n * i) (hq : q = r + p) (ho : o = F q) (o0 : o ≠ 0) (p0 : 0 ≤ p) : FPT F cb_zq n s := fpt_step (q := q) h hs hv (by rw [hq, hr]) (by rw [← ho]; exact o0) p0
/-- what is reached is reached with room -/
theorem mn1_step2 {p cm am : Int} {F qu cb y cA cB cW PL aA aB aD : Int → Int} {n s t x z z2 m m_zq o q r L K : Int} (h0 : FLO p cm am F y cA cB cW PL aA aB aD) (hF : FPT F cb n s) (hA : AUW qu cb n s L x K) (h : MN1 F cb n s t x m) (hn : n = p + 2) (hx : x ≠ s) (hz : z = cb x) (hz2 : z2 = cb x) (hr : r = n * z) (hq : q = r + x) (ho : o = F q) (hm : (m_zq = m ∧ m ≤ o) ∨ (m_zq = o ∧ o ≤ m)) : MN1 F cb n s t z2 m_zq := by
  rw [hz2, ← hz]
  obtain ⟨hB, k, k0, kg, k1, k2⟩ := hA
  have hk : k ≠ 0 := fun e => hx (by rw [← k2, e]; exact hB.2.1.1)
  obtain ⟨j, j0, j1, j2⟩ := hB.2.2.2.2.1 k (by omega) k1
  have x0 := hB.2.2.1 k k0 k1
  have z0 := hB.2.2.1 j j0 (by omega)
  rw [k2] at j2 x0
  rw [← j2] at z0
  have f1 := hF x x0.1 x0.2 z0.1 hx
  have f2 := (h0.2.1 (cb x) x z0.1 (by omega) x0.1 (by omega)).1
  rw [← hn] at f2
  have e : n * cb x + x = q := by rw [hq, hr, hz]
  rw [e] at f1 f2
  have := h.1
  exact mn1_step h hx hz (by rw [hq, hr]) ho (by omega) (by omega) (by omega) (by omega)
theorem psh_bdA {p cm am : Int} {F qu cb y cA cB cW PL aA aB aD : Int → Int} {m x g z v1 q1 n s o r L K : Int} (h : PSH p cm am F cb y cA cB cW PL aA aB aD m x g) (hA : AUW qu cb n s L x K) (hx : x ≠ s) (hs : s = p) (hz : z = cb x) (hn : n = p + 2) (hr : r = n * z) (hq1 : q1 = r + x) (ho : o = F q1) (hv : v1 = o - m) : 0 ≤ v1 ∧ v1 ≤ 410000000 := by
  obtain ⟨hB, k, k0, kg, k1, k2⟩ := hA
  have hk : k ≠ 0 := fun e => hx (by rw [← k2, e]; exact hB.2.1.1)
  obtain ⟨j, j0, j1, j2⟩ := hB.2.2.2.2.1 k (by omega) k1
  have x0 := hB.2.2.1 k k0 k1
  have z0 := hB.2.2.1 j j0 (by omega)
  rw [k2] at j2 x0
  rw [← j2, ← hz] at z0
  exact psh_bd (F1 := F) h (by omega) x0.1 x0.2 z0.1 z0.2 hz hn (by rw [hq1, hr]) ho hv
theorem psh_bdB {p cm am : Int} {F F1 qu cb y cA cB cW PL aA aB aD : Int → Int} {m x g z z2 v1 q1 n s o r L K v2 q2 o2 r2 : Int} (h : PSH p cm am F cb y cA cB cW PL aA aB aD m x g) (hA : AUW qu cb n s L x K) (hx : x ≠ s) (hs : s = p) (hz : z = cb x) (hz2 : z2 = cb x) (hn : n = p + 2) (hr : r = n * z) (hq1 : q1 = r + x) (ho : o = F q1) (hv : v1 = o - m) (ht : st1 F F1 q1 v1) (hr2 : r2 = n * x) (hq2 : q2 = r2 + z2) (ho2 : o2 = F1 q2) (hv2 : v2 = o2 + m) : 0 ≤ v2 ∧ v2 ≤ 410000000 := by
  obtain ⟨hB, k, k0, kg, k1, k2⟩ := hA
  have hk : k ≠ 0 := fun e => hx (by rw [← k2, e]; exact hB.2.1.1)
  obtain ⟨j, j0, j1, j2⟩ := hB.2.2.2.2.1 k (by omega) k1
  have x0 := hB.2.2.1 k k0 k1
  have z0 := hB.2.2.1 j j0 (by omega)
  have ne := hB.2.2.2.1 j k j0 j1 k1
  rw [k2] at j2 x0 ne
  rw [← j2, ← hz] at z0 ne
  have e : z2 = z := by rw [hz, hz2]
  subst e
  exact psh_bd2 h (by omega) x0.1 x0.2 z0.1 z0.2 ne hz hn (by rw [hq1, hr]) ho hv ht (by rw [hq2, hr2]) ho2 hv2
theorem psh_stepA {p cm am : Int} {F F1 F2 qu cb y cA cB cW PL aA aB aD : Int → Int} {m x g z z2 z3 v1 q1 n s o r L K v2 q2 o2 r2 : Int} (h : PSH p cm am F cb y cA cB cW PL aA aB aD m x g) (hA : AUW qu cb n s L x K) (hx : x ≠ s) (hs : s = p) (hz : z = cb x) (hz2 : z2 = cb x) (hz3 : z3 = cb x) (hn : n = p + 2) (hr : r = n * z) (hq1 : q1 = r + x) (ho : o = F q1) (hv : v1 = o - m) (ht : st1 F F1 q1 v1) (hr2 : r2 = n * x) (hq2 : q2 = r2 + z2) (ho2 : o2 = F1 q2) (hv2 : v2 = o2 + m) (ht2 : st1 F1 F2 q2 v2) : PSH p cm am F2 cb y cA cB cW PL aA aB aD m z3 g := by
  have e : z2 = z := by rw [hz, hz2]
  have e3 : z3 = z := by rw [hz, hz3]
  subst e e3
  rw [hs] at hA
  exact psh_step h hA (by omega) hz hn (by rw [hq1, hr]) ho hv ht (by rw [hq2, hr2]) ho2 hv2 ht2
theorem upc_v1 {p cm am k : Int} {F g y cA cB cW PL aA aB aD : Int → Int} {a w o : Int} (h : UPC p cm am F g y cA cB cW PL aA aB aD k) (k0 : 0 ≤ k) (k1 : k < cm) (ha : a = cA k ∨ a = cB k) (hw : w = cW k) (ho : o = g a) : (-14328 ≤ o ∧ o ≤ 14328) ∧ 0 ≤ w ∧ w ≤ 72 := by
  obtain ⟨b1, b2, b3, b4, b5, b6⟩ := upc_bd h k0 k1
  have : 0 ≤ a ∧ a < p := by rcases ha with z | z <;> rw [z] <;> assumption
  have := b5 a this.1 this.2
  omega
theorem upc_v2 {p cm am k : Int} {F g g1 y cA cB cW PL aA aB aD : Int → Int} {a b w w2 o v1 o2 : Int} (σ : Int) (h : UPC p cm am F g y cA cB cW PL aA aB aD k) (k0 : 0 ≤ k) (k1 : k < cm) (ha : a = cA k) (hb : b = cB k) (hw : w = cW k) (hw2 : w2 = cW k) (ho : o = g a) (hσ : σ = 1 ∨ σ = -1) (hv : v1 = o - σ * w) (hs : st1 g g1 a v1) (ho2 : o2 = g1 b) : -14400 ≤ o2 + σ * w2 ∧ o2 + σ * w2 ≤ 14400 := by
  obtain ⟨b1, b2, b3, b4, b5, b6⟩ := upc_bd h k0 k1
  rw [← ha] at b1
  rw [← hb] at b2
  have q1 := b5 a b1.1 b1.2
  have q2 := b5 b b2.1 b2.2
  have hs_zq := hs b b2.1
  rcases hσ with z | z <;> subst z <;> (by_cases e : b = a; (have := hs_zq.1 e; omega); (have := hs_zq.2 e; omega))
theorem upc_goP {p cm am k k_zq : Int} {F g g1 g2 y cA cB cW PL aA aB aD : Int → Int} {a b w w2 o1 v1 o2 v2 : Int} (h : UPC p cm am F g y cA cB cW PL aA aB aD k) (k0 : 0 ≤ k) (k1 : k < cm) (hk : k_zq = k + 1) (ha : a = cA k) (hb : b = cB k) (hw : w = cW k) (hw2 : w2 = cW k) (hc : PL k ≠ 0 ∨ y a < y b) (ho1 : o1 = g a) (hv1 : v1 = o1 - w) (hs1 : st1 g g1 a v1) (ho2 : o2 = g1 b) (hv2 : v2 = o2 + w2) (hs2 : st1 g1 g2 b v2) : UPC p cm am F g2 y cA cB cW PL aA aB aD k_zq :=
  upc_go 1 h k0 k1 hk ha hb hw (Or.inl ⟨rfl, hc⟩) ho1 (by omega) hs1 ho2 (by omega) hs2
theorem upc_goM {p cm am k k_zq : Int} {F g g1 g2 y cA cB cW PL aA aB aD : Int → Int} {a b w w2 o1 v1 o2 v2 : Int} (h : UPC p cm am F g y cA cB cW PL aA aB aD k) (k0 : 0 ≤ k) (k1 : k < cm) (hk : k_zq = k + 1) (ha : a = cA k) (hb : b = cB k) (hw : w = cW k) (hw2 : w2 = cW k) (hc : PL k = 0 ∧ y b < y a) (ho1 : o1 = g a) (hv1 : v1 = o1 + w) (hs1 : st1 g g1 a v1) (ho2 : o2 = g1 b) (hv2 : v2 = o2 - w2) (hs2 : st1 g1 g2 b v2) : UPC p cm am F g2 y cA cB cW PL aA aB aD k_zq :=
  upc_go (-1) h k0 k1 hk ha hb hw (Or.inr ⟨rfl, hc⟩) ho1 (by omega) hs1 ho2 (by omega) hs2
theorem upc_f1 {p cm am k n a b r q o w : Int} {F g y cA cB cW PL aA aB aD : Int → Int} (h : UPC p cm am F g y cA cB cW PL aA aB aD k) (k0 : 0 ≤ k) (k1 : k < cm) (hn : n = p + 2) (ha : a = cA k) (hb : b = cB k) (hr : r = n * a) (hq : q = r + b) (ho : o = F q) (hw : w = cW k) : (0 ≤ o ∧ o ≤ 28800) ∧ 0 ≤ w ∧ w ≤ 72 := by
  obtain ⟨b1, b2, b3, b4, b5, b6⟩ := upc_bd h k0 k1
  rw [← ha] at b1
  rw [← hb] at b2
  have := b6 a b b1.1 (by omega) b2.1 (by omega)
  rw [← hn, ← hr, ← hq, ← ho] at this
  omega
theorem upc_f2 {p cm am k n a b r q o w v1 r2 q2 o2 w2 : Int} {F F1 g y cA cB cW PL aA aB aD : Int → Int} (h : UPC p cm am F g y cA cB cW PL aA aB aD k) (k0 : 0 ≤ k) (k1 : k < cm) (hn : n = p + 2) (ha : a = cA k) (hb : b = cB k) (hr : r = n * a) (hq : q = r + b) (ho : o = F q) (hw : w = cW k) (hv : v1 = o + w) (hs : st1 F F1 q v1) (hr2 : r2 = n * b) (hq2 : q2 = r2 + a) (ho2 : o2 = F1 q2) (hw2 : w2 = cW k) : (0 ≤ o2 ∧ o2 ≤ 28872) ∧ 0 ≤ w2 ∧ w2 ≤ 72 := by
  obtain ⟨b1, b2, b3, b4, b5, b6⟩ := upc_bd h k0 k1
  rw [← ha] at b1
  rw [← hb] at b2
  have c1 := b6 a b b1.1 (by omega) b2.1 (by omega)
  have c2 := b6 b a b2.1 (by omega) b1.1 (by omega)
  rw [← hn, ← hr, ← hq, ← ho] at c1
  rw [← hn, ← hr2, ← hq2] at c2
  have q0 := (tb_ix (n := n) (q := q2) (by rw [hq2, hr2]) b2.1 (by omega) b1.1 (by omega)).2.2.1
  have hs_zq := hs q2 q0
  by_cases e : q2 = q
  · have := hs_zq.1 e; omega
  · have := hs_zq.2 e; omega
theorem upc_tie2 {p cm am k k_zq : Int} {F F1 F2 g y cA cB cW PL aA aB aD : Int → Int} {n a b w w2 o1 v1 o2 v2 q1 q2 r1 r2 : Int} (h : UPC p cm am F g y cA cB cW PL aA aB aD k) (k0 : 0 ≤ k) (k1 : k < cm) (hk : k_zq = k + 1) (hn : n = p + 2) (ha : a = cA k) (hb : b = cB k) (hw : w = cW k) (hw2 : w2 = cW k) (h0 : PL k = 0) (h1 : ¬ y a < y b) (h2 : ¬ y b < y a) (hr1 : r1 = n * a) (hq1 : q1 = r1 + b) (ho1 : o1 = F q1) (hv1 : v1 = o1 + w) (hs1 : st1 F F1 q1 v1) (hr2 : r2 = n * b) (hq2 : q2 = r2 + a) (ho2 : o2 = F1 q2) (hv2 : v2 = o2 + w2) (hs2 : st1 F1 F2 q2 v2) : UPC p cm am F2 g y cA cB cW PL aA aB aD k_zq :=
  upc_tie h k0 k1 hk hn ha hb hw h0 h1 h2 (by rw [hq1, hr1]) ho1 hv1 hs1 (by rw [hq2, hr2]) ho2 (by omega) hs2
theorem upi_step2 {p cm am i i_zq : Int} {F F1 g y cA cB cW PL aA aB aD : Int → Int} {n q v gi g2 r s t : Int} (h : UPI p cm am F g y cA cB cW PL aA aB aD i) (i0 : 0 ≤ i) (i1 : i < p) (hi : i_zq = i + 1) (hn : n = p + 2) (hs_zq : s = p) (ht : t = p + 1) (hg_zq : gi = g i) (hg2 : g2 = g i) (hc : (gi < 0 ∧ r = n * s ∧ q = r + i ∧ v = -g2) ∨ (0 ≤ gi ∧ r = n * i ∧ q = r + t ∧ v = g2)) (hs : st1 F F1 q v) : UPI p cm am F1 g y cA cB cW PL aA aB aD i_zq :=
  upi_step h i0 i1 hi hn hg_zq (by
    rcases hc with ⟨a, b, c, d⟩ | ⟨a, b, c, d⟩
    · exact Or.inl ⟨a, by rw [c, b, hs_zq], by omega⟩
    · exact Or.inr ⟨a, by rw [c, b, ht], by omega⟩) hs
theorem upa_step2 {p cm am k k_zq : Int} {F F1 y cA cB cW PL aA aB aD : Int → Int} {n a b r q o v : Int} (h : UPA p cm am F y cA cB cW PL aA aB aD k) (k0 : 0 ≤ k) (k1 : k < am) (hk : k_zq = k + 1) (hn : n = p + 2) (hd : y (aB k) - y (aA k) = aD k) (ha : a = aA k) (hb : b = aB k) (hr : r = n * a) (hq : q = r + b) (ho : o = F q) (hv : v = o + 1000000) (hs : st1 F F1 q v) : UPA p cm am F1 y cA cB cW PL aA aB aD k_zq := upa_step h k0 k1 hk hn hd ha hb (by rw [hq, hr]) ho hv hs
theorem upa_f {p cm am k n a b r q o : Int} {F y cA cB cW PL aA aB aD : Int → Int} (h : UPA p cm am F y cA cB cW PL aA aB aD k) (k0 : 0 ≤ k) (k1 : k < am) (hn : n = p + 2) (ha : a = aA k) (hb : b = aB k) (hr : r = n * a) (hq : q = r + b) (ho : o = F q) : 0 ≤ o ∧ o ≤ 199028800 := by
  obtain ⟨b1, b2, b3, b4⟩ := upa_bd h k0 k1
  rw [← ha] at b2
  rw [← hb] at b3
  have := b4 a b b2.1 (by omega) b3.1 (by omega)
  rw [← hn, ← hr, ← hq, ← ho] at this
  exact this
theorem uzg_step {F F_zq : Int → Int} {i i_zq p v : Int} (h : UZG F i) (hi : i_zq = i + 1) (hs : st1 F F_zq p v) (hp : p = i) (hv : v = 0) : UZG F_zq i_zq := ⟨uz0_step h.1 hi hs hp hv, trivial⟩
theorem uzs_step {F F_zq : Int → Int} {i i_zq p v : Int} (h : UZS F i) (hi : i_zq = i + 1) (hs : st1 F F_zq p v) (hp : p = i) (hv : v = 0) : UZS F_zq i_zq := ⟨uz0_step h.1 hi hs hp hv, trivial⟩
theorem upc_goP1 {p cm am k k_zq : Int} {F g g1 g2 y cA cB cW PL aA aB aD : Int → Int} {a b w w2 o1 v1 o2 v2 pl : Int} (h : UPC p cm am F g y cA cB cW PL aA aB aD k) (k0 : 0 ≤ k) (k1 : k < cm) (hk : k_zq = k + 1) (ha : a = cA k) (hb : b = cB k) (hw : w = cW k) (hw2 : w2 = cW k) (hpl : pl = PL k) (pl0 : pl ≠ 0) (ho1 : o1 = g a) (hv1 : v1 = o1 - w) (hs1 : st1 g g1 a v1) (ho2 : o2 = g1 b) (hv2 : v2 = o2 + w2) (hs2 : st1 g1 g2 b v2) : UPC p cm am F g2 y cA cB cW PL aA aB aD k_zq :=
  upc_goP h k0 k1 hk ha hb hw hw2 (Or.inl (by omega)) ho1 hv1 hs1 ho2 hv2 hs2
theorem upc_goP2 {p cm am k k_zq : Int} {F g g1 g2 y cA cB cW PL aA aB aD : Int → Int} {a b w w2 o1 v1 o2 v2 ya yb : Int} (h : UPC p cm am F g y cA cB cW PL aA aB aD k) (k0 : 0 ≤ k) (k1 : k < cm) (hk : k_zq = k + 1) (ha : a = cA k) (hb : b = cB k) (hw : w = cW k) (hw2 : w2 = cW k) (hya : ya = y a) (hyb : yb = y b) (hy : ya < yb) (ho1 : o1 = g a) (hv1 : v1 = o1 - w) (hs1 : st1 g g1 a v1) (ho2 : o2 = g1 b) (hv2 : v2 = o2 + w2) (hs2 : st1 g1 g2 b v2) : UPC p cm am F g2 y cA cB cW PL aA aB aD k_zq :=
  upc_goP h k0 k1 hk ha hb hw hw2 (Or.inr (by omega)) ho1 hv1 hs1 ho2 hv2 hs2
theorem upc_goM2 {p cm am k k_zq : Int} {F g g1 g2 y cA cB cW PL aA aB aD : Int → Int} {a b w w2 o1 v1 o2 v2 pl ya yb : Int} (h : UPC p cm am F g y cA cB cW PL aA aB aD k) (k0 : 0 ≤ k) (k1 : k < cm) (hk : k_zq = k + 1) (ha : a = cA k) (hb : b = cB k) (hw : w = cW k) (hw2 : w2 = cW k) (hpl : pl = PL k) (pl0 : pl = 0) (hya : ya = y a) (hyb : yb = y b) (hy : yb < ya) (ho1 : o1 = g a) (hv1 : v1 = o1 + w) (hs1 : st1 g g1 a v1) (ho2 : o2 = g1 b) (hv2 : v2 = o2 - w2) (hs2 : st1 g1 g2 b v2) : UPC p cm am F g2 y cA cB cW PL aA aB aD k_zq :=
  upc_goM h k0 k1 hk ha hb hw hw2 ⟨by omega, by omega⟩ ho1 hv1 hs1 ho2 hv2 hs2
theorem upc_tie3 {p cm am k k_zq : Int} {F F1 F2 g y cA cB cW PL aA aB aD : Int → Int} {n a b w w2 o1 v1 o2 v2 q1 q2 r1 r2 pl ya yb ya2 yb2 : Int} (h : UPC p cm am F g y cA cB cW PL aA aB aD k) (k0 : 0 ≤ k) (k1 : k < cm) (hk : k_zq = k + 1) (hn : n = p + 2) (ha : a = cA k) (hb : b = cB k) (hw : w = cW k) (hw2 : w2 = cW k) (hpl : pl = PL k) (pl0 : pl = 0) (hya : ya = y a) (hyb : yb = y b) (h1 : yb ≤ ya) (hya2 : ya2 = y a) (hyb2 : yb2 = y b) (h2 : ya2 ≤ yb2) (hr1 : r1 = n * a) (hq1 : q1 = r1 + b) (ho1 : o1 = F q1) (hv1 : v1 = o1 + w) (hs1 : st1 F F1 q1 v1) (hr2 : r2 = n * b) (hq2 : q2 = r2 + a) (ho2 : o2 = F1 q2) (hv2 : v2 = o2 + w2) (hs2 : st1 F1 F2 q2 v2) : UPC p cm am F2 g y cA cB cW PL aA aB aD k_zq :=
  upc_tie2 h k0 k1 hk hn ha hb hw hw2 (by omega) (by omega) (by omega) hr1 hq1 ho1 hv1 hs1 hr2 hq2 ho2 hv2 hs2
theorem upa_skip2 {p cm am k k_zq d c yb b ya a : Int} {F y cA cB cW PL aA aB aD : Int → Int} (h : UPA p cm am F y cA cB cW PL aA aB aD k) (k0 : 0 ≤ k) (hk : k_zq = k + 1) (hb : b = aB k) (hyb : yb = y b) (ha : a = aA k) (hya : ya = y a) (hc : c = yb - ya) (hd : d = aD k) (ne : c ≠ d) : UPA p cm am F y cA cB cW PL aA aB aD k_zq := upa_skip h k0 hk (by rw [← hb, ← ha, ← hyb, ← hya, ← hd, ← hc]; exact ne)
theorem upa_step3 {p cm am k k_zq d c yb b_zq ya a_zq : Int} {F F1 y cA cB cW PL aA aB aD : Int → Int} {n a b r q o v : Int} (h : UPA p cm am F y cA cB cW PL aA aB aD k) (k0 : 0 ≤ k) (k1 : k < am) (hk : k_zq = k + 1) (hn : n = p + 2) (hb_zq : b_zq = aB k) (hyb : yb = y b_zq) (ha_zq : a_zq = aA k) (hya : ya = y a_zq) (hc : c = yb - ya) (hd : d = aD k) (e : c = d) (ha : a = aA k) (hb : b = aB k) (hr : r = n * a) (hq : q = r + b) (ho : o = F q) (hv : v = o + 1000000) (hs : st1 F F1 q v) : UPA p cm am F1 y cA cB cW PL aA aB aD k_zq := upa_step2 h k0 k1 hk hn (by rw [← hb_zq, ← ha_zq, ← hyb, ← hya, ← hd, ← hc]; exact e) ha hb hr hq ho hv hs
theorem rd1_go {y u cA cB PL : Int → Int} {d d_zq k k_zq a b : Int} (h : RD1 y u cA cB PL d k) (hk : k_zq = k + 1) (ha : a = cA k) (hb : b = cB k) (hd : 1 ≤ d_zq ∧ d_zq ≤ d) (hc : PL k = 0 → (u a = 1 → u b = 0 → 0 < y b - y a → d_zq ≤ y b - y a) ∧ (u a = 0 → u b = 1 → 0 < y a - y b → d_zq ≤ y a - y b)) : RD1 y u cA cB PL d_zq k_zq := rd1_step h hk hd (fun z => by rw [← ha, ← hb]; exact hc z)
theorem rd1_pos {y u cA cB PL : Int → Int} {d k : Int} (h : RD1 y u cA cB PL d k) : 1 ≤ d := h.1.1
theorem rdc_of {y u cA cB PL : Int → Int} {d k cm : Int} (h : RD1 y u cA cB PL d k) (hk : cm ≤ k) : RDC cm y u cA cB PL d := ⟨h.1, fun j a b c => h.2 j a (by omega) c⟩
theorem rdc_less {y u cA cB PL : Int → Int} {d d_zq cm : Int} (h : RDC cm y u cA cB PL d) (h1 : 1 ≤ d_zq) (h2 : d_zq ≤ d) : RDC cm y u cA cB PL d_zq := rd1_less h ⟨h1, h2⟩
theorem slk {p cm am k a b x z a_zq b_zq ya yb d g : Int} {y u cA cB cW PL aA aB aD : Int → Int} (hu : UPQ p cm am u y cA cB cW PL aA aB aD) (hR : RII p cm am y cA cB cW PL aA aB aD g) (k0 : 0 ≤ k) (k1 : k < am) (ha : a = aA k) (hx : x = u a) (x1 : x = 1) (hb : b = aB k) (hz : z = u b) (z0 : z = 0) (ha_zq : a_zq = aA k) (hya : ya = y a_zq) (hb_zq : b_zq = aB k) (hyb : yb = y b_zq) (hd : d = aD k) : 1 ≤ yb - ya - d := by
  have := slack1 hu (by omega) hR.2.1 k0 k1 (by rw [← ha, ← hx, x1]) (by rw [← hb, ← hz, z0])
  rw [hyb, hya, hd, hb_zq, ha_zq]; exact this
theorem rda_skip {y u aA aB aD : Int → Int} {d k k_zq a x b z : Int} (h : RDA y u aA aB aD k d) (hk : k_zq = k + 1) (hc : (a = aA k ∧ x = u a ∧ x ≠ 1) ∨ (b = aB k ∧ z = u b ∧ z ≠ 0)) : RDA y u aA aB aD k_zq d := rda_step h hk (Int.le_refl _) (fun h1 h2 => by
  rcases hc with ⟨e1, e2, e3⟩ | ⟨e1, e2, e3⟩
  · rw [e1] at e2; omega
  · rw [e1] at e2; omega)
theorem rda_go {y u aA aB aD : Int → Int} {d d_zq k k_zq a ya b yb w : Int} (h : RDA y u aA aB aD k d) (hk : k_zq = k + 1) (ha : a = aA k) (hya : ya = y a) (hb : b = aB k) (hyb : yb = y b) (hw : w = aD k) (h1 : d_zq ≤ d) (h2 : d_zq ≤ yb - ya - w) : RDA y u aA aB aD k_zq d_zq := rda_step h hk h1 (fun _ _ => by rw [← ha, ← hb, ← hya, ← hyb, ← hw]; exact h2)
theorem rsk_end {y aA aB aD : Int → Int} {mo k am : Int} (h : RSK y aA aB aD mo k) (hk : am ≤ k) : RSE am y aA aB aD mo := fun m j a b => h m j a (by omega)
theorem rsk_next {y aA aB aD : Int → Int} {mo k k_zq a ya b yb d v : Int} (h : RSK y aA aB aD mo k) (hk : k_zq = k + 1) (ha : a = aA k) (hya : ya = y a) (hb : b = aB k) (hyb : yb = y b) (hd : d = aD k) (hv : v = ya + d) (le : v ≤ yb) : RSK y aA aB aD mo k_zq := fun m j x z => by
  by_cases e : j = k
  · subst e; rw [← ha, ← hb, ← hya, ← hyb, ← hd]; omega
  · exact h m j x (by omega)
theorem rsb_go {p cm am mo mo_zq g k i v a ya d b_zq yb d_zq v_zq a_zq ya_zq : Int} {y y_zq cA cB cW PL aA aB aD : Int → Int} (h : RSB p cm am y cA cB cW PL aA aB aD mo g) (k0 : 0 ≤ k) (k1 : k < am) (hi : i = aB k) (ha : a = aA k) (hya : ya = y a) (hd : d = aD k) (hv : v = ya + d) (hb_zq : b_zq = aB k) (hyb : yb = y b_zq) (ha_zq : a_zq = aA k) (hya_zq : ya_zq = y a_zq) (hd_zq : d_zq = aD k) (hv_zq : v_zq = ya_zq + d_zq) (lt : yb < v_zq) (hs : st1 y y_zq i v) (hm0 : 0 ≤ mo) (hm : mo_zq = 1) : RSB p cm am y_zq cA cB cW PL aA aB aD mo_zq g := by
  have e : v_zq = v := by rw [hv_zq, hv, hya_zq, ha_zq, hya, ha, hd_zq, hd]
  exact rsb_step h k0 k1 hi (by rw [hv, hya, ha, hd]) (by rw [← hb_zq, ← hyb, ← e]; exact lt) hs hm0 hm
theorem rsb_v {p cm am mo g k a ya d : Int} {y cA cB cW PL aA aB aD : Int → Int} (h : RSB p cm am y cA cB cW PL aA aB aD mo g) (k0 : 0 ≤ k) (k1 : k < am) (ha : a = aA k) (hya : ya = y a) (hd : d = aD k) : 0 ≤ ya + d ∧ ya + d ≤ 15150 := by
  have := (rsa_bd h).2.2.2 k k0 k1
  rw [← ha, ← hya, ← hd] at this
  exact this.2.2.2.2
theorem rd3_go {p cm am d i i_zq g q v o w c : Int} {y y_zq u cA cB cW PL aA aB aD : Int → Int} (h : RDX p cm am y u cA cB cW PL aA aB aD d i g) (i0 : 0 ≤ i) (i1 : i < p) (hi : i_zq = i + 1) (ho : o = y i) (hc : c = u i) (hw : w = c * d) (hv : v = o + w) (hs : st1 y y_zq q v) (hq : q = i) : RDX p cm am y_zq u cA cB cW PL aA aB aD d i_zq g := rd3_step h i0 i1 hi ho (by rw [hw, hc]) hv hs hq
theorem rd3_v {p cm am d i g o w c : Int} {y u cA cB cW PL aA aB aD : Int → Int} (h : RDX p cm am y u cA cB cW PL aA aB aD d i g) (i0 : 0 ≤ i) (i1 : i < p) (ho : o = y i) (hc : c = u i) (hw : w = c * d) : 0 ≤ o + w ∧ o + w ≤ 221100000 := by
  have := (rd3_bd h i0 i1).2.2.1
  rw [ho, hw, hc]; exact this
end
section
/-! reaching, strong, orders, turnEdges: the edges as they are turned have no ring -/
def WRE (r : Int) (A R : Int → Int) : Prop := (∀ i, 0 ≤ i → i < A r → R (24 * i + i) ≠ 0) ∧ ∀ e, 0 ≤ e → e < A (r + 1) → R (24 * A (r + 267 + e) + A (r + 315 + e)) ≠ 0
def WT (r : Int) (A R : Int → Int) (k : Int) : Prop := ∀ c, 0 ≤ c → c < k → ∀ i j, 0 ≤ i → i < A r → 0 ≤ j → j < A r → R (24 * i + c) ≠ 0 → R (24 * c + j) ≠ 0 → R (24 * i + j) ≠ 0
def WEN (r : Int) (A R : Int → Int) : Prop := (A r ≤ 24 ∧ SG A r) ∧ WRE r A R ∧ WT r A R (A r)
def WR1 (R : Int → Int) (k : Int) : Prop := ∀ i, 0 ≤ i → i < k → R (24 * i + i) ≠ 0
def WR2 (r : Int) (A R : Int → Int) (k : Int) : Prop := (∀ i, 0 ≤ i → i < A r → R (24 * i + i) ≠ 0) ∧ ∀ e, 0 ≤ e → e < k → R (24 * A (r + 267 + e) + A (r + 315 + e)) ≠ 0
theorem ne0_st {R R_zq : Int → Int} {p v x : Int} (hs : st1 R R_zq p v) (hv : v ≠ 0) (x0 : 0 ≤ x) (h : R x ≠ 0) : R_zq x ≠ 0 := by
  by_cases e : x = p
  · rw [(hs x x0).1 e]; exact hv
  · rw [(hs x x0).2 e]; exact h
theorem wr1_step {R R_zq : Int → Int} {k k_zq p v : Int} (h : WR1 R k) (k0 : 0 ≤ k) (hk : k_zq = k + 1) (hs : st1 R R_zq p v) (hp : p = 24 * k + k) (hv : v = 1) : WR1 R_zq k_zq := by
  intro i a b
  by_cases e : i = k
  · rw [(hs _ (by omega)).1 (by rw [hp, e])]; omega
  · exact ne0_st hs (by omega) (by omega) (h i a (by omega))
theorem wr2_start {r : Int} {A R : Int → Int} {k i : Int} (h : WR1 R i) (hi : A r ≤ i) (hk : k = 0) : WR2 r A R k := ⟨fun j a b => h j a (by omega), fun e a b => by omega⟩
theorem wr2_step {r : Int} {A R R_zq : Int → Int} {k k_zq p v t d : Int} (h : WR2 r A R k) (k0 : 0 ≤ k) (hk : k_zq = k + 1) (hs : st1 R R_zq p v) (ht : t = A (r + 267 + k)) (hd : d = A (r + 315 + k)) (t0 : 0 ≤ t) (d0 : 0 ≤ d) (hp : p = 24 * t + d) (hv : v = 1) (hb : ∀ e, 0 ≤ e → e < k → 0 ≤ 24 * A (r + 267 + e) + A (r + 315 + e)) : WR2 r A R_zq k_zq := by
  refine ⟨fun i a b => ne0_st hs (by omega) (by omega) (h.1 i a b), fun e a b => ?_⟩
  by_cases z : e = k
  · rw [z, ← ht, ← hd, (hs _ (by omega)).1 hp.symm]; omega
  · exact ne0_st hs (by omega) (hb e a (by omega)) (h.2 e a (by omega))
theorem wr2_more {r : Int} {A R R_zq : Int → Int} {k p v : Int} (h : WR2 r A R k) (hs : st1 R R_zq p v) (hv : v = 1) (hb : ∀ e, 0 ≤ e → e < k → 0 ≤ 24 * A (r + 267 + e) + A (r + 315 + e)) : WR2 r A R_zq k := ⟨fun i a b => ne0_st hs (by omega) (by omega) (h.1 i a b), fun e a b => ne0_st hs (by omega) (hb e a b) (h.2 e a b)⟩
theorem sg_ends {r e : Int} {A : Int → Int} (h : SG A r) (e0 : 0 ≤ e) (e1 : e < A (r + 1)) : 0 ≤ A (r + 267 + e) ∧ A (r + 267 + e) < A r ∧ 0 ≤ A (r + 315 + e) ∧ A (r + 315 + e) < A r ∧ A (r + 267 + e) ≠ A (r + 315 + e) := h.2.1 e e0 e1
def WTK (r : Int) (A R : Int → Int) (k : Int) : Prop := SG A r ∧ WRE r A R ∧ WT r A R k
def WM (r : Int) (A R : Int → Int) (k i j : Int) : Prop := ∃ R0, WTK r A R0 k ∧ (0 ≤ k ∧ k < A r ∧ 0 ≤ i ∧ 0 ≤ j) ∧ ∀ a b, 0 ≤ a → a < A r → 0 ≤ b → b < A r → (((a < i ∨ (a = i ∧ b < j)) → (R (24 * a + b) ≠ 0 ↔ R0 (24 * a + b) ≠ 0 ∨ (R0 (24 * a + k) ≠ 0 ∧ R0 (24 * k + b) ≠ 0))) ∧ (¬ (a < i ∨ (a = i ∧ b < j)) → R (24 * a + b) = R0 (24 * a + b)))
theorem wtk_start {r : Int} {A R : Int → Int} {e k : Int} (hg : SG A r) (h : WR2 r A R e) (he : A (r + 1) ≤ e) (hk : k = 0) : WTK r A R k := ⟨hg, ⟨h.1, fun f a b => h.2 f a (by omega)⟩, fun c a b => by omega⟩
theorem wm_start {r : Int} {A R : Int → Int} {k i j : Int} (h : WTK r A R k) (k0 : 0 ≤ k) (k1 : k < A r) (hi : i = 0) (hj : j = 0) : WM r A R k i j := ⟨R, h, by omega, fun a b a0 a1 b0 b1 => ⟨fun z => by omega, fun _ => rfl⟩⟩
theorem wm_row {r : Int} {A R : Int → Int} {k i i_zq j j_zq : Int} (h : WM r A R k i j) (hj : A r ≤ j) (hi : i_zq = i + 1) (hj_zq : j_zq = 0) : WM r A R k i_zq j_zq := by
  obtain ⟨R0, h1, h2, h3⟩ := h
  refine ⟨R0, h1, by omega, fun a b a0 a1 b0 b1 => ⟨fun z => (h3 a b a0 a1 b0 b1).1 (by omega), fun z => (h3 a b a0 a1 b0 b1).2 (by omega)⟩⟩
theorem wm_step {r : Int} {A R R_zq : Int → Int} {k i j j_zq p v x y z : Int} (h : WM r A R k i j) (i1 : i < A r) (j1 : j < A r) (n24 : A r ≤ 24) (hj : j_zq = j + 1) (hs : st1 R R_zq p v) (hp : p = 24 * i + j) (hx : x = R (24 * i + j)) (hy : y = R (24 * i + k)) (hz : z = R (24 * k + j)) (hv : v ≠ 0 ↔ x ≠ 0 ∨ (y ≠ 0 ∧ z ≠ 0)) : WM r A R_zq k i j_zq := by
  obtain ⟨R0, h1, h2, h3⟩ := h
  have e1 : x = R0 (24 * i + j) := by rw [hx]; exact (h3 i j (by omega) i1 (by omega) j1).2 (by omega)
  have e2 : y ≠ 0 ↔ R0 (24 * i + k) ≠ 0 := by
    rw [hy]
    have := h3 i k (by omega) i1 (by omega) (by omega)
    by_cases q : k < j
    · rw [this.1 (Or.inr ⟨rfl, q⟩)]
      exact ⟨fun w => by rcases w with w | w; exact w; exact w.1, fun w => Or.inl w⟩
    · rw [this.2 (by omega)]
  have e3 : z ≠ 0 ↔ R0 (24 * k + j) ≠ 0 := by
    rw [hz]
    have := h3 k j (by omega) (by omega) (by omega) j1
    by_cases q : k < i
    · rw [this.1 (Or.inl q)]
      exact ⟨fun w => by rcases w with w | w; exact w; exact w.2, fun w => Or.inl w⟩
    · rw [this.2 (by omega)]
  refine ⟨R0, h1, by omega, fun a b a0 a1 b0 b1 => ?_⟩
  by_cases q : a = i ∧ b = j
  · rw [q.1, q.2]
    refine ⟨fun _ => ?_, fun w => by omega⟩
    rw [(hs _ (by omega)).1 hp.symm, hv, e1, e2, e3]
  · have ne : 24 * a + b ≠ p := by omega
    rw [(hs _ (by omega)).2 ne]
    exact ⟨fun w => (h3 a b a0 a1 b0 b1).1 (by omega), fun w => (h3 a b a0 a1 b0 b1).2 (by omega)⟩
theorem wm_end {r : Int} {A R : Int → Int} {k k_zq i j : Int} (h : WM r A R k i j) (hi : A r ≤ i) (hk : k_zq = k + 1) : WTK r A R k_zq := by
  obtain ⟨R0, ⟨hg, h1, hT⟩, h2, h3⟩ := h
  have E : ∀ a b, 0 ≤ a → a < A r → 0 ≤ b → b < A r → (R (24 * a + b) ≠ 0 ↔ R0 (24 * a + b) ≠ 0 ∨ (R0 (24 * a + k) ≠ 0 ∧ R0 (24 * k + b) ≠ 0)) := fun a b a0 a1 b0 b1 => (h3 a b a0 a1 b0 b1).1 (Or.inl (by omega))
  refine ⟨hg, ⟨fun i a b => (E i i a b a b).2 (Or.inl (h1.1 i a b)), fun e a b => ?_⟩, fun c c0 c1 i j i0 i1 j0 j1 hR hR_zq => ?_⟩
  · have s := sg_ends hg a b
    exact (E _ _ s.1 s.2.1 s.2.2.1 s.2.2.2.1).2 (Or.inl (h1.2 e a b))
  · have cn : c < A r := by omega
    rw [E i c i0 i1 c0 cn] at hR
    rw [E c j c0 cn j0 j1] at hR_zq
    rw [E i j i0 i1 j0 j1]
    by_cases q : c = k
    · subst q
      right
      exact ⟨by rcases hR with w | w; exact w; exact w.1, by rcases hR_zq with w | w; exact w; exact w.2⟩
    · have T := fun i j i0 i1 j0 j1 => hT c c0 (by omega) i j i0 i1 j0 j1
      rcases hR with w | w <;> rcases hR_zq with w_zq | w_zq
      · exact Or.inl (T i j i0 i1 j0 j1 w w_zq)
      · exact Or.inr ⟨T i k i0 i1 (by omega) (by omega) w w_zq.1, w_zq.2⟩
      · exact Or.inr ⟨w.1, T k j (by omega) (by omega) j0 j1 w.2 w_zq⟩
      · exact Or.inr ⟨w.1, w_zq.2⟩
theorem wen_of {r : Int} {A R : Int → Int} {k : Int} (h : WTK r A R k) (hk : A r ≤ k) : WEN r A R := ⟨⟨h.1.1.2.1, h.1⟩, h.2.1, fun c c0 c1 => h.2.2 c c0 (by omega)⟩
/-! strong -/
def mutl (R : Int → Int) (a b : Int) : Prop := R (24 * a + b) ≠ 0 ∧ R (24 * b + a) ≠ 0
def SOI (r : Int) (A R so : Int → Int) (i many : Int) : Prop := WEN r A R ∧ 0 ≤ many ∧ (∀ a, 0 ≤ a → a < A r → so a = -1 ∨ (0 ≤ so a ∧ so a < many)) ∧ (∀ a, 0 ≤ a → a < i → a < A r → 0 ≤ so a) ∧ (∀ a b, 0 ≤ a → a < A r → 0 ≤ b → b < A r → 0 ≤ so a → 0 ≤ so b → (so a = so b ↔ mutl R a b)) ∧ ∀ a b, 0 ≤ a → a < A r → 0 ≤ b → b < A r → 0 ≤ so a → mutl R a b → 0 ≤ so b
def SOJ (r : Int) (A R so : Int → Int) (i j many : Int) : Prop := ∃ s0, SOI r A R s0 i many ∧ s0 i < 0 ∧ (0 ≤ i ∧ i < A r ∧ i ≤ j) ∧ ∀ b, 0 ≤ b → b < A r → (((i ≤ b ∧ b < j ∧ mutl R i b) → so b = many) ∧ (¬ (i ≤ b ∧ b < j ∧ mutl R i b) → so b = s0 b))
def SO0 (so : Int → Int) (i : Int) : Prop := ∀ a, 0 ≤ a → a < i → so a = -1
theorem so0_step {F F_zq : Int → Int} {i i_zq p v : Int} (h : SO0 F i) (hi : i_zq = i + 1) (hs : st1 F F_zq p v) (hp : p = i) (hv : v = -1) : SO0 F_zq i_zq := by
  intro x a b
  by_cases e : x = p
  · rw [(hs x a).1 e, hv]
  · rw [(hs x a).2 e]; exact h x a (by omega)
theorem soi_start {r : Int} {A R so : Int → Int} {i j many : Int} (h : WEN r A R) (h0 : SO0 so j) (hj : A r ≤ j) (hi : i = 0) (hm : many = 0) : SOI r A R so i many := by
  have z : ∀ a, 0 ≤ a → a < A r → so a = -1 := fun a x y => h0 a x (by omega)
  exact ⟨h, by omega, fun a x y => Or.inl (z a x y), fun a x y => by omega, fun a b x y _ _ e => by rw [z a x y] at e; omega, fun a b x y _ _ e => by rw [z a x y] at e; omega⟩
theorem soi_skip {r : Int} {A R so : Int → Int} {i i_zq many : Int} (h : SOI r A R so i many) (hi : i_zq = i + 1) (hs : 0 ≤ so i) : SOI r A R so i_zq many := by
  obtain ⟨h1, h2, h3, h4, h5⟩ := h
  refine ⟨h1, h2, h3, fun a x y z => ?_, h5⟩
  by_cases e : a = i
  · rw [e]; exact hs
  · exact h4 a x (by omega) z
theorem soj_start {r : Int} {A R so : Int → Int} {i j many : Int} (h : SOI r A R so i many) (i0 : 0 ≤ i) (i1 : i < A r) (hs : so i < 0) (hj : j = i) : SOJ r A R so i j many := ⟨so, h, hs, by omega, fun b _ _ => ⟨fun z => by omega, fun _ => rfl⟩⟩
theorem soj_take {r : Int} {A R so so_zq : Int → Int} {i j j_zq many p v : Int} (h : SOJ r A R so i j many) (j1 : j < A r) (hj : j_zq = j + 1) (h1 : R (24 * i + j) ≠ 0) (h2 : R (24 * j + i) ≠ 0) (hs : st1 so so_zq p v) (hp : p = j) (hv : v = many) : SOJ r A R so_zq i j_zq many := by
  obtain ⟨s0, q1, q2, q3, q4⟩ := h
  refine ⟨s0, q1, q2, by omega, fun b b0 b1 => ?_⟩
  by_cases e : b = j
  · refine ⟨fun _ => by rw [(hs b b0).1 (by omega), hv], fun z => absurd ⟨by omega, by omega, by rw [e]; exact ⟨h1, h2⟩⟩ z⟩
  · rw [(hs b b0).2 (by omega)]
    exact ⟨fun z => (q4 b b0 b1).1 ⟨z.1, by omega, z.2.2⟩, fun z => (q4 b b0 b1).2 (fun w => z ⟨w.1, by omega, w.2.2⟩)⟩
theorem soj_skip {r : Int} {A R so : Int → Int} {i j j_zq many : Int} (h : SOJ r A R so i j many) (hj : j_zq = j + 1) (hm : ¬ (R (24 * i + j) ≠ 0 ∧ R (24 * j + i) ≠ 0)) : SOJ r A R so i j_zq many := by
  obtain ⟨s0, q1, q2, q3, q4⟩ := h
  refine ⟨s0, q1, q2, by omega, fun b b0 b1 => ⟨fun z => (q4 b b0 b1).1 ⟨z.1, ?_, z.2.2⟩, fun z => (q4 b b0 b1).2 (fun w => z ⟨w.1, by omega, w.2.2⟩)⟩⟩
  by_cases e : b = j
  · subst e; exact absurd z.2.2 hm
  · omega
theorem mutl_tr {r : Int} {A R : Int → Int} (h : WEN r A R) {a b c : Int} (a0 : 0 ≤ a) (a1 : a < A r) (b0 : 0 ≤ b) (b1 : b < A r) (c0 : 0 ≤ c) (c1 : c < A r) (h1 : mutl R a b) (h2 : mutl R b c) : mutl R a c := ⟨h.2.2 b b0 b1 a c a0 a1 c0 c1 h1.1 h2.1, h.2.2 b b0 b1 c a c0 c1 a0 a1 h2.2 h1.2⟩
theorem soj_end {r : Int} {A R so : Int → Int} {i i_zq j many many_zq : Int} (h : SOJ r A R so i j many) (hj : A r ≤ j) (hi : i_zq = i + 1) (hm : many_zq = many + 1) : SOI r A R so i_zq many_zq := by
  obtain ⟨s0, ⟨w, h2, h3, h4, h5, h6⟩, q2, q3, q4⟩ := h
  have low : ∀ b, 0 ≤ b → b < A r → mutl R i b → i ≤ b := fun b b0 b1 m => by
    by_cases e : i ≤ b
    · exact e
    · have := h6 b i b0 b1 (by omega) (by omega) (h4 b b0 (by omega) b1) ⟨m.2, m.1⟩
      omega
  have ya : ∀ b, 0 ≤ b → b < A r → mutl R i b → so b = many := fun b b0 b1 m => (q4 b b0 b1).1 ⟨low b b0 b1 m, by omega, m⟩
  have na : ∀ b, 0 ≤ b → b < A r → ¬ mutl R i b → so b = s0 b := fun b b0 b1 m => (q4 b b0 b1).2 (fun z => m z.2.2)
  have rf : mutl R i i := ⟨w.2.1.1 i (by omega) (by omega), w.2.1.1 i (by omega) (by omega)⟩
  refine ⟨w, by omega, fun a a0 a1 => ?_, fun a a0 a1 a2 => ?_, fun a b a0 a1 b0 b1 sa sb => ?_, fun a b a0 a1 b0 b1 sa m => ?_⟩
  · by_cases m : mutl R i a
    · rw [ya a a0 a1 m]; omega
    · rw [na a a0 a1 m]; have := h3 a a0 a1; omega
  · by_cases e : a = i
    · rw [e, ya i (by omega) (by omega) rf]; omega
    · by_cases m : mutl R i a
      · rw [ya a a0 a2 m]; omega
      · rw [na a a0 a2 m]; exact h4 a a0 (by omega) a2
  · by_cases m : mutl R i a <;> by_cases m_zq : mutl R i b
    · rw [ya a a0 a1 m, ya b b0 b1 m_zq]
      exact ⟨fun _ => mutl_tr w a0 a1 (by omega) (by omega) b0 b1 ⟨m.2, m.1⟩ m_zq, fun _ => rfl⟩
    · rw [ya a a0 a1 m, na b b0 b1 m_zq]
      rw [na b b0 b1 m_zq] at sb
      have := h3 b b0 b1
      exact ⟨fun e => by omega, fun e => absurd (mutl_tr w (by omega) (by omega) a0 a1 b0 b1 m e) m_zq⟩
    · rw [ya b b0 b1 m_zq, na a a0 a1 m]
      rw [na a a0 a1 m] at sa
      have := h3 a a0 a1
      exact ⟨fun e => by omega, fun e => absurd (mutl_tr w (by omega) (by omega) b0 b1 a0 a1 m_zq ⟨e.2, e.1⟩) m⟩
    · rw [na a a0 a1 m] at sa ⊢
      rw [na b b0 b1 m_zq] at sb ⊢
      exact h5 a b a0 a1 b0 b1 sa sb
  · by_cases m1 : mutl R i b
    · rw [ya b b0 b1 m1]; omega
    · have m2 : ¬ mutl R i a := fun z => m1 (mutl_tr w (by omega) (by omega) a0 a1 b0 b1 z m)
      rw [na a a0 a1 m2] at sa
      rw [na b b0 b1 m1]
      exact h6 a b a0 a1 b0 b1 sa m
def STG (r : Int) (A so : Int → Int) (many : Int) : Prop := SG A r ∧ ∃ c : Int → Int, (∀ i, 0 ≤ i → i < A r → 0 ≤ so i ∧ so i < many) ∧ (∀ i j, 0 ≤ i → i < A r → 0 ≤ j → j < A r → so i = so j → c i = c j) ∧ ∀ e, 0 ≤ e → e < A (r + 1) → so (A (r + 267 + e)) ≠ so (A (r + 315 + e)) → c (A (r + 267 + e)) < c (A (r + 315 + e))
theorem stg_of {r : Int} {A R so : Int → Int} {i many : Int} (h : SOI r A R so i many) (hi : A r ≤ i) : STG r A so many := by
  obtain ⟨w, h2, h3, h4, h5, h6⟩ := h
  have nn : ∀ a, 0 ≤ a → a < A r → 0 ≤ so a := fun a a0 a1 => h4 a a0 (by omega) a1
  refine ⟨w.1.2, fun i => - sm (fun j => if R (24 * i + j) ≠ 0 then 1 else 0) (A r), fun a a0 a1 => ?_, fun a b a0 a1 b0 b1 e => ?_, fun e e0 e1 ne => ?_⟩
  · have := h3 a a0 a1; have := nn a a0 a1; omega
  · have m := (h5 a b a0 a1 b0 b1 (nn a a0 a1) (nn b b0 b1)).1 e
    have := sm_congr (f := fun j => if R (24 * a + j) ≠ 0 then 1 else 0) (g := fun j => if R (24 * b + j) ≠ 0 then (1 : Int) else 0) (n := A r) (fun j j0 j1 => by
      (try simp only [])
      have q1 : R (24 * a + j) ≠ 0 → R (24 * b + j) ≠ 0 := w.2.2 a a0 a1 b j b0 b1 j0 j1 m.2
      have q2 : R (24 * b + j) ≠ 0 → R (24 * a + j) ≠ 0 := w.2.2 b b0 b1 a j a0 a1 j0 j1 m.1
      by_cases z : R (24 * a + j) ≠ 0
      · rw [if_pos z, if_pos (q1 z)]
      · rw [if_neg z, if_neg (fun y => z (q2 y))])
    (try simp only [])
    omega
  · have s := sg_ends w.1.2 e0 e1
    have hr := w.2.1.2 e e0 e1
    generalize A (r + 267 + e) = t at *
    generalize A (r + 315 + e) = d at *
    have nm : R (24 * d + t) = 0 := by
      by_cases z : R (24 * d + t) = 0
      · exact z
      · exact absurd ((h5 t d s.1 s.2.1 s.2.2.1 s.2.2.2.1 (nn t s.1 s.2.1) (nn d s.2.2.1 s.2.2.2.1)).2 ⟨hr, z⟩) ne
    have := smlt (f := fun j => if R (24 * d + j) ≠ 0 then 1 else 0) (g := fun j => if R (24 * t + j) ≠ 0 then (1 : Int) else 0) (n := A r) (i := t) s.1 s.2.1 (fun j j0 j1 => by
      (try simp only [])
      have q : R (24 * d + j) ≠ 0 → R (24 * t + j) ≠ 0 := w.2.2 d s.2.2.1 s.2.2.2.1 t j s.1 s.2.1 j0 j1 hr
      by_cases z : R (24 * d + j) ≠ 0
      · rw [if_pos z, if_pos (q z)]; omega
      · rw [if_neg z]; split <;> omega) (by
      (try simp only [])
      rw [if_neg (fun z => z nm), if_pos (w.2.1.1 t s.1 s.2.1)]; omega)
    (try simp only [])
    omega
/-! orders of a part: everybody stands in best -/
def SEM (o mb : Int → Int) (n : Int) : Prop := ∀ k, 0 ≤ k → k < n → ∃ j, 0 ≤ j ∧ j < n ∧ o j = mb k
def SEB (n : Int) (o mb : Int → Int) : Prop := SEM o mb n
def BST (n : Int) (be mb : Int → Int) : Prop := SEM be mb n
def BSL (n : Int) (be mb : Int → Int) (l : Int) : Prop := l < 1000000 → SEM be mb n
theorem sem_swp {o o_zq mb : Int → Int} {n a b : Int} (h : SEM o mb n) (a0 : 0 ≤ a) (a1 : a < n) (b0 : 0 ≤ b) (b1 : b < n) (hs : swp o o_zq a b) : SEM o_zq mb n := by
  intro k k0 k1
  obtain ⟨j, j0, j1, j2⟩ := h k k0 k1
  by_cases x : j = a
  · exact ⟨b, b0, b1, by rw [hs.2.1, ← x]; exact j2⟩
  · by_cases y : j = b
    · exact ⟨a, a0, a1, by rw [hs.1, ← y]; exact j2⟩
    · exact ⟨j, j0, j1, by rw [hs.2.2 j j0 x y]; exact j2⟩
theorem sem_cym {o mb : Int → Int} {n k : Int} (h : CYM o mb k) (hk : n ≤ k) : SEM o mb n := fun j a b => ⟨j, a, b, h j a (by omega)⟩
def CPB (be o : Int → Int) (k : Int) : Prop := ∀ j, 0 ≤ j → j < k → be j = o j
theorem cpb_step {be be_zq o : Int → Int} {k k_zq p v : Int} (h : CPB be o k) (hk : k_zq = k + 1) (hs : st1 be be_zq p v) (hp : p = k) (hv : v = o k) : CPB be_zq o k_zq := by
  intro j a b
  by_cases e : j = k
  · rw [(hs j a).1 (by omega), hv, e]
  · rw [(hs j a).2 (by omega)]; exact h j a (by omega)
theorem bst_cpb {n k : Int} {be o mb : Int → Int} (h : CPB be o k) (hk : n ≤ k) (hs : SEB n o mb) : SEM be mb n := fun j a b => by
  obtain ⟨i, i0, i1, i2⟩ := hs j a b
  exact ⟨i, i0, i1, by rw [h i i0 (by omega)]; exact i2⟩
/-- who has left stands at one of the ends -/
def GBE (n : Int) (lf be mb : Int → Int) (f l : Int) : Prop := (0 ≤ f ∧ l < n) ∧ ∀ k, 0 ≤ k → k < n → lf (mb k) = 0 → ∃ j, 0 ≤ j ∧ j < n ∧ (j < f ∨ l < j) ∧ be j = mb k
theorem gbe_start {n f l : Int} {lf be mb A : Int → Int} {r k : Int} (hM : MBN n r mb A) (hL : LMB n lf mb k) (hk : A r ≤ k) (hf : f = 0) (hl : l = n - 1) : GBE n lf be mb f l := ⟨by omega, fun t a b c => absurd c (hL t a b (by have := hM.2 t a b; omega))⟩
theorem gbe_step {n f l f_zq l_zq x q v p w : Int} {lf lf_zq be be_zq mb A : Int → Int} {r : Int} (h : GBE n lf be mb f l) (hM : MBN n r mb A) (fl : f ≤ l) (hs : st1 lf lf_zq q v) (hq : q = x) (hv : v = 0) (ht : st1 be be_zq p w) (hw : w = x) (hc : (p = l ∧ l_zq = l - 1 ∧ f_zq = f) ∨ (p = f ∧ f_zq = f + 1 ∧ l_zq = l)) : GBE n lf_zq be_zq mb f_zq l_zq := by
  refine ⟨by have := h.1; omega, fun k a b c => ?_⟩
  have m := hM.2 k a b
  by_cases e : mb k = x
  · have := h.1
    exact ⟨p, by omega, by omega, by omega, by rw [(ht p (by omega)).1 rfl, hw, e]⟩
  · rw [(hs _ m.1).2 (by omega)] at c
    obtain ⟨j, j0, j1, j2, j3⟩ := h.2 k a b c
    have := h.1
    exact ⟨j, j0, j1, by omega, by rw [(ht j j0).2 (by omega)]; exact j3⟩
theorem cnl_none {f : Int → Int} (k : Nat) (h : cnl f k ≤ 0) : ∀ v : Int, 0 ≤ v → v < k → f v = 0 := by
  induction k with
  | zero => intro v a b; exact absurd b (by push_cast; omega)
  | succ k ih =>
    intro v a b
    unfold cnl at h
    have := cnl_nn f k
    by_cases z : f (k : Int) = 0
    · rw [if_neg (fun y => y z)] at h
      by_cases e : v = k
      · rw [e]; exact z
      · exact ih (by omega) v a (by push_cast at b; omega)
    · rw [if_pos z] at h; omega
/-- all are gone when the ends have met -/
def GLE (r : Int) (A lf : Int → Int) (a b : Int) : Prop := cnl lf (A r).toNat + a ≤ b + 1
end
section
/-! greedyOrder's end, placeIn, turnEdges -/
def ISX (n : Int) (mb : Int → Int) (v z : Int) : Prop := z ≠ 0 → ∃ t, 0 ≤ t ∧ t < n ∧ mb t = v
def LMX (n : Int) (lf mb : Int → Int) (k : Int) : Prop := ∀ v, 0 ≤ v → v < k → lf v ≠ 0 → ∃ t, 0 ≤ t ∧ t < n ∧ mb t = v
theorem lmx_step {n k k_zq q v z : Int} {lf lf_zq mb : Int → Int} (h : LMX n lf mb k) (hk : k_zq = k + 1) (hs : st1 lf lf_zq q v) (hq : q = k) (hi : ISX n mb k z) (hv : v = z) : LMX n lf_zq mb k_zq := by
  intro x a b c
  by_cases e : x = k
  · rw [(hs x a).1 (by omega), hv] at c; rw [e]; exact hi c
  · rw [(hs x a).2 (by omega)] at c; exact h x a (by omega) c
theorem cnl_cover {mb : Int → Int} (N : Nat) (n : Nat) : ∀ f : Int → Int, (∀ v : Int, 0 ≤ v → v < N → f v ≠ 0 → ∃ t, 0 ≤ t ∧ t < (n : Int) ∧ mb t = v) → cnl f N ≤ n := by
  induction n with
  | zero =>
    intro f h
    by_cases z : 1 ≤ cnl f N
    · obtain ⟨v, a, b, c⟩ := cnl_ex N z
      obtain ⟨t, t0, t1, _⟩ := h v a b c
      push_cast at t1; omega
    · push_cast; omega
  | succ n ih =>
    intro f h
    have i1 := ih (fun v => if v = mb n then 0 else f v) (fun v a b c => by
      by_cases e : v = mb n
      · rw [if_pos e] at c; exact absurd rfl c
      · rw [if_neg e] at c
        obtain ⟨t, t0, t1, t2⟩ := h v a b c
        refine ⟨t, t0, ?_, t2⟩
        by_cases q : t = n
        · rw [q] at t2; exact absurd t2.symm e
        · push_cast at t1; omega)
    by_cases z : 0 ≤ mb n ∧ mb n < N ∧ f (mb n) ≠ 0
    · have := cnl_zero (f := f) (g := fun v => if v = mb n then 0 else f v) N z.1 z.2.1 z.2.2 (if_pos rfl) (fun j _ b => if_neg b)
      push_cast; omega
    · have := cnl_same (f := f) (g := fun v => if v = mb n then 0 else f v) N (fun j a b => by
        by_cases e : j = mb n
        · rw [if_pos e]
          by_cases q : f j = 0
          · exact q.symm
          · exact absurd ⟨by omega, by omega, by rw [← e]; exact q⟩ z
        · rw [if_neg e])
      push_cast; omega
theorem gle_start {n r k a b : Int} {A lf mb : Int → Int} (n0 : 0 ≤ n) (h : LMX n lf mb k) (hk : A r ≤ k) (ha : a = 0) (hb : b = n - 1) : GLE r A lf a b := by
  have := cnl_cover (mb := mb) (A r).toNat n.toNat lf (fun v x y z => by
    obtain ⟨t, t0, t1, t2⟩ := h v x (by omega) z
    exact ⟨t, t0, by omega, t2⟩)
  unfold GLE; omega
theorem gle_step {r a b a_zq b_zq x q v : Int} {A lf lf_zq : Int → Int} (h : GLE r A lf a b) (hx : 0 ≤ x ∧ lf x ≠ 0 ∧ x < A r) (hs : st1 lf lf_zq q v) (hq : q = x) (hv : v = 0) (hab : b_zq - a_zq = b - a - 1) : GLE r A lf_zq a_zq b_zq := by
  have := cnl_zero (f := lf) (g := lf_zq) (A r).toNat hx.1 (by omega) hx.2.1 (by rw [(hs x hx.1).1 hq.symm, hv]) (fun j a b => (hs j a).2 (by omega))
  unfold GLE at h ⊢; omega
theorem gle_end {n r a b : Int} {A lf be mb : Int → Int} (h : GLE r A lf a b) (hb : GBE n lf be mb a b) (hM : MBN n r mb A) (hab : b < a) : BST n be mb := fun k k0 k1 => by
  have m := hM.2 k k0 k1
  have := cnl_none (f := lf) (A r).toNat (by unfold GLE at h; omega) (mb k) m.1 (by omega)
  obtain ⟨j, j0, j1, j2, j3⟩ := hb.2 k k0 k1 this
  exact ⟨j, j0, j1, j3⟩
/-- the first place -/
def PIN (n : Int) (be : Int → Int) (v k : Int) : Prop := (0 ≤ k ∧ k ≤ n) ∧ (∀ j, 0 ≤ j → j < k → be j ≠ v) ∧ (k < n → be k = v)
def PIL (be : Int → Int) (v k : Int) : Prop := ∀ j, 0 ≤ j → j < k → be j ≠ v
theorem pil_next {be : Int → Int} {v k k_zq x : Int} (h : PIL be v k) (hk : k_zq = k + 1) (hx : x = be k) (ne : x ≠ v) : PIL be v k_zq := by
  intro j a b
  by_cases e : j = k
  · rw [e, ← hx]; exact ne
  · exact h j a (by omega)
theorem pin_ex {n : Int} (be : Int → Int) (v : Int) (n0 : 0 ≤ n) : ∃ k, PIN n be v k := by
  have := sm_ind (P := fun n => ∃ k, PIN n be v k) ⟨0, by omega, fun j a b => by omega, fun z => by omega⟩ (fun n n0 h => by
    obtain ⟨k, h1, h2, h3⟩ := h
    by_cases z : k < n
    · exact ⟨k, by omega, h2, fun _ => h3 z⟩
    · by_cases e : be n = v
      · exact ⟨n, by omega, fun j a b => h2 j a (by omega), fun _ => e⟩
      · refine ⟨n + 1, by omega, fun j a b => ?_, fun z => by omega⟩
        by_cases q : j = n
        · rw [q]; exact e
        · exact h2 j a (by omega)) n n0
  exact this
theorem pin_un {n v k k_zq : Int} {be : Int → Int} (h : PIN n be v k) (h_zq : PIN n be v k_zq) : k = k_zq := by
  by_cases a : k < k_zq
  · exact absurd (h.2.2 (by have := h_zq.1; omega)) (h_zq.2.1 k h.1.1 a)
  · by_cases b : k_zq < k
    · exact absurd (h_zq.2.2 (by have := h.1; omega)) (h.2.1 k_zq h_zq.1.1 b)
    · omega
def TZ (tu : Int → Int) (i : Int) : Prop := ∀ e, 0 ≤ e → e < i → tu e = 0
theorem tz_step {F F_zq : Int → Int} {i i_zq p v : Int} (h : TZ F i) (hi : i_zq = i + 1) (hs : st1 F F_zq p v) (hp : p = i) (hv : v = 0) : TZ F_zq i_zq := by
  intro x a b
  by_cases e : x = p
  · rw [(hs x a).1 e, hv]
  · rw [(hs x a).2 e]; exact h x a (by omega)
def TEI (r : Int) (A so tu : Int → Int) (p : Int) : Prop := (∀ e, 0 ≤ e → e < A (r + 1) → so (A (r + 267 + e)) ≠ so (A (r + 315 + e)) → tu e = 0) ∧ ∃ pl : Int → Int, (∀ i, 0 ≤ pl i ∧ pl i ≤ 30) ∧ ∀ e, 0 ≤ e → e < A (r + 1) → so (A (r + 267 + e)) = so (A (r + 315 + e)) → so (A (r + 267 + e)) < p → (tu e ≠ 0 → pl (A (r + 315 + e)) < pl (A (r + 267 + e))) ∧ (tu e = 0 → pl (A (r + 267 + e)) < pl (A (r + 315 + e)))
theorem tei_start {r : Int} {A so tu : Int → Int} {p i many : Int} (hS : STG r A so many) (h : TZ tu i) (hi : A (r + 1) ≤ i) (hp : p = 0) : TEI r A so tu p := by
  obtain ⟨hg, c, h1, h2⟩ := hS
  refine ⟨fun e a b _ => h e a (by omega), fun _ => 0, fun _ => by constructor <;> (try simp only []) <;> omega, fun e a b _ lt => ?_⟩
  have := h1 _ (sg_ends hg a b).1 (sg_ends hg a b).2.1
  omega
def MBC (n : Int) (mb so : Int → Int) (p i : Int) : Prop := ∀ a, 0 ≤ a → a < i → so a = p → ∃ k, 0 ≤ k ∧ k < n ∧ mb k = a
theorem mbc_take {n n_zq i i_zq p q v : Int} {mb mb_zq so : Int → Int} (h : MBC n mb so p i) (n0 : 0 ≤ n) (hs : st1 mb mb_zq q v) (hq : q = n) (hv : v = i) (hn : n_zq = n + 1) (hi : i_zq = i + 1) : MBC n_zq mb_zq so p i_zq := by
  intro a a0 a1 sa
  by_cases e : a = i
  · exact ⟨n, n0, by omega, by rw [(hs n n0).1 hq.symm, hv, e]⟩
  · obtain ⟨k, k0, k1, k2⟩ := h a a0 (by omega) sa
    exact ⟨k, k0, by omega, by rw [(hs k k0).2 (by omega)]; exact k2⟩
theorem mbc_skip {n i i_zq p s : Int} {mb so : Int → Int} (h : MBC n mb so p i) (hi : i_zq = i + 1) (hs : s = so i) (ne : s ≠ p) : MBC n mb so p i_zq := by
  intro a a0 a1 sa
  by_cases e : a = i
  · rw [e, ← hs] at sa; exact absurd sa ne
  · exact h a a0 (by omega) sa
def MBF (r n : Int) (A mb so : Int → Int) (p : Int) : Prop := MBC n mb so p (A r)
theorem tei_none {r n : Int} {A so tu mb : Int → Int} {p p_zq many : Int} (hS : STG r A so many) (h : TEI r A so tu p) (hM : MBF r n A mb so p) (n1 : n < 2) (hp : p_zq = p + 1) : TEI r A so tu p_zq := by
  obtain ⟨h1, pl, h2, h3⟩ := h
  refine ⟨h1, pl, h2, fun e a b c d => h3 e a b c ?_⟩
  by_cases z : so (A (r + 267 + e)) = p
  · exfalso
    have s := sg_ends hS.1 a b
    obtain ⟨k, k0, k1, k2⟩ := hM _ s.1 s.2.1 z
    obtain ⟨l, l0, l1, l2⟩ := hM _ s.2.2.1 s.2.2.2.1 (c ▸ z)
    rw [show k = 0 by omega] at k2
    rw [show l = 0 by omega] at l2
    exact s.2.2.2.2 (by rw [← k2, ← l2])
  · omega
def TEJ (r n : Int) (A so tu be : Int → Int) (p e : Int) : Prop := 0 ≤ e ∧ ∃ t0, TEI r A so t0 p ∧ ∀ f, 0 ≤ f → f < A (r + 1) → ((e ≤ f ∨ so (A (r + 267 + f)) ≠ p ∨ so (A (r + 315 + f)) ≠ p) → tu f = t0 f) ∧ ((f < e ∧ so (A (r + 267 + f)) = p ∧ so (A (r + 315 + f)) = p) → ∀ a b, PIN n be (A (r + 267 + f)) a → PIN n be (A (r + 315 + f)) b → (tu f ≠ 0 ↔ b < a))
theorem tej_start {r n : Int} {A so tu be : Int → Int} {p e : Int} (h : TEI r A so tu p) (he : e = 0) : TEJ r n A so tu be p e := ⟨by omega, tu, h, fun f _ _ => ⟨fun _ => rfl, fun z => by omega⟩⟩
theorem tej_skip {r n : Int} {A so tu be : Int → Int} {p e e_zq : Int} (h : TEJ r n A so tu be p e) (he : e_zq = e + 1) (hn : so (A (r + 267 + e)) ≠ p ∨ so (A (r + 315 + e)) ≠ p) : TEJ r n A so tu be p e_zq := by
  obtain ⟨e0, t0, h1, h2⟩ := h
  refine ⟨by omega, t0, h1, fun f a b => ⟨fun z => (h2 f a b).1 (by omega), fun z => (h2 f a b).2 ⟨?_, z.2⟩⟩⟩
  by_cases q : f = e
  · subst q; rcases hn with w | w
    · exact absurd z.2.1 w
    · exact absurd z.2.2 w
  · omega
theorem tej_step {r n : Int} {A so tu tu_zq be : Int → Int} {p e e_zq q v x y t d : Int} (h : TEJ r n A so tu be p e) (e1 : e < A (r + 1)) (he : e_zq = e + 1) (ht : t = A (r + 267 + e)) (hd : d = A (r + 315 + e)) (h1 : so t = p) (h2 : so d = p) (hx : PIN n be t x) (hy : PIN n be d y) (hs : st1 tu tu_zq q v) (hq : q = e) (hv : (y < x ∧ v = 1) ∨ (x ≤ y ∧ v = 0)) : TEJ r n A so tu_zq be p e_zq := by
  obtain ⟨e0, t0, g1, g2⟩ := h
  refine ⟨by omega, t0, g1, fun f a b => ?_⟩
  by_cases z : f = e
  · subst z
    rw [← ht, ← hd]
    refine ⟨fun w => by rcases w with w | w | w; omega; exact absurd h1 w; exact absurd h2 w, fun _ a_zq b_zq ha hb => ?_⟩
    rw [(hs f a).1 (by omega), pin_un ha hx, pin_un hb hy]
    omega
  · rw [(hs f a).2 (by omega)]
    exact ⟨fun w => (g2 f a b).1 (by omega), fun w => (g2 f a b).2 ⟨by omega, w.2⟩⟩
theorem tej_end {r n : Int} {A so tu be mb : Int → Int} {p p_zq e many : Int} (hS : STG r A so many) (h : TEJ r n A so tu be p e) (he : A (r + 1) ≤ e) (hM : MBF r n A mb so p) (hB : BST n be mb) (n0 : 0 ≤ n) (n26 : n ≤ 26) (hp : p_zq = p + 1) : TEI r A so tu p_zq := by
  obtain ⟨e0, t0, ⟨g1, pl, g2, g3⟩, h2⟩ := h
  have ex : ∀ i, ∃ k, PIN n be i k := fun i => pin_ex be i n0
  have cp : ∀ i, PIN n be i (Classical.choose (ex i)) := fun i => Classical.choose_spec (ex i)
  refine ⟨fun f a b ne => ?_, fun i => @ite Int (so i = p) (Classical.propDecidable _) (Classical.choose (ex i)) (pl i), fun i => ?_, fun f a b eq lt => ?_⟩
  · rw [(h2 f a b).1 (by
      by_cases z : so (A (r + 267 + f)) = p
      · exact Or.inr (Or.inr (fun w => ne (by rw [z, w])))
      · exact Or.inr (Or.inl z))]
    exact g1 f a b ne
  · (try simp only [])
    split
    · have := (cp i).1; omega
    · exact g2 i
  · have s := sg_ends hS.1 a b
    (try simp only [])
    by_cases z : so (A (r + 267 + f)) = p
    · have z_zq : so (A (r + 315 + f)) = p := by rw [← eq]; exact z
      rw [if_pos z, if_pos z_zq]
      have q := (h2 f a b).2 ⟨by omega, z, z_zq⟩ _ _ (cp _) (cp _)
      have inb : ∀ i, 0 ≤ i → i < A r → so i = p → Classical.choose (ex i) < n := fun i i0 i1 si => by
        obtain ⟨k, k0, k1, k2⟩ := hM i i0 i1 si
        obtain ⟨j, j0, j1, j2⟩ := hB k k0 k1
        by_cases w : Classical.choose (ex i) < n
        · exact w
        · exact absurd (by rw [j2, k2]) ((cp i).2.1 j j0 (by omega))
      have b1 := (cp (A (r + 267 + f))).2.2 (inb _ s.1 s.2.1 z)
      have b2 := (cp (A (r + 315 + f))).2.2 (inb _ s.2.2.1 s.2.2.2.1 z_zq)
      have ne : Classical.choose (ex (A (r + 267 + f))) ≠ Classical.choose (ex (A (r + 315 + f))) := fun w => s.2.2.2.2 (by rw [← b1, ← b2, w])
      exact ⟨fun w => q.1 w, fun w => by
        have : ¬ (Classical.choose (ex (A (r + 315 + f))) < Classical.choose (ex (A (r + 267 + f)))) := fun y => (q.2 y) w
        omega⟩
    · have z_zq : ¬ so (A (r + 315 + f)) = p := fun w => z (by rw [eq]; exact w)
      rw [if_neg z, if_neg z_zq, (h2 f a b).1 (Or.inr (Or.inl z))]
      exact g3 f a b eq (by omega)
/-- from and to as they are turned -/
def frT (r : Int) (A tu : Int → Int) (e : Int) : Int := if tu e ≠ 0 then A (r + 315 + e) else A (r + 267 + e)
def toT (r : Int) (A tu : Int → Int) (e : Int) : Int := if tu e ≠ 0 then A (r + 267 + e) else A (r + 315 + e)
def TRK (r : Int) (A tu : Int → Int) : Prop := SG A r ∧ ∃ φ : Int → Int, ∀ e, 0 ≤ e → e < A (r + 1) → φ (frT r A tu e) < φ (toT r A tu e)
theorem trk_of {r : Int} {A so tu : Int → Int} {p many : Int} (hS : STG r A so many) (h : TEI r A so tu p) (hp : many ≤ p) : TRK r A tu := by
  obtain ⟨hg, c, h1, h2, h3⟩ := hS
  obtain ⟨g1, pl, g2, g3⟩ := h
  refine ⟨hg, fun i => 100 * c i + pl i, fun e a b => ?_⟩
  have s := sg_ends hg a b
  unfold frT toT
  have p1 := g2 (A (r + 267 + e))
  have p2 := g2 (A (r + 315 + e))
  by_cases z : so (A (r + 267 + e)) = so (A (r + 315 + e))
  · have q := g3 e a b z (by have := h1 _ s.1 s.2.1; omega)
    have ce := h2 _ _ s.1 s.2.1 s.2.2.1 s.2.2.2.1 z
    by_cases w : tu e ≠ 0
    · rw [if_pos w, if_pos w]; have := q.1 w; (try simp only []); omega
    · rw [if_neg w, if_neg w]; have := q.2 (by omega); (try simp only []); omega
  · have t0 := g1 e a b z
    have := h3 e a b z
    rw [if_neg (fun w => w t0), if_neg (fun w => w t0)]
    (try simp only [])
    omega
/-- any potential can be pressed into 0 .. 23 -/
theorem trk_rk {r : Int} {A tu : Int → Int} (h : TRK r A tu) : ∃ rk : Int → Int, (∀ i, 0 ≤ i → i < A r → 0 ≤ rk i ∧ rk i ≤ 23) ∧ ∀ e, 0 ≤ e → e < A (r + 1) → rk (frT r A tu e) + 1 ≤ rk (toT r A tu e) := by
  obtain ⟨hg, φ, hφ⟩ := h
  have n24 := hg.1
  have fb : ∀ e, 0 ≤ e → e < A (r + 1) → (0 ≤ frT r A tu e ∧ frT r A tu e < A r) ∧ 0 ≤ toT r A tu e ∧ toT r A tu e < A r := fun e a b => by
    have s := sg_ends hg a b
    unfold frT toT
    split <;> omega
  refine ⟨fun i => sm (fun j => if φ j < φ i then 1 else 0) (A r), fun i a b => ?_, fun e a b => ?_⟩
  · have h1 := sm_nn (f := fun j => if φ j < φ i then (1 : Int) else 0) (n := A r) (fun j _ _ => by (try simp only []); split <;> omega)
    have h2 := smlt (f := fun j => if φ j < φ i then (1 : Int) else 0) (g := fun _ => (1 : Int)) (n := A r) (i := i) a b (fun j _ _ => by (try simp only []); split <;> omega) (by (try simp only []); rw [if_neg (by omega)]; omega)
    have h3 := (smrg (f := fun _ => (1 : Int)) (lo := 1) (hi := 1) (n := A r) (by omega) (fun j _ _ => by omega)).2
    (try simp only [])
    omega
  · have q := hφ e a b
    have b1 := fb e a b
    exact smlt (f := fun j => if φ j < φ (frT r A tu e) then (1 : Int) else 0) (g := fun j => if φ j < φ (toT r A tu e) then (1 : Int) else 0) (n := A r) (i := frT r A tu e) b1.1.1 b1.1.2 (fun j _ _ => by
      (try simp only [])
      by_cases z : φ j < φ (frT r A tu e)
      · rw [if_pos z, if_pos (by omega)]; omega
      · rw [if_neg z]; split <;> omega) (by (try simp only []); rw [if_neg (by omega), if_pos q]; omega)
def WM0 (r : Int) (A R : Int → Int) (k i : Int) : Prop := WM r A R k i 0
end
section
/-! layers: the costs of the edges, the layers of the nodes -/
def FRO (r : Int) (A tu : Int → Int) (e z : Int) : Prop := z = frT r A tu e
def TOO (r : Int) (A tu : Int → Int) (e z : Int) : Prop := z = toT r A tu e
def LCP (r cm am : Int) (A tu cA cB cW PL aA aB aD : Int → Int) : Prop := (∀ j, 0 ≤ j → j < cm → cA j = frT r A tu j ∧ cB j = toT r A tu j ∧ PL j ≠ 0 ∧ 0 ≤ cW j ∧ cW j ≤ 72) ∧ ∀ j, 0 ≤ j → j < am → aA j = frT r A tu j ∧ aB j = toT r A tu j ∧ aD j = 1
theorem lcp_zero {r cm am : Int} {A tu cA cB cW PL aA aB aD : Int → Int} (h : cm ≤ 0) (h_zq : am ≤ 0) : LCP r cm am A tu cA cB cW PL aA aB aD := ⟨fun j a b => by omega, fun j a b => by omega⟩
theorem lcp_cost {r cm cm_zq am e a b w pl q1 q2 q3 q4 : Int} {A tu cA cA_zq cB cB_zq cW cW_zq PL PL_zq aA aB aD : Int → Int} (h : LCP r cm am A tu cA cB cW PL aA aB aD) (c0 : 0 ≤ cm) (hc : cm_zq = cm + 1) (ha : FRO r A tu e a) (hb : TOO r A tu e b) (he : e = cm) (w0 : 0 ≤ w) (w1 : w ≤ 72) (hp : pl ≠ 0) (s1 : st1 cA cA_zq q1 a) (s2 : st1 cB cB_zq q2 b) (s3 : st1 cW cW_zq q3 w) (s4 : st1 PL PL_zq q4 pl) (e1 : q1 = cm) (e2 : q2 = cm) (e3 : q3 = cm) (e4 : q4 = cm) : LCP r cm_zq am A tu cA_zq cB_zq cW_zq PL_zq aA aB aD := by
  refine ⟨fun j x y => ?_, h.2⟩
  by_cases z : j = cm
  · subst z
    rw [(s1 j x).1 e1.symm, (s2 j x).1 e2.symm, (s3 j x).1 e3.symm, (s4 j x).1 e4.symm, ha, hb, he]
    exact ⟨rfl, rfl, hp, w0, w1⟩
  · rw [(s1 j x).2 (by omega), (s2 j x).2 (by omega), (s3 j x).2 (by omega), (s4 j x).2 (by omega)]
    exact h.1 j x (by omega)
theorem lcp_apart {r cm am am_zq e a b d q1 q2 q3 : Int} {A tu cA cB cW PL aA aA_zq aB aB_zq aD aD_zq : Int → Int} (h : LCP r cm am A tu cA cB cW PL aA aB aD) (c0 : 0 ≤ am) (hc : am_zq = am + 1) (ha : FRO r A tu e a) (hb : TOO r A tu e b) (he : e = am) (hd : d = 1) (s1 : st1 aA aA_zq q1 a) (s2 : st1 aB aB_zq q2 b) (s3 : st1 aD aD_zq q3 d) (e1 : q1 = am) (e2 : q2 = am) (e3 : q3 = am) : LCP r cm am_zq A tu cA cB cW PL aA_zq aB_zq aD_zq := by
  refine ⟨h.1, fun j x y => ?_⟩
  by_cases z : j = am
  · subst z
    rw [(s1 j x).1 e1.symm, (s2 j x).1 e2.symm, (s3 j x).1 e3.symm, ha, hb, he]
    exact ⟨rfl, rfl, hd⟩
  · rw [(s1 j x).2 (by omega), (s2 j x).2 (by omega), (s3 j x).2 (by omega)]
    exact h.2 j x (by omega)
theorem ft_bd {r e : Int} {A tu : Int → Int} (h : SG A r) (e0 : 0 ≤ e) (e1 : e < A (r + 1)) : (0 ≤ frT r A tu e ∧ frT r A tu e < A r) ∧ 0 ≤ toT r A tu e ∧ toT r A tu e < A r := by
  have s := sg_ends h e0 e1
  unfold frT toT
  split <;> omega
theorem lcp_pbr {r p cm am : Int} {A tu cA cB cW PL aA aB aD : Int → Int} (h : LCP r cm am A tu cA cB cW PL aA aB aD) (ht : TRK r A tu) (hp : p = A r) (hc : cm = A (r + 1)) (ha : am = A (r + 1)) : PBR p cm am cA cB cW PL aA aB aD := by
  have n := ht.1.1
  subst hp hc ha
  refine ⟨⟨by omega, fun k a b => ?_, fun k a b => ?_⟩, ?_, fun k a b _ => ⟨k, a, b, ?_, ?_⟩⟩
  · obtain ⟨h1, h2, h3, h4, h5⟩ := h.1 k a b
    have f := ft_bd (tu := tu) ht.1 a b
    rw [h1, h2]; exact ⟨f.1, f.2, h4, h5⟩
  · obtain ⟨h1, h2, h3⟩ := h.2 k a b
    have f := ft_bd (tu := tu) ht.1 a b
    rw [h1, h2, h3]; exact ⟨f.1, f.2, by omega, by omega⟩
  · obtain ⟨rk, r1, r2⟩ := trk_rk ht
    refine ⟨rk, fun i a b => by have := r1 i a b; omega, fun k a b => ?_⟩
    obtain ⟨h1, h2, h3⟩ := h.2 k a b
    rw [h1, h2]; exact r2 k a b
  · rw [(h.2 k a b).1, (h.1 k a b).1]
  · rw [(h.2 k a b).2.1, (h.1 k a b).2.1]
/-- layers of nodes, each with a node -/
def LYP (r : Int) (A tu y : Int → Int) : Prop := SG A r ∧ (∀ i, 0 ≤ i → i < A r → 0 ≤ y i ∧ y i ≤ 23) ∧ ∀ e, 0 ≤ e → e < A (r + 1) → y (frT r A tu e) + 1 ≤ y (toT r A tu e)
theorem lev_full {r p cm am : Int} {A tu y cA cB cW PL aA aB aD : Int → Int} (h : LCP r cm am A tu cA cB cW PL aA aB aD) (hR : RIP p cm am y cA cB cW PL aA aB aD) (hg : SG A r) (hp : p = A r) (hc : cm = A (r + 1)) (ha : am = A (r + 1)) : ∀ l i, 0 ≤ i → i < p → 0 ≤ l → l ≤ y i → ∃ j, 0 ≤ j ∧ j < p ∧ y j = l := by
  obtain ⟨hP, hf, hn, hM, hcs, hL⟩ := hR
  intro l i i0 i1 l0 l1
  refine Classical.byContradiction (fun no => ?_)
  have nl : ∀ j, 0 ≤ j → j < p → y j ≠ l := fun j a b e => no ⟨j, a, b, e⟩
  -- everybody above l goes down by one
  have allp : ∀ k, 0 ≤ k → k < cm → PL k ≠ 0 := fun k a b => (h.1 k a b).2.2.1
  have q := hL allp (fun j => if l < y j then y j - 1 else y j) (fun k a b => by
    obtain ⟨h1, h2, h3⟩ := h.2 k a b
    have f := hf k a b
    have bd := hP.1.2.2 k a b
    have n1 := nl _ bd.1.1 bd.1.2
    have n2 := nl _ bd.2.1.1 bd.2.1.2
    (try simp only [])
    rw [h3] at f ⊢
    by_cases z : l < y (aA k)
    · rw [if_pos z, if_pos (by omega)]; omega
    · rw [if_neg z]; split <;> omega) (fun j a b => by
    have := hn j a b
    (try simp only [])
    split <;> omega) (by
    rw [kst_plain allp, kst_plain allp]
    refine sm_mono (fun k a b => ?_)
    have bd := hP.1.2.1 k a b
    have pl := pl_lt hP hf a b (allp k a b)
    have n1 := nl _ bd.1.1 bd.1.2
    have n2 := nl _ bd.2.1.1 bd.2.1.2
    (try simp only [])
    refine Int.mul_le_mul_of_nonneg_left ?_ bd.2.2.1
    by_cases z : l < y (cA k)
    · rw [if_pos z, if_pos (by omega)]; omega
    · rw [if_neg z]; split <;> omega) i i0 i1
  (try simp only [] at q)
  have := nl i i0 i1
  rw [if_pos (by omega)] at q
  omega
theorem lyp_of {r p cm am : Int} {A tu y cA cB cW PL aA aB aD : Int → Int} (h : LCP r cm am A tu cA cB cW PL aA aB aD) (hR : RIP p cm am y cA cB cW PL aA aB aD) (hg : SG A r) (hp : p = A r) (hc : cm = A (r + 1)) (ha : am = A (r + 1)) : LYP r A tu y := by
  have lf := lev_full h hR hg hp hc ha
  obtain ⟨hP, hf, hn, hM, hcs, hL⟩ := hR
  have n24 := hg.1
  refine ⟨hg, fun i a b => ⟨hn i a (by omega), ?_⟩, fun e a b => ?_⟩
  · -- levels 0 .. y i have nodes of their own
    refine Classical.byContradiction (fun big => ?_)
    have ex : ∀ l, ∃ j, 0 ≤ l → l ≤ y i → (0 ≤ j ∧ j < p ∧ y j = l) := fun l => by
      by_cases z : 0 ≤ l ∧ l ≤ y i
      · obtain ⟨j, j0, j1, j2⟩ := lf l i a (by omega) z.1 z.2
        exact ⟨j, fun _ _ => ⟨j0, j1, j2⟩⟩
      · exact ⟨0, fun x w => absurd ⟨x, w⟩ z⟩
    have := pigeon (q := fun l => Classical.choose (ex l)) (n := p) (m := 25) (by omega) (fun l l0 l1 => by
      have := Classical.choose_spec (ex l) l0 (by omega)
      exact ⟨this.1, this.2.1⟩) (fun l l_zq l0 ll l1 e => by
      have q1 := (Classical.choose_spec (ex l) l0 (by omega)).2.2
      have q2 := (Classical.choose_spec (ex l_zq) (by omega) (by omega)).2.2
      (try simp only [] at e)
      rw [e] at q1
      omega)
    omega
  · obtain ⟨h1, h2, h3⟩ := h.2 e a (by omega)
    have := hf e a (by omega)
    rw [h1, h2, h3] at this
    exact this
def ILE (il y : Int → Int) (i : Int) : Prop := ∀ j, 0 ≤ j → j < i → il j = y j
theorem ile_step {il il_zq y : Int → Int} {i i_zq p v : Int} (h : ILE il y i) (hi : i_zq = i + 1) (hs : st1 il il_zq p v) (hp : p = i) (hv : v = y i) : ILE il_zq y i_zq := by
  intro x a b
  by_cases e : x = i
  · rw [(hs x a).1 (by omega), hv, e]
  · rw [(hs x a).2 (by omega)]; exact h x a (by omega)
def jn (r : Int) (A tu y : Int → Int) (e : Int) : Int := y (toT r A tu e) - y (frT r A tu e) - 1
def JNT (r : Int) (A tu y : Int → Int) (e j : Int) : Prop := j = sm (jn r A tu y) e
theorem jnt_zero {r : Int} {A tu y : Int → Int} {e j : Int} (he : e = 0) (hj : j = 0) : JNT r A tu y e j := by
  unfold JNT; rw [sm_zero (by omega)]; exact hj
theorem jnt_step {r : Int} {A tu y : Int → Int} {e e_zq j j_zq a b ya yb d : Int} (h : JNT r A tu y e j) (e0 : 0 ≤ e) (he : e_zq = e + 1) (hb : TOO r A tu e b) (hyb : yb = y b) (ha : FRO r A tu e a) (hya : ya = y a) (hd : d = yb - ya) (hj : j_zq = j + (d - 1)) : JNT r A tu y e_zq j_zq := by
  unfold JNT at h ⊢
  rw [sm_succ e0 he, ← h]
  unfold jn
  rw [← hb, ← ha, ← hyb, ← hya]; omega
def LYJ (r : Int) (A tu y : Int → Int) : Prop := LYP r A tu y ∧ A r + sm (jn r A tu y) (A (r + 1)) ≤ 72
theorem lyp_il {r : Int} {A tu y il : Int → Int} {i : Int} (h : LYP r A tu y) (hi : ILE il y i) (hn : A r ≤ i) : LYP r A tu il := by
  have e : ∀ j, 0 ≤ j → j < A r → il j = y j := fun j a b => hi j a (by omega)
  refine ⟨h.1, fun j a b => by rw [e j a b]; exact h.2.1 j a b, fun k a b => ?_⟩
  have f := ft_bd (tu := tu) h.1 a b
  rw [e _ f.1.1 f.1.2, e _ f.2.1 f.2.2]
  exact h.2.2 k a b
theorem lyj_of {r : Int} {A tu y il : Int → Int} {i e j : Int} (h : LYP r A tu y) (hi : ILE il y i) (hn : A r ≤ i) (hj : JNT r A tu y e j) (he : e = A (r + 1)) (h72 : A r + j ≤ 72) : LYJ r A tu il := by
  refine ⟨lyp_il h hi hn, ?_⟩
  have : sm (jn r A tu il) (A (r + 1)) = j := by
    rw [hj, he]
    refine sm_congr (fun k a b => ?_)
    have f := ft_bd (tu := tu) h.1 a b
    unfold jn
    rw [hi _ f.1.1 (by omega), hi _ f.2.1 (by omega)]
  omega
theorem jn_bd {r e : Int} {A tu y : Int → Int} (h : LYP r A tu y) (e0 : 0 ≤ e) (e1 : e < A (r + 1)) : 0 ≤ jn r A tu y e ∧ jn r A tu y e ≤ 22 := by
  have f := ft_bd (tu := tu) h.1 e0 e1
  have := h.2.2 e e0 e1
  have := h.2.1 _ f.1.1 f.1.2
  have := h.2.1 _ f.2.1 f.2.2
  unfold jn; omega
end
section
/-! list: joints, lines, the lists of the layers -/
def adj (r : Int) (A : Int → Int) (a b : Int) : Prop := ∃ e, 0 ≤ e ∧ e < A (r + 1) ∧ inc A r e a ∧ inc A r e b ∧ a ≠ b
/-- one line: from a layer to the next -/
def lnk (r it : Int) (A il : Int → Int) (a b : Int) : Prop := (0 ≤ a ∧ a < it) ∧ (0 ≤ b ∧ b < it) ∧ il b = il a + 1 ∧ (a < A r → b < A r → adj r A a b)
def LNP (r li it : Int) (A il la lb : Int → Int) : Prop := ∀ p, 0 ≤ p → p < li → lnk r it A il (la p) (lb p)
def LNX (r li it : Int) (A il la lb : Int → Int) : Prop := LNP r li (it + 1) A il la lb
theorem lnp_more {r li li_zq it it_zq a b q1 q2 : Int} {A il la la_zq lb lb_zq : Int → Int} (h : LNP r li it A il la lb) (l0 : 0 ≤ li) (hi : it ≤ it_zq) (hl : li_zq = li + 1) (hn : lnk r it_zq A il a b) (s1 : st1 la la_zq q1 a) (s2 : st1 lb lb_zq q2 b) (e1 : q1 = li) (e2 : q2 = li) : LNP r li_zq it_zq A il la_zq lb_zq := by
  intro p x y
  by_cases z : p = li
  · rw [(s1 p x).1 (by omega), (s2 p x).1 (by omega)]; exact hn
  · rw [(s1 p x).2 (by omega), (s2 p x).2 (by omega)]
    obtain ⟨h1, h2, h3⟩ := h p x (by omega)
    exact ⟨by omega, by omega, h3⟩
theorem lnp_il {r li it q v : Int} {A il il_zq la lb : Int → Int} (h : LNP r li it A il la lb) (hs : st1 il il_zq q v) (hq : it ≤ q) : LNP r li it A il_zq la lb := by
  intro p x y
  obtain ⟨h1, h2, h3, h4⟩ := h p x y
  exact ⟨h1, h2, by rw [(hs _ h1.1).2 (by omega), (hs _ h2.1).2 (by omega)]; exact h3, h4⟩
theorem lyj_il {r q v : Int} {A tu il il_zq : Int → Int} (h : LYJ r A tu il) (hs : st1 il il_zq q v) (hq : A r ≤ q) : LYJ r A tu il_zq := by
  have e : ∀ j, 0 ≤ j → j < A r → il_zq j = il j := fun j a b => (hs j a).2 (by omega)
  obtain ⟨⟨h1, h2, h3⟩, h4⟩ := h
  have ej : ∀ k, 0 ≤ k → k < A (r + 1) → jn r A tu il_zq k = jn r A tu il k := fun k a b => by
    have f := ft_bd (tu := tu) h1 a b
    unfold jn
    rw [e _ f.1.1 f.1.2, e _ f.2.1 f.2.2]
  refine ⟨⟨h1, fun i a b => by rw [e i a b]; exact h2 i a b, fun k a b => ?_⟩, ?_⟩
  · have f := ft_bd (tu := tu) h1 a b
    rw [e _ f.1.1 f.1.2, e _ f.2.1 f.2.2]; exact h3 k a b
  · rw [sm_congr ej]; exact h4
/-- how many items and lines edges below e have made -/
def LIC (r it : Int) (A tu il fj : Int → Int) (e : Int) : Prop := LYJ r A tu il ∧ (0 ≤ e ∧ e ≤ A (r + 1)) ∧ it = A r + sm (jn r A tu il) e ∧ (∀ j, A r ≤ j → j < it → 0 ≤ il j ∧ il j ≤ 23) ∧ ∀ f, 0 ≤ f → f < e → A r ≤ fj f ∧ fj f + jn r A tu il f ≤ it
theorem sm_upto {f : Int → Int} {e m : Int} (e0 : 0 ≤ e) (h : ∀ k, 0 ≤ k → k < m → 0 ≤ f k) : ∀ n, e ≤ n → n ≤ m → sm f e ≤ sm f n := by
  intro n hn hm
  have := sm_ind (P := fun d => e + d ≤ m → sm f e ≤ sm f (e + d)) (fun _ => by rw [Int.add_zero]; exact Int.le_refl _) (fun d d0 ih hd => by
    rw [sm_succ (n := e + d) (m := e + (d + 1)) (by omega) (by omega)]
    have := ih (by omega)
    have := h (e + d) (by omega) (by omega)
    omega) (n - e) (by omega) (by omega)
  rwa [show e + (n - e) = n by omega] at this
theorem lic_bd {r it e : Int} {A tu il fj : Int → Int} (h : LIC r it A tu il fj e) : (A r ≤ it ∧ it ≤ 72) ∧ (e < A (r + 1) → it + jn r A tu il e ≤ 72) := by
  obtain ⟨⟨h1, h2⟩, h3, h4, h6, h7⟩ := h
  have nn : ∀ k, 0 ≤ k → k < A (r + 1) → 0 ≤ jn r A tu il k := fun k a b => (jn_bd h1 a b).1
  have s0 := sm_nn (f := jn r A tu il) (n := e) (fun k a b => nn k a (by omega))
  have s1 := sm_upto h3.1 nn (A (r + 1)) h3.2 (by omega)
  have n0 := h1.1.1
  refine ⟨by omega, fun lt => ?_⟩
  have s2 := sm_upto (e := e + 1) (by omega) nn (A (r + 1)) (by omega) (by omega)
  rw [sm_succ h3.1 rfl] at s2
  omega
theorem lic_zero {r it e : Int} {A tu il fj : Int → Int} (h : LYJ r A tu il) (hi : it = A r) (he : e = 0) : LIC r it A tu il fj e := by
  have n0 := h.1.1.1
  refine ⟨h, by omega, ?_, fun j a b => by omega, fun f a b => by omega⟩; rw [he, sm_zero (by omega)]; omega
/-- within edge e: l is the layer of the next joint, x the item before it -/
def LID (r it : Int) (A tu il fj : Int → Int) (e x l : Int) : Prop := ∃ i0, LIC r i0 A tu il fj e ∧ e < A (r + 1) ∧ fj e = i0 ∧ (il (frT r A tu e) + 1 ≤ l ∧ l ≤ il (toT r A tu e)) ∧ it = i0 + (l - il (frT r A tu e) - 1) ∧ il x = l - 1 ∧ (0 ≤ x ∧ x < it) ∧ ((x = frT r A tu e ∧ l = il (frT r A tu e) + 1) ∨ A r ≤ x) ∧ ∀ j, i0 ≤ j → j < it → 0 ≤ il j ∧ il j ≤ 23
theorem lid_start {r it e x l a q v ya : Int} {A tu il fj fj_zq : Int → Int} (h : LIC r it A tu il fj e) (e1 : e < A (r + 1)) (hs : st1 fj fj_zq q v) (hq : q = e) (hv : v = it) (hx : FRO r A tu e x) (ha : FRO r A tu e a) (hya : ya = il a) (hl : l = ya + 1) : LID r it A tu il fj_zq e x l := by
  have n := h.1.1
  have bd := lic_bd h
  have f := ft_bd (tu := tu) n.1 h.2.1.1 e1
  have st := n.2.2 e h.2.1.1 e1
  unfold FRO at hx ha
  refine ⟨it, ⟨h.1, h.2.1, h.2.2.1, h.2.2.2.1, fun g a b => ?_⟩, e1, by rw [(hs e h.2.1.1).1 hq.symm, hv], ?_, ?_, ?_, ?_, Or.inl ⟨hx, ?_⟩, fun j a b => by omega⟩
  · rw [(hs g a).2 (by omega)]; exact h.2.2.2.2 g a b
  all_goals (rw [ha] at hya; (try rw [hx]); omega)
theorem lid_step {r it it_zq e x x_zq l l_zq q v : Int} {A tu il il_zq fj : Int → Int} (h : LID r it A tu il fj e x l) (lt : l < il (toT r A tu e)) (hs : st1 il il_zq q v) (hq : q = it) (hv : v = l) (hx : x_zq = it) (hi : it_zq = it + 1) (hl_zq : l_zq = l + 1) : LID r it_zq A tu il_zq fj e x_zq l_zq := by
  obtain ⟨i0, h1, h2, h3, h4, h5, h7, h8, h9, h10⟩ := h
  have n := h1.1.1
  have bd := lic_bd h1
  have f := ft_bd (tu := tu) n.1 h1.2.1.1 h2
  have yb := n.2.1 _ f.2.1 f.2.2
  have ya := n.2.1 _ f.1.1 f.1.2
  have ee : ∀ j, 0 ≤ j → j < it → il_zq j = il j := fun j a b => (hs j a).2 (by omega)
  have ef := ee _ f.1.1 (by omega)
  have et := ee _ f.2.1 (by omega)
  have ej : ∀ k, 0 ≤ k → k < A (r + 1) → jn r A tu il_zq k = jn r A tu il k := fun k a b => by
    have f := ft_bd (tu := tu) n.1 a b
    unfold jn
    rw [ee _ f.1.1 (by omega), ee _ f.2.1 (by omega)]
  have es : sm (jn r A tu il_zq) e = sm (jn r A tu il) e := sm_congr (fun k a b => ej k a (by omega))
  refine ⟨i0, ⟨lyj_il h1.1 hs (by omega), h1.2.1, by rw [es]; exact h1.2.2.1, fun j a b => by rw [ee j (by omega) (by omega)]; exact h1.2.2.2.1 j a b, fun g a b => by rw [ej g a (by omega)]; exact h1.2.2.2.2 g a b⟩, h2, h3, ?_, ?_, ?_, by omega, Or.inr (by omega), fun j a b => ?_⟩
  · rw [ef, et]; omega
  · rw [ef]; omega
  · rw [hx, (hs it (by omega)).1 hq.symm]; omega
  · by_cases z : j = it
    · rw [(hs j (by omega)).1 (by omega)]; omega
    · rw [ee j (by omega) (by omega)]; exact h10 j a (by omega)
theorem lid_end {r it e e_zq x l : Int} {A tu il fj : Int → Int} (h : LID r it A tu il fj e x l) (ge : il (toT r A tu e) ≤ l) (he : e_zq = e + 1) : LIC r it A tu il fj e_zq := by
  obtain ⟨i0, h1, h2, h3, h4, h5, h7, h8, h9, h10⟩ := h
  have jv : jn r A tu il e = l - il (frT r A tu e) - 1 := by unfold jn; omega
  have e0 := h1.2.1
  refine ⟨h1.1, by omega, ?_, fun j a b => ?_, fun g a b => ?_⟩
  · rw [he, sm_succ e0.1 rfl]; have := h1.2.2.1; omega
  · by_cases z : j < i0
    · exact h1.2.2.2.1 j a z
    · exact h10 j (by omega) b
  · by_cases z : g = e
    · have := (lic_bd h1).1; subst z; rw [h3]; omega
    · have := h1.2.2.2.2 g a (by omega)
      have := (lic_bd h1).1
      have := jn_bd h1.1.1 e0.1 h2
      omega
theorem lid_bd {r it e x l : Int} {A tu il fj : Int → Int} (h : LID r it A tu il fj e x l) : (A r ≤ it ∧ it ≤ 72 ∧ 0 ≤ x ∧ x < it ∧ 1 ≤ l ∧ l ≤ 23) ∧ (l < il (toT r A tu e) → it + 1 ≤ 72) := by
  obtain ⟨i0, h1, h2, h3, h4, h5, h7, h8, h9, h10⟩ := h
  have n := h1.1.1
  have bd := lic_bd h1
  have f := ft_bd (tu := tu) n.1 h1.2.1.1 h2
  have yb := n.2.1 _ f.2.1 f.2.2
  have ya := n.2.1 _ f.1.1 f.1.2
  have b2 := bd.2 h2
  unfold jn at b2
  refine ⟨by omega, fun lt => by omega⟩
theorem inc_ft {r e : Int} {A tu : Int → Int} : inc A r e (frT r A tu e) ∧ inc A r e (toT r A tu e) := by
  unfold frT toT inc
  split
  · exact ⟨Or.inr rfl, Or.inl rfl⟩
  · exact ⟨Or.inl rfl, Or.inr rfl⟩
theorem lid_ln1 {r it e x l q v : Int} {A tu il il_zq fj : Int → Int} (h : LID r it A tu il fj e x l) (hs : st1 il il_zq q v) (hq : q = it) (hv : v = l) : lnk r (it + 1) A il_zq x it := by
  obtain ⟨i0, h1, h2, h3, h4, h5, h7, h8, h9, h10⟩ := h
  have n := (lic_bd h1).1
  refine ⟨by omega, by omega, ?_, fun a b => by omega⟩
  rw [(hs it (by omega)).1 hq.symm, (hs x h8.1).2 (by omega)]; omega
theorem lid_ln2 {r it e x l b : Int} {A tu il fj : Int → Int} (h : LID r it A tu il fj e x l) (ge : il (toT r A tu e) ≤ l) (hb : TOO r A tu e b) : lnk r it A il x b := by
  obtain ⟨i0, h1, h2, h3, h4, h5, h7, h8, h9, h10⟩ := h
  have n := (lic_bd h1).1
  have f := ft_bd (tu := tu) h1.1.1.1 h1.2.1.1 h2
  have st := h1.1.1.2.2 e h1.2.1.1 h2
  unfold TOO at hb
  rw [hb]
  refine ⟨by omega, by omega, by omega, fun a b => ?_⟩
  rcases h9 with w | w
  · rw [w.1]
    exact ⟨e, h1.2.1.1, h2, inc_ft.1, inc_ft.2, fun z => by rw [z] at st; omega⟩
  · omega
/-- all that never changes once the layers are listed -/
def LSA (r it lm li : Int) (A tu il fj la lb : Int → Int) : Prop := LYJ r A tu il ∧ (A r ≤ it ∧ it ≤ 72 ∧ 0 ≤ li ∧ li ≤ 120 ∧ 0 ≤ lm ∧ lm ≤ 24) ∧ (∀ i, 0 ≤ i → i < it → 0 ≤ il i ∧ il i < lm) ∧ LNP r li it A il la lb ∧ ∀ e, 0 ≤ e → e < A (r + 1) → A r ≤ fj e ∧ fj e + jn r A tu il e ≤ it
def LM1 (il : Int → Int) (lm i : Int) : Prop := (0 ≤ lm ∧ lm ≤ 24) ∧ ∀ j, 0 ≤ j → j < i → 0 ≤ il j ∧ il j < lm
def LMF (lm : Int) (il : Int → Int) (i : Int) : Prop := LM1 il lm i
def LIF (r it : Int) (A tu il fj : Int → Int) : Prop := LIC r it A tu il fj (A (r + 1))
theorem lif_il {r it i : Int} {A tu il fj : Int → Int} (h : LIF r it A tu il fj) (i0 : 0 ≤ i) (i1 : i < it) : 0 ≤ il i ∧ il i ≤ 23 := by
  by_cases z : i < A r
  · exact h.1.1.2.1 i i0 z
  · exact h.2.2.2.1 i (by omega) i1
theorem lm1_step {r it i i_zq lm lm_zq v : Int} {A tu il fj : Int → Int} (h : LM1 il lm i) (hF : LIF r it A tu il fj) (i0 : 0 ≤ i) (i1 : i < it) (hi : i_zq = i + 1) (hv : v = il i) (hm : (lm_zq = lm ∧ v + 1 ≤ lm) ∨ (lm_zq = v + 1 ∧ lm ≤ v + 1)) : LM1 il lm_zq i_zq := by
  have b := lif_il hF i0 i1
  refine ⟨by have := h.1; omega, fun j a c => ?_⟩
  by_cases e : j = i
  · subst e; omega
  · have := h.2 j a (by omega); omega
theorem lsa_of {r it lm li i : Int} {A tu il fj la lb : Int → Int} (hF : LIF r it A tu il fj) (hN : LNP r li it A il la lb) (hM : LM1 il lm i) (hi : it ≤ i) (hl : 0 ≤ li ∧ li ≤ 120) : LSA r it lm li A tu il fj la lb := by
  have b := (lic_bd hF).1
  refine ⟨hF.1, by have := hM.1; omega, fun j x y => hM.2 j x (by omega), hN, hF.2.2.2.2⟩
/-- one layer's list -/
def lay (it : Int) (il ls lt : Int → Int) (l : Int) : Prop := (0 ≤ ls l ∧ ls l ≤ it) ∧ (∀ k, 0 ≤ k → k < ls l → (0 ≤ lt (76 * l + k) ∧ lt (76 * l + k) < it) ∧ il (lt (76 * l + k)) = l) ∧ (∀ j k, 0 ≤ j → j < k → k < ls l → lt (76 * l + j) ≠ lt (76 * l + k)) ∧ ∀ i, 0 ≤ i → i < it → il i = l → ∃ k, 0 ≤ k ∧ k < ls l ∧ lt (76 * l + k) = i
def LLS (it : Int) (il ls lt : Int → Int) (l : Int) : Prop := ∀ m, 0 ≤ m → m < l → lay it il ls lt m
def LSB (it lm : Int) (il ls lt : Int → Int) : Prop := it ≤ 72 ∧ LLS it il ls lt lm
def LLI (it : Int) (il ls lt : Int → Int) (l i : Int) : Prop := (0 ≤ l ∧ 0 ≤ i ∧ it ≤ 72) ∧ LLS it il ls lt l ∧ (0 ≤ ls l ∧ ls l ≤ i) ∧ (∀ k, 0 ≤ k → k < ls l → (0 ≤ lt (76 * l + k) ∧ lt (76 * l + k) < i) ∧ il (lt (76 * l + k)) = l) ∧ (∀ j k, 0 ≤ j → j < k → k < ls l → lt (76 * l + j) ≠ lt (76 * l + k)) ∧ ∀ x, 0 ≤ x → x < i → il x = l → ∃ k, 0 ≤ k ∧ k < ls l ∧ lt (76 * l + k) = x
theorem lay_keep {it m l : Int} {il ls ls_zq lt lt_zq : Int → Int} (h : lay it il ls lt m) (it72 : it ≤ 72) (m0 : 0 ≤ m) (e1 : ls_zq m = ls m) (e2 : ∀ k, 0 ≤ k → k < 76 → lt_zq (76 * m + k) = lt (76 * m + k)) : lay it il ls_zq lt_zq m := by
  obtain ⟨h1, h2, h3, h4⟩ := h
  refine ⟨by rw [e1]; exact h1, fun k a b => ?_, fun j k a b c => ?_, fun i a b c => ?_⟩
  · rw [e1] at b; rw [e2 k a (by omega)]; exact h2 k a b
  · rw [e1] at c; rw [e2 k (by omega) (by omega), e2 j a (by omega)]; exact h3 j k a b c
  · obtain ⟨k, k0, k1, k2⟩ := h4 i a b c
    exact ⟨k, k0, by rw [e1]; exact k1, by rw [e2 k k0 (by omega)]; exact k2⟩
theorem lli_start {it l i q v : Int} {il ls ls_zq lt : Int → Int} (h : LLS it il ls lt l) (l0 : 0 ≤ l) (it72 : it ≤ 72) (hs : st1 ls ls_zq q v) (hq : q = l) (hv : v = 0) (hi : i = 0) : LLI it il ls_zq lt l i := by
  have e : ls_zq l = 0 := by rw [(hs l l0).1 hq.symm, hv]
  refine ⟨by omega, fun m a b => lay_keep (l := l) (h m a b) it72 a ((hs m a).2 (by omega)) (fun _ _ _ => rfl), by omega, fun k a b => by omega, fun j k a b c => by omega, fun x a b => by omega⟩
theorem lli_skip {it l i i_zq v : Int} {il ls lt : Int → Int} (h : LLI it il ls lt l i) (hi : i_zq = i + 1) (hv : v = il i) (ne : v ≠ l) : LLI it il ls lt l i_zq := by
  obtain ⟨h0, h1, h2, h3, h4, h5⟩ := h
  refine ⟨by omega, h1, by omega, fun k a b => by have := h3 k a b; omega, h4, fun x a b c => ?_⟩
  by_cases e : x = i
  · subst e; omega
  · exact h5 x a (by omega) c
theorem lli_take {it l i i_zq v q w p x : Int} {il ls ls_zq lt lt_zq : Int → Int} (h : LLI it il ls lt l i) (i1 : i < it) (hi : i_zq = i + 1) (hv : v = il i) (e : v = l) (hs : st1 lt lt_zq q w) (hq : q = 76 * l + ls l) (hw : w = i) (ht : st1 ls ls_zq p x) (hp : p = l) (hx : x = ls l + 1) : LLI it il ls_zq lt_zq l i_zq := by
  obtain ⟨h0, h1, h2, h3, h4, h5⟩ := h
  have en : ls_zq l = ls l + 1 := by rw [(ht l h0.1).1 hp.symm, hx]
  have ek : ∀ k, 0 ≤ k → k < ls l → lt_zq (76 * l + k) = lt (76 * l + k) := fun k a b => (hs _ (by omega)).2 (by omega)
  have el : lt_zq (76 * l + ls l) = i := by rw [(hs _ (by omega)).1 hq.symm, hw]
  refine ⟨by omega, fun m a b => lay_keep (l := l) (h1 m a b) h0.2.2 a ((ht m a).2 (by omega)) (fun k a b => (hs _ (by omega)).2 (by omega)), by omega, fun k a b => ?_, fun j k a b c => ?_, fun y a b c => ?_⟩
  · by_cases z : k = ls l
    · rw [z, el]; omega
    · rw [ek k a (by omega)]; have := h3 k a (by omega); omega
  · by_cases z : k = ls l
    · rw [z, el, ek j a (by omega)]; have := h3 j a (by omega); omega
    · rw [ek k (by omega) (by omega), ek j a (by omega)]; exact h4 j k a b (by omega)
  · by_cases z : y = i
    · exact ⟨ls l, by omega, by omega, by rw [el, z]⟩
    · obtain ⟨k, k0, k1, k2⟩ := h5 y a (by omega) c
      exact ⟨k, k0, by omega, by rw [ek k k0 k1]; exact k2⟩
theorem lli_end {it l l_zq i : Int} {il ls lt : Int → Int} (h : LLI it il ls lt l i) (hi : i = it) (hl : l_zq = l + 1) : LLS it il ls lt l_zq := by
  obtain ⟨h0, h1, h2, h3, h4, h5⟩ := h
  subst hi
  intro m a b
  by_cases z : m = l
  · subst z; exact ⟨h2, h3, h4, h5⟩
  · exact h1 m a (by omega)
theorem lli_bd {it l i : Int} {il ls lt : Int → Int} (h : LLI it il ls lt l i) : 0 ≤ ls l ∧ ls l ≤ i := h.2.2.1
def LNK (r it : Int) (A il : Int → Int) (a b : Int) : Prop := lnk r it A il a b
def LNM (r it : Int) (A il : Int → Int) (a b : Int) : Prop := lnk r (it + 1) A il a b
end
section
/-! places, arrangements, across -/
def PLF (il ls lt : Int → Int) (x k : Int) : Prop := (0 ≤ k ∧ k < ls (il x)) ∧ lt (76 * il x + k) = x
def PLG (il lt : Int → Int) (x l k : Int) : Prop := l = il x ∧ ∀ j, 0 ≤ j → j < k → lt (76 * l + j) ≠ x
theorem plg_zero {il lt : Int → Int} {x l k : Int} (hl : l = il x) (hk : k = 0) : PLG il lt x l k := ⟨hl, fun j a b => by omega⟩
theorem plg_next {il lt : Int → Int} {x l k k_zq v q : Int} (h : PLG il lt x l k) (hk : k_zq = k + 1) (hq : q = 76 * l + k) (hv : v = lt q) (ne : v ≠ x) : PLG il lt x l k_zq := by
  refine ⟨h.1, fun j a b => ?_⟩
  by_cases e : j = k
  · rw [e, ← hq, ← hv]; exact ne
  · exact h.2 j a (by omega)
theorem plg_bd {r it lm li x l k : Int} {A tu il fj la lb ls lt : Int → Int} (hA : LSA r it lm li A tu il fj la lb) (hB : LSB it lm il ls lt) (h : PLG il lt x l k) (x0 : 0 ≤ x) (x1 : x < it) (k0 : 0 ≤ k) : (0 ≤ l ∧ l ≤ 23 ∧ l < lm) ∧ k < ls l ∧ ls l ≤ 72 := by
  have b := hA.2.2.1 x x0 x1
  have b2 := hA.2.1
  have y := hB.2 l (by rw [h.1]; exact b.1) (by rw [h.1]; exact b.2)
  obtain ⟨j, j0, j1, j2⟩ := y.2.2.2 x x0 x1 h.1.symm
  refine ⟨by rw [h.1]; omega, ?_, by have := y.1; have := hB.1; omega⟩
  refine Classical.byContradiction (fun z => h.2 j j0 (by omega) j2)
theorem lsa_ln {r it lm li p : Int} {A tu il fj la lb : Int → Int} (h : LSA r it lm li A tu il fj la lb) (p0 : 0 ≤ p) (p1 : p < li) : (0 ≤ la p ∧ la p < it) ∧ (0 ≤ lb p ∧ lb p < it) ∧ il (lb p) = il (la p) + 1 := by
  have := h.2.2.2.1 p p0 p1
  exact ⟨this.1, this.2.1, this.2.2.1⟩
/-- rows that hold a layer's items -/
def rowl (it : Int) (il ro : Int → Int) (n l : Int) : Prop := (∀ k, 0 ≤ k → k < n → (0 ≤ ro k ∧ ro k < it) ∧ il (ro k) = l) ∧ (∀ j k, 0 ≤ j → j < k → k < n → ro j ≠ ro k) ∧ ∀ i, 0 ≤ i → i < it → il i = l → ∃ k, 0 ≤ k ∧ k < n ∧ ro k = i
def BM1 (lt ro : Int → Int) (l k : Int) : Prop := ∀ j, 0 ≤ j → j < k → ro j = lt (76 * l + j)
def BMR (it : Int) (il ro : Int → Int) (n l : Int) : Prop := rowl it il ro n l
theorem bm1_step {lt ro ro_zq : Int → Int} {l k k_zq q v p : Int} (h : BM1 lt ro l k) (hk : k_zq = k + 1) (hs : st1 ro ro_zq q v) (hq : q = k) (hp : p = 76 * l + k) (hv : v = lt p) : BM1 lt ro_zq l k_zq := by
  intro j a b
  by_cases e : j = k
  · rw [(hs j a).1 (by omega), hv, hp, e]
  · rw [(hs j a).2 (by omega)]; exact h j a (by omega)
theorem bmr_start {it lm n l k : Int} {il ls lt ro : Int → Int} (hB : LSB it lm il ls lt) (h : BM1 lt ro l k) (l0 : 0 ≤ l) (l1 : l < lm) (hn : n = ls l) (hk : n ≤ k) : BMR it il ro n l := by
  obtain ⟨h1, h2, h3, h4⟩ := hB.2 l l0 l1
  subst hn
  refine ⟨fun j a b => by rw [h j a (by omega)]; exact h2 j a b, fun j m a b c => by rw [h j a (by omega), h m (by omega) (by omega)]; exact h3 j m a b c, fun i a b c => ?_⟩
  obtain ⟨j, j0, j1, j2⟩ := h4 i a b c
  exact ⟨j, j0, j1, by rw [h j j0 (by omega)]; exact j2⟩
theorem bmr_swp {it n l a b : Int} {il ro ro_zq : Int → Int} (h : BMR it il ro n l) (a0 : 0 ≤ a) (a1 : a < n) (b0 : 0 ≤ b) (b1 : b < n) (ab : a ≠ b) (hs : swp ro ro_zq a b) : BMR it il ro_zq n l := by
  obtain ⟨h1, h2, h3⟩ := h
  have dis : ∀ j k, 0 ≤ j → j < n → 0 ≤ k → k < n → j ≠ k → ro j ≠ ro k := fun j k j0 j1 k0 k1 e => by
    by_cases z : j < k
    · exact h2 j k j0 z k1
    · exact fun w => h2 k j k0 (by omega) j1 w.symm
  have val : ∀ j, 0 ≤ j → j < n → ∃ j_zq, 0 ≤ j_zq ∧ j_zq < n ∧ ro_zq j = ro j_zq ∧ ((j = a ∧ j_zq = b) ∨ (j = b ∧ j_zq = a) ∨ (j ≠ a ∧ j ≠ b ∧ j_zq = j)) := fun j j0 j1 => by
    by_cases x : j = a
    · exact ⟨b, b0, b1, by rw [x]; exact hs.1, Or.inl ⟨x, rfl⟩⟩
    · by_cases y : j = b
      · exact ⟨a, a0, a1, by rw [y]; exact hs.2.1, Or.inr (Or.inl ⟨y, rfl⟩)⟩
      · exact ⟨j, j0, j1, hs.2.2 j j0 x y, Or.inr (Or.inr ⟨x, y, rfl⟩)⟩
  refine ⟨fun k k0 k1 => ?_, fun j k j0 jk k1 => ?_, fun i i0 i1 i2 => ?_⟩
  · obtain ⟨k_zq, p, q, e, _⟩ := val k k0 k1
    rw [e]; exact h1 k_zq p q
  · obtain ⟨j_zq, p, q, e, c⟩ := val j j0 (by omega)
    obtain ⟨k_zq, p_zq, q_zq, e_zq, c_zq⟩ := val k (by omega) k1
    rw [e, e_zq]; exact dis j_zq k_zq p q p_zq q_zq (by omega)
  · obtain ⟨k, k0, k1, k2⟩ := h3 i i0 i1 i2
    by_cases x : k = a
    · exact ⟨b, b0, b1, by rw [hs.2.1, ← x]; exact k2⟩
    · by_cases y : k = b
      · exact ⟨a, a0, a1, by rw [hs.1, ← y]; exact k2⟩
      · exact ⟨k, k0, k1, by rw [hs.2.2 k k0 x y]; exact k2⟩
/-- the row goes back into its layer -/
def BMW (it lm : Int) (il ls lt ro : Int → Int) (n l k : Int) : Prop := BMR it il ro n l ∧ (0 ≤ l ∧ l < lm ∧ 0 ≤ k ∧ n = ls l) ∧ ∃ t0, LSB it lm il ls t0 ∧ (∀ j, 0 ≤ j → j < k → lt (76 * l + j) = ro j) ∧ ∀ q, 0 ≤ q → ¬ (76 * l ≤ q ∧ q < 76 * l + k) → lt q = t0 q
theorem bmw_start {it lm n l k : Int} {il ls lt ro : Int → Int} (hB : LSB it lm il ls lt) (h : BMR it il ro n l) (l0 : 0 ≤ l) (l1 : l < lm) (hn : n = ls l) (hk : k = 0) : BMW it lm il ls lt ro n l k := ⟨h, by omega, lt, hB, fun j a b => by omega, fun _ _ _ => rfl⟩
theorem bmw_step {it lm n l k k_zq q v : Int} {il ls lt lt_zq ro : Int → Int} (h : BMW it lm il ls lt ro n l k) (hk : k_zq = k + 1) (hs : st1 lt lt_zq q v) (hq : q = 76 * l + k) (hv : v = ro k) : BMW it lm il ls lt_zq ro n l k_zq := by
  obtain ⟨h1, h2, t0, h3, h4, h5⟩ := h
  refine ⟨h1, by omega, t0, h3, fun j a b => ?_, fun x a b => by rw [(hs x a).2 (by omega)]; exact h5 x a (by omega)⟩
  by_cases e : j = k
  · rw [(hs _ (by omega)).1 (by omega), hv, e]
  · rw [(hs _ (by omega)).2 (by omega)]; exact h4 j a (by omega)
theorem bmw_end {it lm n l k : Int} {il ls lt ro : Int → Int} (h : BMW it lm il ls lt ro n l k) (hk : k = n) : LSB it lm il ls lt := by
  obtain ⟨⟨r1, r2, r3⟩, h2, t0, h3, h4, h5⟩ := h
  refine ⟨h3.1, fun m m0 m1 => ?_⟩
  have sz := (h3.2 l h2.1 h2.2.1).1
  by_cases e : m = l
  · subst e
    rw [show k = ls m by omega] at h4
    rw [show n = ls m by omega] at r1 r2 r3
    refine ⟨sz, fun j a b => by rw [h4 j a b]; exact r1 j a b, fun i j a b c => by rw [h4 i a (by omega), h4 j (by omega) c]; exact r2 i j a b c, fun i a b c => ?_⟩
    obtain ⟨j, j0, j1, j2⟩ := r3 i a b c
    exact ⟨j, j0, j1, by rw [h4 j j0 j1]; exact j2⟩
  · refine lay_keep (l := l) (h3.2 m m0 m1) h3.1 m0 rfl (fun j a b => h5 _ (by omega) (by have := h3.1; omega))
/-! kept arrangements -/
def KPT (lm : Int) (lt ke : Int → Int) (i : Int) : Prop := ∀ q, 0 ≤ q → q < i → ke q = lt q
def LSK (it lm : Int) (il ls ke : Int → Int) : Prop := LSB it lm il ls ke
theorem kpt_step {lm i i_zq q v : Int} {lt ke ke_zq : Int → Int} (h : KPT lm lt ke i) (hi : i_zq = i + 1) (hs : st1 ke ke_zq q v) (hq : q = i) (hv : v = lt i) : KPT lm lt ke_zq i_zq := by
  intro x a b
  by_cases e : x = i
  · rw [(hs x a).1 (by omega), hv, e]
  · rw [(hs x a).2 (by omega)]; exact h x a (by omega)
theorem lsb_copy {it lm i : Int} {il ls lt ke : Int → Int} (h : LSB it lm il ls lt) (hk : ∀ q, 0 ≤ q → q < i → ke q = lt q) (hi : 76 * lm ≤ i) : LSB it lm il ls ke := ⟨h.1, fun m a b => lay_keep (l := m) (h.2 m a b) h.1 a rfl (fun k c d => hk _ (by omega) (by omega))⟩
/-! across -/
def PCQ (p cm : Int) (cA cB cW PL : Int → Int) : Prop := ∀ j, 0 ≤ j → j < cm → (0 ≤ cA j ∧ cA j < p) ∧ (0 ≤ cB j ∧ cB j < p) ∧ (0 ≤ cW j ∧ cW j ≤ 72) ∧ PL j = 0
theorem pcq_cost {p cm cm_zq a b w pl q1 q2 q3 q4 : Int} {cA cA_zq cB cB_zq cW cW_zq PL PL_zq : Int → Int} (h : PCQ p cm cA cB cW PL) (hc : cm_zq = cm + 1) (ha : 0 ≤ a ∧ a < p) (hb : 0 ≤ b ∧ b < p) (hw : 0 ≤ w ∧ w ≤ 72) (hp : pl = 0) (s1 : st1 cA cA_zq q1 a) (s2 : st1 cB cB_zq q2 b) (s3 : st1 cW cW_zq q3 w) (s4 : st1 PL PL_zq q4 pl) (e1 : q1 = cm) (e2 : q2 = cm) (e3 : q3 = cm) (e4 : q4 = cm) : PCQ p cm_zq cA_zq cB_zq cW_zq PL_zq := by
  intro j x y
  by_cases z : j = cm
  · subst z
    rw [(s1 j x).1 e1.symm, (s2 j x).1 e2.symm, (s3 j x).1 e3.symm, (s4 j x).1 e4.symm]
    exact ⟨ha, hb, hw, hp⟩
  · rw [(s1 j x).2 (by omega), (s2 j x).2 (by omega), (s3 j x).2 (by omega), (s4 j x).2 (by omega)]
    exact h j x (by omega)
/-- distances between neighbours in a layer, in order -/
def PAQ (am lm : Int) (ls lt aA aB aD : Int → Int) (c0 : Int) : Prop := ∃ c : Int → Int, (∀ j, 0 ≤ j → j < am → c j < c0 ∧ ∃ l k, (0 ≤ l ∧ l < lm ∧ 1 ≤ k ∧ k < ls l ∧ c j = 76 * l + k) ∧ aA j = lt (76 * l + k - 1) ∧ aB j = lt (76 * l + k) ∧ 2 ≤ aD j ∧ aD j ≤ 202) ∧ ∀ i j, 0 ≤ i → i < j → j < am → c i < c j
theorem paq_zero {am lm c0 : Int} {ls lt aA aB aD : Int → Int} (h : am ≤ 0) : PAQ am lm ls lt aA aB aD c0 := ⟨fun _ => 0, fun j a b => by omega, fun i j a b c => by omega⟩
theorem paq_less {am lm c0 c1 : Int} {ls lt aA aB aD : Int → Int} (h : PAQ am lm ls lt aA aB aD c0) (hc : c0 ≤ c1) : PAQ am lm ls lt aA aB aD c1 := by
  obtain ⟨c, h1, h2⟩ := h
  exact ⟨c, fun j a b => ⟨by have := (h1 j a b).1; omega, (h1 j a b).2⟩, h2⟩
theorem paq_apart {am am_zq lm a b d q1 q2 q3 l k c0 c1 : Int} {ls lt aA aA_zq aB aB_zq aD aD_zq : Int → Int} (h : PAQ am lm ls lt aA aB aD c0) (hc : am_zq = am + 1) (l0 : 0 ≤ l) (l1 : l < lm) (k1 : 1 ≤ k) (k2 : k < ls l) (h0 : c0 = 76 * l + k) (h1 : c1 = c0 + 1) (ha : a = lt (76 * l + k - 1)) (hb : b = lt (76 * l + k)) (hd : 2 ≤ d ∧ d ≤ 202) (s1 : st1 aA aA_zq q1 a) (s2 : st1 aB aB_zq q2 b) (s3 : st1 aD aD_zq q3 d) (e1 : q1 = am) (e2 : q2 = am) (e3 : q3 = am) : PAQ am_zq lm ls lt aA_zq aB_zq aD_zq c1 := by
  obtain ⟨c, g1, g2⟩ := h
  refine ⟨fun j => if j = am then c0 else c j, fun j x y => ?_, fun i j x y z => ?_⟩
  · (try simp only [])
    by_cases e : j = am
    · subst e
      rw [if_pos rfl, (s1 j x).1 e1.symm, (s2 j x).1 e2.symm, (s3 j x).1 e3.symm]
      exact ⟨by omega, l, k, by omega, ha, hb, hd⟩
    · rw [if_neg e, (s1 j x).2 (by omega), (s2 j x).2 (by omega), (s3 j x).2 (by omega)]
      have := g1 j x (by omega)
      exact ⟨by omega, this.2⟩
  · (try simp only [])
    rw [if_neg (show ¬ i = am by omega)]
    by_cases e : j = am
    · rw [if_pos e]; exact (g1 i x (by omega)).1
    · rw [if_neg e]; exact g2 i j x y (by omega)
theorem pos_un {it lm l k l_zq k_zq : Int} {il ls lt : Int → Int} (h : LSB it lm il ls lt) (l0 : 0 ≤ l) (l1 : l < lm) (k0 : 0 ≤ k) (k1 : k < ls l) (l0_zq : 0 ≤ l_zq) (l1_zq : l_zq < lm) (k0_zq : 0 ≤ k_zq) (k1_zq : k_zq < ls l_zq) (e : lt (76 * l + k) = lt (76 * l_zq + k_zq)) : l = l_zq ∧ k = k_zq := by
  have a1 := (h.2 l l0 l1).2.1 k k0 k1
  have a2 := (h.2 l_zq l0_zq l1_zq).2.1 k_zq k0_zq k1_zq
  rw [e] at a1
  have el : l = l_zq := a1.2.symm.trans a2.2
  subst el
  refine ⟨rfl, ?_⟩
  by_cases z : k = k_zq
  · exact z
  · by_cases y : k < k_zq
    · exact absurd e ((h.2 l l0 l1).2.2.1 k k_zq k0 y k1_zq)
    · exact absurd e.symm ((h.2 l l0 l1).2.2.1 k_zq k k0_zq (by omega) k1)
theorem paq_am {it lm am c0 : Int} {il ls lt aA aB aD : Int → Int} (hB : LSB it lm il ls lt) (h : PAQ am lm ls lt aA aB aD c0) (it0 : 0 ≤ it) : am ≤ it := by
  obtain ⟨c, h1, h2⟩ := h
  refine pigeon (q := aB) it0 (fun j a b => ?_) (fun i j a b d e => ?_)
  · obtain ⟨_, l, k, w, _, hb, _⟩ := h1 j a b
    rw [hb]; exact ((hB.2 l w.1 w.2.1).2.1 k (by omega) w.2.2.2.1).1
  · obtain ⟨_, l, k, w, _, hb, _⟩ := h1 i a (by omega)
    obtain ⟨_, l_zq, k_zq, w_zq, _, hb_zq, _⟩ := h1 j (by omega) d
    rw [hb, hb_zq] at e
    have := pos_un hB w.1 w.2.1 (by omega) w.2.2.2.1 w_zq.1 w_zq.2.1 (by omega) w_zq.2.2.2.1 e
    have := h2 i j a b d
    omega
theorem pbr_across {r p it lm li cm am c0 : Int} {A tu il fj la lb ls lt cA cB cW PL aA aB aD : Int → Int} (hA : LSA r it lm li A tu il fj la lb) (hB : LSB it lm il ls lt) (hp : p = it) (hC : PCQ p cm cA cB cW PL) (hc : 0 ≤ cm ∧ cm ≤ 200) (am0 : 0 ≤ am) (hP : PAQ am lm ls lt aA aB aD c0) : PBR p cm am cA cB cW PL aA aB aD := by
  have b := hA.2.1
  have n0 := hA.1.1.1.1
  have ha := paq_am hB hP (by omega)
  subst hp
  have ex : ∀ i, ∃ k, 0 ≤ i → i < p → (0 ≤ k ∧ k < ls (il i) ∧ lt (76 * il i + k) = i) := fun i => by
    by_cases z : 0 ≤ i ∧ i < p
    · have w := hA.2.2.1 i z.1 z.2
      obtain ⟨k, k0, k1, k2⟩ := (hB.2 (il i) w.1 w.2).2.2.2 i z.1 z.2 rfl
      exact ⟨k, fun _ _ => ⟨k0, k1, k2⟩⟩
    · exact ⟨0, fun x y => absurd ⟨x, y⟩ z⟩
  obtain ⟨rk, cs⟩ : ∃ rk : Int → Int, ∀ i, 0 ≤ i → i < p → (0 ≤ rk i ∧ rk i < ls (il i) ∧ lt (76 * il i + rk i) = i) := ⟨fun i => Classical.choose (ex i), fun i => Classical.choose_spec (ex i)⟩
  have rkv : ∀ l k, 0 ≤ l → l < lm → 0 ≤ k → k < ls l → (0 ≤ lt (76 * l + k) ∧ lt (76 * l + k) < p) ∧ rk (lt (76 * l + k)) = k := fun l k l0 l1 k0 k1 => by
    have w := (hB.2 l l0 l1).2.1 k k0 k1
    have q := cs _ w.1.1 w.1.2
    rw [w.2] at q
    have := pos_un hB l0 l1 q.1 q.2.1 l0 l1 k0 k1 q.2.2
    exact ⟨w.1, this.2⟩
  refine ⟨⟨by omega, fun k a b => ⟨(hC k a b).1, (hC k a b).2.1, (hC k a b).2.2.1⟩, fun j a b => ?_⟩, ⟨rk, fun i a b => ?_, fun j a b => ?_⟩, fun k a b z => absurd (hC k a b).2.2.2 z⟩
  · obtain ⟨c, h1, _⟩ := hP
    obtain ⟨_, l, k, w, h2, h3, h4⟩ := h1 j a b
    have w1 := (hB.2 l w.1 w.2.1).2.1 (k - 1) (by omega) (by omega)
    have w2 := (hB.2 l w.1 w.2.1).2.1 k (by omega) (by omega)
    rw [show 76 * l + (k - 1) = 76 * l + k - 1 by omega, ← h2] at w1
    rw [← h3] at w2
    exact ⟨w1.1, w2.1, by omega, by omega⟩
  · have q := cs i a b
    have w := hA.2.2.1 i a b
    have s := (hB.2 (il i) w.1 w.2).1
    have := hB.1
    (try simp only [])
    omega
  · obtain ⟨c, h1, _⟩ := hP
    obtain ⟨_, l, k, w, h2, h3, h4⟩ := h1 j a b
    have w1 := rkv l (k - 1) w.1 w.2.1 (by omega) (by omega)
    have w2 := rkv l k w.1 w.2.1 (by omega) (by omega)
    rw [show 76 * l + (k - 1) = 76 * l + k - 1 by omega, ← h2] at w1
    rw [← h3] at w2
    (try simp only [])
    omega
def PAL1 (am lm : Int) (ls lt aA aB aD : Int → Int) (l : Int) : Prop := PAQ am lm ls lt aA aB aD (76 * l)
def PAL2 (am lm : Int) (ls lt aA aB aD : Int → Int) (l k : Int) : Prop := PAQ am lm ls lt aA aB aD (76 * l + k)
def PAP (am lm : Int) (ls lt aA aB aD : Int → Int) (l k : Int) : Prop := PAQ am lm ls lt aA aB aD (76 * l + k + 1)
def PAN (lm : Int) (ls lt : Int → Int) (l k a b : Int) : Prop := (0 ≤ l ∧ l < lm ∧ 1 ≤ k ∧ k < ls l) ∧ a = lt (76 * l + k - 1) ∧ b = lt (76 * l + k)
def KPU (lt ke : Int → Int) (i : Int) : Prop := ∀ q, 0 ≤ q → q < i → lt q = ke q
theorem kpu_step {i i_zq q v : Int} {lt lt_zq ke : Int → Int} (h : KPU lt ke i) (hi : i_zq = i + 1) (hs : st1 lt lt_zq q v) (hq : q = i) (hv : v = ke i) : KPU lt_zq ke i_zq := by
  intro x a b
  by_cases e : x = i
  · rw [(hs x a).1 (by omega), hv, e]
  · rw [(hs x a).2 (by omega)]; exact h x a (by omega)
theorem lsa_la {r it lm li p x : Int} {A tu il fj la lb : Int → Int} (h : LSA r it lm li A tu il fj la lb) (p0 : 0 ≤ p) (p1 : p < li) (hx : x = la p) : (0 ≤ x) ∧ ((x + 1) ≤ it) := by
  have := (lsa_ln h p0 p1).1; omega
theorem lsa_lb {r it lm li p x : Int} {A tu il fj la lb : Int → Int} (h : LSA r it lm li A tu il fj la lb) (p0 : 0 ≤ p) (p1 : p < li) (hx : x = lb p) : (0 ≤ x) ∧ ((x + 1) ≤ it) := by
  have := (lsa_ln h p0 p1).2.1; omega
theorem plf_of {r it lm li x l k q : Int} {A tu il fj la lb ls lt : Int → Int} (hA : LSA r it lm li A tu il fj la lb) (hB : LSB it lm il ls lt) (h : PLG il lt x l k) (x0 : 0 ≤ x) (x1 : x < it) (k0 : 0 ≤ k) (hq : q = 76 * l + k) (he : lt q = x) : PLF il ls lt x k := by
  have b := plg_bd hA hB h x0 x1 k0
  have e := h.1
  subst e
  exact ⟨⟨k0, b.2.1⟩, by rw [← hq]; exact he⟩
end
section
/-! setOrder -/
theorem inj_sur {f : Int → Int} {n v : Int} (h1 : ∀ j, 0 ≤ j → j < n → 0 ≤ f j ∧ f j < n) (h2 : ∀ i j, 0 ≤ i → i < j → j < n → f i ≠ f j) (v0 : 0 ≤ v) (v1 : v < n) : ∃ j, 0 ≤ j ∧ j < n ∧ f j = v := by
  refine Classical.byContradiction (fun no => ?_)
  have := pigeon (q := fun j => if j = n then v else f j) (n := n) (m := n + 1) (by omega) (fun k a b => by
    (try simp only [])
    split
    · omega
    · exact h1 k a (by omega)) (fun i j a b c => by
    (try simp only [])
    rw [if_neg (show ¬ i = n by omega)]
    by_cases e : j = n
    · rw [if_pos e]; exact fun w => no ⟨i, a, by omega, w⟩
    · rw [if_neg e]; exact h2 i j a b (by omega))
  omega
def SOW (pb pp lt ro : Int → Int) (n l p k : Int) : Prop := ∀ j, 0 ≤ j → j < k → ro j = lt (76 * l + pp (pb n + n * p + j))
theorem sow_step {pb pp lt ro ro_zq : Int → Int} {n l p k k_zq q v a b c d x y z : Int} (h : SOW pb pp lt ro n l p k) (hk : k_zq = k + 1) (hb : b = pb n) (hc : c = n * p) (hd : d = b + c) (hx : x = d + k) (hy : y = pp x) (hz : z = a + y) (ha : a = 76 * l) (hv : v = lt z) (hs : st1 ro ro_zq q v) (hq : q = k) : SOW pb pp lt ro_zq n l p k_zq := by
  intro j j0 j1
  by_cases e : j = k
  · rw [(hs j j0).1 (by omega), hv, hz, hy, hx, hd, hb, hc, ha, e]
  · rw [(hs j j0).2 (by omega)]; exact h j j0 (by omega)
theorem sow_bmr {pb pm pp lt ro il ls : Int → Int} {it lm n l p k : Int} (hT : PTB pb pm pp) (hB : LSB it lm il ls lt) (h : SOW pb pp lt ro n l p k) (hk : n ≤ k) (l0 : 0 ≤ l) (l1 : l < lm) (hn : n = ls l) (n6 : n ≤ 6) (p0 : 0 ≤ p) (p1 : p < pm n) : BMR it il ro n l := by
  obtain ⟨q1, q2, q3, q4⟩ := hB.2 l l0 l1
  rw [← hn] at q1 q2 q3 q4
  obtain ⟨⟨t1, t2, t3, t4, t5⟩, t6⟩ := hT n q1.1 n6
  have e1 : n * (p + 1) ≤ n * pm n := Int.mul_le_mul_of_nonneg_left (by omega) q1.1
  rw [Int.mul_add, Int.mul_one] at e1
  have e2 := Int.mul_nonneg q1.1 p0
  have pv : ∀ j, 0 ≤ j → j < n → 0 ≤ pp (pb n + n * p + j) ∧ pp (pb n + n * p + j) < n := fun j a b => by
    have := t5 (n * p + j) (by omega) (by omega)
    rwa [show pb n + (n * p + j) = pb n + n * p + j by omega] at this
  have pd : ∀ i j, 0 ≤ i → i < j → j < n → pp (pb n + n * p + i) ≠ pp (pb n + n * p + j) := fun i j a b c => t6 p i j p0 p1 a b c
  have rv : ∀ j, 0 ≤ j → j < n → ro j = lt (76 * l + pp (pb n + n * p + j)) := fun j a b => h j a (by omega)
  have dl : ∀ i j, 0 ≤ i → i < n → 0 ≤ j → j < n → i ≠ j → lt (76 * l + i) ≠ lt (76 * l + j) := fun i j a b c d e => by
    by_cases z : i < j
    · exact q3 i j a z d
    · exact fun w => q3 j i c (by omega) b w.symm
  refine ⟨fun j a b => ?_, fun i j a b c => ?_, fun i a b c => ?_⟩
  · rw [rv j a b]; have w := pv j a b; exact q2 _ w.1 w.2
  · rw [rv i a (by omega), rv j (by omega) c]
    have w := pv i a (by omega)
    have w_zq := pv j (by omega) c
    exact dl _ _ w.1 w.2 w_zq.1 w_zq.2 (pd i j a b c)
  · obtain ⟨m, m0, m1, m2⟩ := q4 i a b c
    obtain ⟨j, j0, j1, j2⟩ := inj_sur (f := fun j => pp (pb n + n * p + j)) pv pd m0 m1
    exact ⟨j, j0, j1, by rw [rv j j0 j1]; (try simp only [] at j2); rw [j2]; exact m2⟩
def ISS (lm : Int) (ls : Int → Int) (a : Int) : Prop := a ≠ 0 → ∀ l, 0 ≤ l → l < lm → ls l ≤ 6
def ISI (ls : Int → Int) (l : Int) : Prop := ∀ m, 0 ≤ m → m < l → ls m ≤ 6
theorem lsb_sz {it lm l n : Int} {il ls lt : Int → Int} (h : LSB it lm il ls lt) (l0 : 0 ≤ l) (l1 : l < lm) (hn : n = ls l) : 0 ≤ n ∧ n ≤ 72 := by
  have := (h.2 l l0 l1).1; have := h.1; omega
theorem bm1_next {lt ro ro_zq : Int → Int} {l k k_zq v : Int} (h : BM1 lt ro l k) (hk : k_zq = k + 1) (hs : st1 ro ro_zq k v) (hv : v = lt ((76 * l) + k)) : BM1 lt ro_zq l k_zq := bm1_step h hk hs rfl rfl hv
theorem btp_adj {r a b z : Int} {A : Int → Int} (h : BTP r A a b z) (ha : adj r A a b) : 0 ≤ z := by
  refine Classical.byContradiction (fun n => ?_)
  obtain ⟨e, e0, e1, h1, h2, h3⟩ := ha
  exact h (by omega) e e0 e1 ⟨h1, h2, h3⟩
theorem lsa_btp {r it lm li p a b z : Int} {A tu il fj la lb : Int → Int} (h : LSA r it lm li A tu il fj la lb) (p0 : 0 ≤ p) (p1 : p < li) (ha : a = la p) (hb : b = lb p) (a1 : a < A r) (b1 : b < A r) (hz : BTP r A a b z) : 0 ≤ z := by
  have q := (h.2.2.2.1 p p0 p1).2.2.2
  rw [← ha, ← hb] at q
  exact btp_adj hz (q a1 b1)
theorem paq_step {am am_zq lm l k a b d q1 q2 q3 : Int} {ls lt aA aA_zq aB aB_zq aD aD_zq : Int → Int} (h : PAL2 am lm ls lt aA aB aD l k) (hN : PAN lm ls lt l k a b) (hc : am_zq = am + 1) (hd : 2 ≤ d ∧ d ≤ 202) (s1 : st1 aA aA_zq q1 a) (s2 : st1 aB aB_zq q2 b) (s3 : st1 aD aD_zq q3 d) (e1 : q1 = am) (e2 : q2 = am) (e3 : q3 = am) : PAP am_zq lm ls lt aA_zq aB_zq aD_zq l k := paq_apart h hc hN.1.1 hN.1.2.1 hN.1.2.2.1 hN.1.2.2.2 rfl rfl hN.2.1 hN.2.2 hd s1 s2 s3 e1 e2 e3
def ISY (lm : Int) (ls : Int → Int) : Prop := ∀ l, 0 ≤ l → l < lm → ls l ≤ 6
end
section
/-! exactOrders: what weigh and weighed make, exactly -/
theorem sm_swap {f : Int → Int → Int} {n : Int} : ∀ m, 0 ≤ m → sm (fun i => sm (fun j => f i j) n) m = sm (fun j => sm (fun i => f i j) m) n := by
  refine sm_ind ?_ ?_
  · rw [sm_zero (by omega), sm_nil (fun j _ _ => sm_zero (by omega))]
  · intro m m0 ih
    rw [sm_succ m0 rfl, ih]
    exact (sm_add2 (fun j _ _ => sm_succ m0 rfl)).symm
/-- v stands behind w in the order that begins at b -/
def gtb (pp : Int → Int) (b n v w : Int) : Prop := ∃ k j, 0 ≤ j ∧ j < k ∧ k < n ∧ pp (b + k) = v ∧ pp (b + j) = w
def wcd (pp il la lb ls : Int → Int) (l b n a c x : Int) : Prop := il (la a) = l ∧ il (la c) = l ∧ gtb pp b n (ls (la a)) (ls (la c)) ∧ x = 6 * ls (lb a) + ls (lb c)
noncomputable def wi (pp il la lb ls : Int → Int) (l b n a c x : Int) : Int := @ite Int (wcd pp il la lb ls l b n a c x) (Classical.propDecidable _) 1 0
theorem wi_yes {pp il la lb ls : Int → Int} {l b n a c x : Int} (h : wcd pp il la lb ls l b n a c x) : wi pp il la lb ls l b n a c x = 1 := by unfold wi; rw [if_pos h]
theorem wi_no {pp il la lb ls : Int → Int} {l b n a c x : Int} (h : ¬ wcd pp il la lb ls l b n a c x) : wi pp il la lb ls l b n a c x = 0 := by unfold wi; rw [if_neg h]
theorem wi_01 {pp il la lb ls : Int → Int} {l b n a c x : Int} : 0 ≤ wi pp il la lb ls l b n a c x ∧ wi pp il la lb ls l b n a c x ≤ 1 := by
  by_cases h : wcd pp il la lb ls l b n a c x
  · rw [wi_yes h]; omega
  · rw [wi_no h]; omega
noncomputable def wra (li : Int) (pp il la lb ls : Int → Int) (l b n x a : Int) : Int := sm (fun c => wi pp il la lb ls l b n a c x) li
noncomputable def wf (li : Int) (pp il la lb ls : Int → Int) (l b n x : Int) : Int := sm (wra li pp il la lb ls l b n x) li
theorem wra_bd {li : Int} {pp il la lb ls : Int → Int} {l b n x a : Int} (l0 : 0 ≤ li) : 0 ≤ wra li pp il la lb ls l b n x a ∧ wra li pp il la lb ls l b n x a ≤ li := by
  have := smrg (f := fun c => wi pp il la lb ls l b n a c x) (lo := 0) (hi := 1) l0 (fun c _ _ => wi_01)
  unfold wra; omega
theorem wf_bd {li : Int} {pp il la lb ls : Int → Int} {l b n x : Int} (l0 : 0 ≤ li) (l1 : li ≤ 130) : 0 ≤ wf li pp il la lb ls l b n x ∧ wf li pp il la lb ls l b n x ≤ 16900 := by
  have := smrg (f := wra li pp il la lb ls l b n x) (lo := 0) (hi := 130) l0 (fun a _ _ => by have := wra_bd (pp := pp) (il := il) (la := la) (lb := lb) (ls := ls) (l := l) (b := b) (n := n) (x := x) (a := a) l0; omega)
  unfold wf; omega
def WZ0 (wo : Int → Int) (i : Int) : Prop := ∀ x, 0 ≤ x → x < i → wo x = 0
theorem wz0_step {F F_zq : Int → Int} {i i_zq p v : Int} (h : WZ0 F i) (hi : i_zq = i + 1) (hs : st1 F F_zq p v) (hp : p = i) (hv : v = 0) : WZ0 F_zq i_zq := by
  intro x a b
  by_cases e : x = p
  · rw [(hs x a).1 e, hv]
  · rw [(hs x a).2 e]; exact h x a (by omega)
/-- the order turned round -/
def IOK (pb pp io : Int → Int) (n p k : Int) : Prop := ∀ j, 0 ≤ j → j < k → io (pp (pb n + n * p + j)) = j
theorem iok_step {pb pm pp io io_zq : Int → Int} {n p k k_zq b c d x y v : Int} (hT : PTB pb pm pp) (h : IOK pb pp io n p k) (n0 : 0 ≤ n) (n6 : n ≤ 6) (p0 : 0 ≤ p) (p1 : p < pm n) (k0 : 0 ≤ k) (k1 : k < n) (hk : k_zq = k + 1) (hb : b = pb n) (hc : c = n * p) (hd : d = b + c) (hx : x = d + k) (hy : y = pp x) (hs : st1 io io_zq y v) (hv : v = k) : IOK pb pp io_zq n p k_zq := by
  have ex : x = pb n + n * p + k := by rw [hx, hd, hb, hc]
  obtain ⟨⟨t1, t2, t3, t4, t5⟩, t6⟩ := hT n n0 n6
  have e1 : n * (p + 1) ≤ n * pm n := Int.mul_le_mul_of_nonneg_left (by omega) n0
  rw [Int.mul_add, Int.mul_one] at e1
  have e2 := Int.mul_nonneg n0 p0
  have pv : ∀ j, 0 ≤ j → j < n → 0 ≤ pp (pb n + n * p + j) := fun j a b => by
    have := (t5 (n * p + j) (by omega) (by omega)).1
    rwa [show pb n + (n * p + j) = pb n + n * p + j by omega] at this
  intro j a b
  by_cases e : j = k
  · rw [(hs _ (pv j a (by omega))).1 (by rw [hy, ex, e]), hv, e]
  · rw [(hs _ (pv j a (by omega))).2 (by rw [hy, ex]; exact t6 p j k p0 p1 a (by omega) k1)]
    exact h j a (by omega)
def IOF (pb pp io ls : Int → Int) (l p : Int) : Prop := IOK pb pp io (ls l) p (ls l)
theorem iof_gt {pb pm pp io : Int → Int} {n p v w : Int} (hT : PTB pb pm pp) (h : IOK pb pp io n p n) (n0 : 0 ≤ n) (n6 : n ≤ 6) (p0 : 0 ≤ p) (p1 : p < pm n) (v0 : 0 ≤ v) (v1 : v < n) (w0 : 0 ≤ w) (w1 : w < n) : io v > io w ↔ gtb pp (pb n + n * p) n v w := by
  obtain ⟨⟨t1, t2, t3, t4, t5⟩, t6⟩ := hT n n0 n6
  have e1 : n * (p + 1) ≤ n * pm n := Int.mul_le_mul_of_nonneg_left (by omega) n0
  rw [Int.mul_add, Int.mul_one] at e1
  have e2 := Int.mul_nonneg n0 p0
  have pv : ∀ j, 0 ≤ j → j < n → 0 ≤ pp (pb n + n * p + j) ∧ pp (pb n + n * p + j) < n := fun j a b => by
    have := t5 (n * p + j) (by omega) (by omega)
    rwa [show pb n + (n * p + j) = pb n + n * p + j by omega] at this
  obtain ⟨i, i0, i1, i2⟩ := inj_sur (f := fun j => pp (pb n + n * p + j)) pv (fun i j a b c => t6 p i j p0 p1 a b c) v0 v1
  obtain ⟨j, j0, j1, j2⟩ := inj_sur (f := fun j => pp (pb n + n * p + j)) pv (fun i j a b c => t6 p i j p0 p1 a b c) w0 w1
  (try simp only [] at i2 j2)
  have qi := h i i0 i1
  have qj := h j j0 j1
  rw [i2] at qi
  rw [j2] at qj
  rw [qi, qj]
  constructor
  · intro g; exact ⟨i, j, j0, by omega, i1, i2, j2⟩
  · intro g
    obtain ⟨k, m, m0, mk, k1, k2, m2⟩ := g
    have a := h k (by omega) k1
    have b := h m m0 (by omega)
    rw [k2, qi] at a
    rw [m2, qj] at b
    omega
/-- listed places -/
def LSG (it lm li : Int) (il ls la lb ld : Int → Int) : Prop := (∀ l, 0 ≤ l → l < lm → 0 ≤ ls l ∧ ls l ≤ 6) ∧ (0 ≤ li ∧ li ≤ 120) ∧ ∀ p, 0 ≤ p → p < li → (0 ≤ il (la p) ∧ il (la p) < lm) ∧ (0 ≤ ld (la p) ∧ ld (la p) < ls (il (la p))) ∧ 0 ≤ ld (lb p) ∧ ld (lb p) ≤ 5
def WG1 (li : Int) (ls pb pp il la lb ld wo : Int → Int) (l p a : Int) : Prop := ∀ x, 0 ≤ x → x < 36 → wo x = sm (wra li pp il la lb ld l (pb (ls l) + ls l * p) (ls l) x) a
def WG2 (li : Int) (ls pb pp il la lb ld wo : Int → Int) (l p a c : Int) : Prop := ∀ x, 0 ≤ x → x < 36 → wo x = sm (wra li pp il la lb ld l (pb (ls l) + ls l * p) (ls l) x) a + sm (fun c => wi pp il la lb ld l (pb (ls l) + ls l * p) (ls l) a c x) c
def WGH (li : Int) (ls pb pp il la lb ld wo : Int → Int) (l p : Int) : Prop := ∀ x, 0 ≤ x → x < 36 → wo x = wf li pp il la lb ld l (pb (ls l) + ls l * p) (ls l) x
theorem wg1_start {li : Int} {ls pb pp il la lb ld wo : Int → Int} {l p a i : Int} (h : WZ0 wo i) (hi : 36 ≤ i) (ha : a = 0) : WG1 li ls pb pp il la lb ld wo l p a := fun x x0 x1 => by rw [h x x0 (by omega), sm_zero (by omega)]
theorem wg1_skip {li : Int} {ls pb pp il la lb ld wo : Int → Int} {l p a a_zq u v : Int} (h : WG1 li ls pb pp il la lb ld wo l p a) (a0 : 0 ≤ a) (ha : a_zq = a + 1) (hu : u = la a) (hv : v = il u) (ne : v ≠ l) : WG1 li ls pb pp il la lb ld wo l p a_zq := fun x x0 x1 => by
  rw [h x x0 x1, sm_succ a0 ha]
  have : wra li pp il la lb ld l (pb (ls l) + ls l * p) (ls l) x a = 0 := sm_nil (fun c _ _ => wi_no (fun w => ne (by rw [hv, hu]; exact w.1)))
  omega
theorem wg2_start {li : Int} {ls pb pp il la lb ld wo : Int → Int} {l p a c : Int} (h : WG1 li ls pb pp il la lb ld wo l p a) (hc : c = 0) : WG2 li ls pb pp il la lb ld wo l p a c := fun x x0 x1 => by rw [h x x0 x1, sm_zero (n := c) (by omega)]; omega
theorem wg2_end {li : Int} {ls pb pp il la lb ld wo : Int → Int} {l p a a_zq c : Int} (h : WG2 li ls pb pp il la lb ld wo l p a c) (a0 : 0 ≤ a) (ha : a_zq = a + 1) (hc : c = li) : WG1 li ls pb pp il la lb ld wo l p a_zq := fun x x0 x1 => by
  rw [h x x0 x1, sm_succ a0 ha, hc]; rfl
theorem wg2_skip {li : Int} {ls pb pp il la lb ld wo : Int → Int} {l p a c c_zq : Int} (h : WG2 li ls pb pp il la lb ld wo l p a c) (c0 : 0 ≤ c) (hc : c_zq = c + 1) (hn : ∀ x, ¬ wcd pp il la lb ld l (pb (ls l) + ls l * p) (ls l) a c x) : WG2 li ls pb pp il la lb ld wo l p a c_zq := fun x x0 x1 => by
  rw [h x x0 x1, sm_succ c0 hc, wi_no (hn x)]; omega
theorem wg2_take {li : Int} {ls pb pp il la lb ld wo wo_zq : Int → Int} {l p a c c_zq q o v : Int} (h : WG2 li ls pb pp il la lb ld wo l p a c) (c0 : 0 ≤ c) (hc : c_zq = c + 1) (hn : wcd pp il la lb ld l (pb (ls l) + ls l * p) (ls l) a c q) (q0 : 0 ≤ q) (q1 : q < 36) (ho : o = wo q) (hv : v = o + 1) (hs : st1 wo wo_zq q v) : WG2 li ls pb pp il la lb ld wo_zq l p a c_zq := fun x x0 x1 => by
  rw [sm_succ c0 hc]
  by_cases e : x = q
  · subst e
    rw [(hs x x0).1 rfl, wi_yes hn, hv, ho, h x x0 x1]; omega
  · rw [(hs x x0).2 e, h x x0 x1, wi_no (fun w => e (by rw [w.2.2.2]; exact hn.2.2.2.symm))]; omega
theorem wg2_bd {li : Int} {ls pb pp il la lb ld wo : Int → Int} {l p a c q : Int} (h : WG2 li ls pb pp il la lb ld wo l p a c) (l0 : 0 ≤ li) (l1 : li ≤ 120) (a0 : 0 ≤ a) (a1 : a < li) (c0 : 0 ≤ c) (c1 : c < li) (q0 : 0 ≤ q) (q1 : q < 36) : 0 ≤ wo q ∧ wo q ≤ 14399 := by
  rw [h q q0 q1]
  have s1 := smrg (f := wra li pp il la lb ld l (pb (ls l) + ls l * p) (ls l) q) (lo := 0) (hi := 120) a0 (fun a _ _ => by have := wra_bd (pp := pp) (il := il) (la := la) (lb := lb) (ls := ld) (l := l) (b := pb (ls l) + ls l * p) (n := ls l) (x := q) (a := a) l0; omega)
  have s2 := smrg (f := fun c => wi pp il la lb ld l (pb (ls l) + ls l * p) (ls l) a c q) (lo := 0) (hi := 1) c0 (fun c _ _ => wi_01)
  omega
theorem wgh_of {li : Int} {ls pb pp il la lb ld wo : Int → Int} {l p a : Int} (h : WG1 li ls pb pp il la lb ld wo l p a) (ha : a = li) : WGH li ls pb pp il la lb ld wo l p := fun x x0 x1 => by rw [h x x0 x1, ha]; rfl
/-! weighed -/
noncomputable def wdr (pp wo : Int → Int) (b i j : Int) : Int := sm (fun j => if i < j then wo (6 * pp (b + i) + pp (b + j)) else 0) j
noncomputable def wdf (pp wo : Int → Int) (b m i : Int) : Int := sm (fun i => wdr pp wo b i m) i
noncomputable def wdt (pb pp wo : Int → Int) (m q : Int) : Int := wdf pp wo (pb m + m * q) m m
def WD1 (pp wo : Int → Int) (b m i s : Int) : Prop := s = wdf pp wo b m i
def WD2 (pp wo : Int → Int) (b m i j s : Int) : Prop := s = wdf pp wo b m i + wdr pp wo b i j
def WDT (pb pp wo : Int → Int) (m q s : Int) : Prop := s = wdt pb pp wo m q
theorem wd1_start {pp wo : Int → Int} {b m i s : Int} (hi : i = 0) (hs : s = 0) : WD1 pp wo b m i s := by unfold WD1 wdf; rw [sm_zero (by omega)]; exact hs
theorem wd2_start {pp wo : Int → Int} {b m i j s : Int} (h : WD1 pp wo b m i s) (i0 : 0 ≤ i) (hj : j = i + 1) : WD2 pp wo b m i j s := by
  have : wdr pp wo b i j = 0 := sm_nil (fun k _ c => by (try simp only []); rw [if_neg (by omega)])
  unfold WD2; rw [this]; unfold WD1 at h; omega
theorem wd2_step {pp wo : Int → Int} {b m i j j_zq s s_zq x y p q r t o : Int} (h : WD2 pp wo b m i j s) (j0 : i < j) (i0 : 0 ≤ i) (hj : j_zq = j + 1) (hp : p = b + i) (hx : x = pp p) (hr : r = 6 * x) (hq : q = b + j) (hy : y = pp q) (ht : t = r + y) (ho : o = wo t) (hs : s_zq = s + o) : WD2 pp wo b m i j_zq s_zq := by
  have e : o = wo (6 * pp (b + i) + pp (b + j)) := by rw [ho, ht, hr, hx, hy, hp, hq]
  unfold WD2 at h ⊢
  unfold wdr at h ⊢
  rw [sm_succ (by omega) hj, if_pos j0, ← e]; omega
theorem wd2_end {pp wo : Int → Int} {b m i i_zq j s : Int} (h : WD2 pp wo b m i j s) (i0 : 0 ≤ i) (hi : i_zq = i + 1) (hj : j = m ∨ (m ≤ j ∧ j = i + 1)) (im : i < m) : WD1 pp wo b m i_zq s := by
  have e : j = m := by omega
  subst e
  unfold WD1 wdf
  rw [sm_succ i0 hi]; exact h
theorem wdt_of {pb pp wo : Int → Int} {b m i s q c d : Int} (h : WD1 pp wo b m i s) (hi : i = m) (hc : c = pb m) (hd : d = m * q) (hb : b = c + d) : WDT pb pp wo m q s := by
  unfold WDT wdt
  rw [← hc, ← hd, ← hb]; unfold WD1 at h; rw [h, hi]
/-! how large a weight may be -/
theorem sm_single {f : Int → Int} {n i : Int} (i0 : 0 ≤ i) (i1 : i < n) (h : ∀ j, 0 ≤ j → j < n → j ≠ i → f j = 0) : sm f n = f i := by
  have h1 := sm_pt (f := fun _ => 0) (g := f) i0 i1 (fun j a b c => h j a b c)
  rw [sm_nil (f := fun _ => 0) (fun _ _ _ => rfl)] at h1
  (try simp only [] at h1)
  omega
theorem one2 {w : Int → Int → Int} {m : Int} (h : ∀ i j, 0 ≤ w i j ∧ w i j ≤ 1) (h2 : ∀ i j i_zq j_zq, 0 ≤ i → i < m → 0 ≤ j → j < m → 0 ≤ i_zq → i_zq < m → 0 ≤ j_zq → j_zq < m → w i j ≠ 0 → w i_zq j_zq ≠ 0 → i = i_zq ∧ j = j_zq) : sm (fun i => sm (fun j => w i j) m) m ≤ 1 := by
  by_cases z : ∃ i j, 0 ≤ i ∧ i < m ∧ 0 ≤ j ∧ j < m ∧ w i j ≠ 0
  · obtain ⟨i, j, i0, i1, j0, j1, ne⟩ := z
    rw [sm_single i0 i1 (fun i_zq a b c => sm_nil (fun j_zq d e => by
      refine Classical.byContradiction (fun q => ?_)
      exact c (h2 i_zq j_zq i j a b d e i0 i1 j0 j1 q ne).1))]
    rw [sm_single j0 j1 (fun j_zq a b c => by
      refine Classical.byContradiction (fun q => ?_)
      exact c (h2 i j_zq i j i0 i1 a b i0 i1 j0 j1 q ne).2)]
    exact (h i j).2
  · rw [sm_nil (fun i a b => sm_nil (fun j c d => by
      refine Classical.byContradiction (fun q => ?_)
      exact z ⟨i, j, a, b, c, d, q⟩))]; omega
theorem wdt_bd {li : Int} {pb pm pp il la lb ld : Int → Int} {l b n m q : Int} (hT : PTB pb pm pp) (l0 : 0 ≤ li) (l1 : li ≤ 120) (m0 : 0 ≤ m) (m6 : m ≤ 6) (q0 : 0 ≤ q) (q1 : q < pm m) : 0 ≤ wdt pb pp (fun x => wf li pp il la lb ld l b n x) m q ∧ wdt pb pp (fun x => wf li pp il la lb ld l b n x) m q ≤ 14400 := by
  obtain ⟨⟨t1, t2, t3, t4, t5⟩, t6⟩ := hT m m0 m6
  have e1 : m * (q + 1) ≤ m * pm m := Int.mul_le_mul_of_nonneg_left (by omega) m0
  rw [Int.mul_add, Int.mul_one] at e1
  have e2 := Int.mul_nonneg m0 q0
  have pv : ∀ j, 0 ≤ j → j < m → 0 ≤ pp (pb m + m * q + j) ∧ pp (pb m + m * q + j) < m := fun j a b => by
    have := t5 (m * q + j) (by omega) (by omega)
    rwa [show pb m + (m * q + j) = pb m + m * q + j by omega] at this
  have pd : ∀ i j, 0 ≤ i → i < m → 0 ≤ j → j < m → pp (pb m + m * q + i) = pp (pb m + m * q + j) → i = j := fun i j a b c d e => by
    by_cases z : i < j
    · exact absurd e (t6 q i j q0 q1 a z d)
    · by_cases y : j < i
      · exact absurd e.symm (t6 q j i q0 q1 c y b)
      · omega
  generalize hB : pb m + m * q = B at *
  -- all four sums outside
  have S : wdt pb pp (fun x => wf li pp il la lb ld l b n x) m q = sm (fun a => sm (fun c => sm (fun i => sm (fun j => if i < j then wi pp il la lb ld l b n a c (6 * pp (B + i) + pp (B + j)) else 0) m) m) li) li := by
    unfold wdt wdf wdr
    rw [hB]
    have r1 : ∀ i j : Int, (if i < j then wf li pp il la lb ld l b n (6 * pp (B + i) + pp (B + j)) else 0) = sm (fun a => sm (fun c => if i < j then wi pp il la lb ld l b n a c (6 * pp (B + i) + pp (B + j)) else 0) li) li := fun i j => by
      by_cases z : i < j
      · rw [if_pos z]; unfold wf wra
        exact sm_congr (fun a _ _ => sm_congr (fun c _ _ => by rw [if_pos z]))
      · rw [if_neg z]
        exact (sm_nil (fun a _ _ => sm_nil (fun c _ _ => by rw [if_neg z]))).symm
    have r2 : ∀ i : Int, sm (fun j => if i < j then wf li pp il la lb ld l b n (6 * pp (B + i) + pp (B + j)) else 0) m = sm (fun a => sm (fun c => sm (fun j => if i < j then wi pp il la lb ld l b n a c (6 * pp (B + i) + pp (B + j)) else 0) m) li) li := fun i => by
      rw [sm_congr (fun j _ _ => r1 i j), sm_swap m m0]
      exact sm_congr (fun a _ _ => sm_swap m m0)
    rw [sm_congr (fun i _ _ => r2 i), sm_swap m m0]
    exact sm_congr (fun a _ _ => sm_swap m m0)
  have G : ∀ a c : Int, 0 ≤ sm (fun i => sm (fun j => if i < j then wi pp il la lb ld l b n a c (6 * pp (B + i) + pp (B + j)) else 0) m) m ∧ sm (fun i => sm (fun j => if i < j then wi pp il la lb ld l b n a c (6 * pp (B + i) + pp (B + j)) else 0) m) m ≤ 1 := fun a c => by
    have w1 : ∀ i j : Int, 0 ≤ (if i < j then wi pp il la lb ld l b n a c (6 * pp (B + i) + pp (B + j)) else 0) ∧ (if i < j then wi pp il la lb ld l b n a c (6 * pp (B + i) + pp (B + j)) else 0) ≤ 1 := fun i j => by
      split
      · exact wi_01
      · omega
    refine ⟨sm_nn (fun i _ _ => sm_nn (fun j _ _ => (w1 i j).1)), one2 w1 (fun i j i_zq j_zq i0 i1 j0 j1 i0_zq i1_zq j0_zq j1_zq h h_zq => ?_)⟩
    have g : ∀ i j : Int, (if i < j then wi pp il la lb ld l b n a c (6 * pp (B + i) + pp (B + j)) else 0) ≠ 0 → 6 * pp (B + i) + pp (B + j) = 6 * ld (lb a) + ld (lb c) := fun i j h => by
      by_cases z : i < j
      · rw [if_pos z] at h
        refine Classical.byContradiction (fun q => h (wi_no (fun w => q w.2.2.2)))
      · rw [if_neg z] at h; exact absurd rfl h
    have g1 := g i j h
    have g2 := g i_zq j_zq h_zq
    have b1 := pv i i0 i1
    have b2 := pv j j0 j1
    have b3 := pv i_zq i0_zq i1_zq
    have b4 := pv j_zq j0_zq j1_zq
    exact ⟨pd i i_zq i0 i1 i0_zq i1_zq (by omega), pd j j_zq j0 j1 j0_zq j1_zq (by omega)⟩
  rw [S]
  have s1 : ∀ a, 0 ≤ a → a < li → 0 ≤ sm (fun c => sm (fun i => sm (fun j => if i < j then wi pp il la lb ld l b n a c (6 * pp (B + i) + pp (B + j)) else 0) m) m) li ∧ sm (fun c => sm (fun i => sm (fun j => if i < j then wi pp il la lb ld l b n a c (6 * pp (B + i) + pp (B + j)) else 0) m) m) li ≤ 120 := fun a _ _ => by
    have := smrg (f := fun c => sm (fun i => sm (fun j => if i < j then wi pp il la lb ld l b n a c (6 * pp (B + i) + pp (B + j)) else 0) m) m) (lo := 0) (hi := 1) l0 (fun c _ _ => G a c)
    omega
  have := smrg (lo := 0) (hi := 120) l0 s1
  omega
theorem wdt_congr {pb pm pp f g : Int → Int} {m q : Int} (hT : PTB pb pm pp) (m0 : 0 ≤ m) (m6 : m ≤ 6) (q0 : 0 ≤ q) (q1 : q < pm m) (h : ∀ x, 0 ≤ x → x < 36 → f x = g x) : wdt pb pp f m q = wdt pb pp g m q := by
  obtain ⟨⟨t1, t2, t3, t4, t5⟩, t6⟩ := hT m m0 m6
  have e1 : m * (q + 1) ≤ m * pm m := Int.mul_le_mul_of_nonneg_left (by omega) m0
  rw [Int.mul_add, Int.mul_one] at e1
  have e2 := Int.mul_nonneg m0 q0
  have pv : ∀ j, 0 ≤ j → j < m → 0 ≤ pp (pb m + m * q + j) ∧ pp (pb m + m * q + j) < m := fun j a b => by
    have := t5 (m * q + j) (by omega) (by omega)
    rwa [show pb m + (m * q + j) = pb m + m * q + j by omega] at this
  unfold wdt wdf wdr
  refine sm_congr (fun i a b => sm_congr (fun j c d => ?_))
  have b1 := pv i a b
  have b2 := pv j c d
  (try simp only [])
  by_cases z : i < j
  · rw [if_pos z, if_pos z]; exact h _ (by omega) (by omega)
  · rw [if_neg z, if_neg z]
end
section
/-! layers as a whole -/
def ILX (r : Int) (A il y : Int → Int) : Prop := ILE il y (A r)
def JMX (r it : Int) (A tu il fj : Int → Int) (e m : Int) : Prop := (m = jn r A tu il e ∧ 0 ≤ m ∧ m ≤ 22) ∧ A r ≤ fj e ∧ fj e + m ≤ it ∧ it ≤ 72
theorem jmx_of {r it lm li e m a b ya yb : Int} {A tu il fj la lb : Int → Int} (h : LSA r it lm li A tu il fj la lb) (e0 : 0 ≤ e) (e1 : e < A (r + 1)) (hb : TOO r A tu e b) (hyb : yb = il b) (ha : FRO r A tu e a) (hya : ya = il a) (hm : m = yb - ya - 1) : JMX r it A tu il fj e m := by
  have j := jn_bd h.1.1 e0 e1
  have f := h.2.2.2.2 e e0 e1
  have k := h.2.1
  have e : m = jn r A tu il e := by unfold jn; rw [← hb, ← ha, ← hyb, ← hya]; exact hm
  exact ⟨by omega, by omega, by omega, by omega⟩
theorem ft_in {r e x : Int} {A tu : Int → Int} (h : SG A r) (e0 : 0 ≤ e) (e1 : e < A (r + 1)) (hx : FRO r A tu e x ∨ TOO r A tu e x) : 0 ≤ x ∧ x < A r := by
  have f := ft_bd (tu := tu) h e0 e1
  rcases hx with z | z
  · unfold FRO at z; omega
  · unfold TOO at z; omega
theorem lyp_d {r e a b ya yb : Int} {A tu y : Int → Int} (h : LYP r A tu y) (e0 : 0 ≤ e) (e1 : e < A (r + 1)) (hb : TOO r A tu e b) (hyb : yb = y b) (ha : FRO r A tu e a) (hya : ya = y a) : (0 ≤ ya ∧ ya ≤ 23) ∧ (0 ≤ yb ∧ yb ≤ 23) ∧ ya + 1 ≤ yb := by
  have f := ft_bd (tu := tu) h.1 e0 e1
  have q := h.2.2 e e0 e1
  unfold FRO at ha
  unfold TOO at hb
  rw [← ha, ← hb, ← hya, ← hyb] at q
  have q1 := h.2.1 a (by omega) (by omega)
  have q2 := h.2.1 b (by omega) (by omega)
  omega
def LIE (r it : Int) (A tu il fj : Int → Int) (e x l : Int) : Prop := ∃ il0, LID r it A tu il0 fj e x l ∧ l < il0 (toT r A tu e) ∧ st1 il0 il it l
def LIG (r it : Int) (A tu il fj : Int → Int) (e x l : Int) : Prop := LID r it A tu il fj e x l ∧ il (toT r A tu e) ≤ l
theorem lie_next {r it it_zq e x x_zq l l_zq : Int} {A tu il fj : Int → Int} (h : LIE r it A tu il fj e x l) (hx : x_zq = it) (hi : it_zq = it + 1) (hl : l_zq = l + 1) : LID r it_zq A tu il fj e x_zq l_zq := by
  obtain ⟨il0, h1, h2, h3⟩ := h
  exact lid_step h1 h2 h3 rfl rfl hx hi hl
theorem lig_next {r it e e_zq x l : Int} {A tu il fj : Int → Int} (h : LIG r it A tu il fj e x l) (he : e_zq = e + 1) : LIC r it A tu il fj e_zq := lid_end h.1 h.2 he
end
