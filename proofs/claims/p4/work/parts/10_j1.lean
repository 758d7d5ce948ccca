/-! orders: one behind another -/
def rkF (o : Int → Int) (v t : Int) : Int := if o t < v then 0 else 1
noncomputable def rkO (o : Int → Int) (n v : Int) : Int := cz (rkF o v) n
noncomputable def vN (o : Int → Int) (n : Int) : Nat → Int
  | 0 => 0
  | k + 1 => 8 * vN o n k + rkO o n (o (k : Int))
noncomputable def VO (o : Int → Int) (n : Int) : Int := Classical.choose (⟨vN o n n.toNat, rfl⟩ : ∃ c : Int, c = vN o n n.toNat)
theorem VO_is (o : Int → Int) (n : Int) : VO o n = vN o n n.toNat := Classical.choose_spec (⟨vN o n n.toNat, rfl⟩ : ∃ c : Int, c = vN o n n.toNat)
theorem rk_bd {o : Int → Int} {n k : Int} (n8 : n ≤ 8) (k0 : 0 ≤ k) (k1 : k < n) : 0 ≤ rkO o n (o k) ∧ rkO o n (o k) ≤ 7 := by
  have b := czb (rkF o (o k)) (n := n) (by omega)
  have c := czlt (f := rkF o (o k)) (g := fun _ => (0 : Int)) (n := n) (i := k) k0 k1 (fun _ _ _ _ => rfl) rfl (by unfold rkF; rw [if_neg (by omega)]; omega)
  have d := czb (fun _ => (0 : Int)) (n := n) (by omega)
  unfold rkO
  omega
theorem vN_bd {o : Int → Int} {n : Int} (n8 : n ≤ 8) : ∀ k : Nat, (k : Int) ≤ n → 0 ≤ vN o n k ∧ vN o n k < 8 ^ k := by
  intro k
  induction k with
  | zero => intro _; exact ⟨Int.le_refl 0, by show (0 : Int) < 8 ^ 0; decide⟩
  | succ k ih =>
    intro hk
    have a := ih (by omega)
    have r := rk_bd (o := o) n8 (k := (k : Int)) (by omega) (by omega)
    show 0 ≤ 8 * vN o n k + rkO o n (o (k : Int)) ∧ 8 * vN o n k + rkO o n (o (k : Int)) < 8 ^ (k + 1)
    rw [Int.pow_succ]
    omega
theorem VO_bd {o : Int → Int} {n : Int} (n0 : 0 ≤ n) (n8 : n ≤ 8) : 0 ≤ VO o n ∧ VO o n < 16777216 := by
  have h := vN_bd (o := o) n8 n.toNat (by omega)
  rw [VO_is]
  refine ⟨h.1, Int.lt_of_lt_of_le h.2 ?_⟩
  have : n.toNat ≤ 8 := by omega
  have e : ∀ k : Nat, k ≤ 8 → (8 : Int) ^ k ≤ 16777216 := by
    intro k hk
    rcases (by omega : k = 0 ∨ k = 1 ∨ k = 2 ∨ k = 3 ∨ k = 4 ∨ k = 5 ∨ k = 6 ∨ k = 7 ∨ k = 8) with z | z | z | z | z | z | z | z | z <;> subst z <;> decide
  exact e _ this
/-- the same ranks, and greater at the first place that differs -/
theorem VO_lt {o o' : Int → Int} {n i : Int} (n8 : n ≤ 8) (hr : ∀ v, rkO o' n v = rkO o n v) (i0 : 0 ≤ i) (i1 : i < n) (hs : ∀ t, 0 ≤ t → t < i → o' t = o t) (hi : o i < o' i) : VO o n + 1 ≤ VO o' n := by
  have eq : ∀ k : Nat, (k : Int) ≤ i → vN o' n k = vN o n k := by
    intro k
    induction k with
    | zero => intro _; rfl
    | succ k ih =>
      intro hk
      show 8 * vN o' n k + rkO o' n (o' (k : Int)) = 8 * vN o n k + rkO o n (o (k : Int))
      rw [ih (by omega), hs (k : Int) (by omega) (by omega), hr]
  have at1 : rkO o n (o i) + 1 ≤ rkO o n (o' i) := by
    unfold rkO
    have := czlt (f := rkF o (o i)) (g := rkF o (o' i)) (n := n) (i := i) i0 i1 (fun j _ _ z => by
      unfold rkF at z ⊢
      by_cases q : o j < o i
      · rw [if_pos (by omega)]
      · rw [if_neg q] at z; omega) (by unfold rkF; rw [if_pos hi]) (by unfold rkF; rw [if_neg (by omega)]; omega)
    omega
  have gr : ∀ d : Nat, i + 1 + (d : Int) ≤ n → vN o n (i.toNat + 1 + d) + 1 ≤ vN o' n (i.toNat + 1 + d) := by
    intro d
    induction d with
    | zero =>
      intro _
      show 8 * vN o n i.toNat + rkO o n (o ((i.toNat : Nat) : Int)) + 1 ≤ 8 * vN o' n i.toNat + rkO o' n (o' ((i.toNat : Nat) : Int))
      rw [eq i.toNat (by omega), hr, show ((i.toNat : Nat) : Int) = i by omega]
      omega
    | succ d ih =>
      intro hd
      have a := ih (by omega)
      have r := rk_bd (o := o) n8 (k := ((i.toNat + 1 + d : Nat) : Int)) (by omega) (by omega)
      have r' := rk_bd (o := o') n8 (k := ((i.toNat + 1 + d : Nat) : Int)) (by omega) (by omega)
      show 8 * vN o n (i.toNat + 1 + d) + rkO o n (o ((i.toNat + 1 + d : Nat) : Int)) + 1 ≤ 8 * vN o' n (i.toNat + 1 + d) + rkO o' n (o' ((i.toNat + 1 + d : Nat) : Int))
      omega
  have := gr (n.toNat - (i.toNat + 1)) (by omega)
  rw [show i.toNat + 1 + (n.toNat - (i.toNat + 1)) = n.toNat by omega] at this
  rw [VO_is, VO_is]
  exact this
/-- two places exchanged -/
theorem cz_swap {f f' : Int → Int} {n a b : Int} (a0 : 0 ≤ a) (a1 : a < n) (b0 : 0 ≤ b) (b1 : b < n) (hab : a ≠ b) (ha : f' a = f b) (hb : f' b = f a) (ho : ∀ j, 0 ≤ j → j ≠ a → j ≠ b → f' j = f j) : cz f' n = cz f n := by
  have key : ∀ t : Nat, czN f' t + ((if a < (t : Int) then (if f a = 0 then 1 else 0) else 0) + (if b < (t : Int) then (if f b = 0 then 1 else 0) else 0)) = czN f t + ((if a < (t : Int) then (if f' a = 0 then 1 else 0) else 0) + (if b < (t : Int) then (if f' b = 0 then 1 else 0) else 0)) := by
    intro t
    induction t with
    | zero =>
      show (0 : Int) + _ = 0 + _
      rw [if_neg (by omega), if_neg (by omega), if_neg (by omega), if_neg (by omega)]
    | succ t ih =>
      show czN f' t + (if f' (t : Int) = 0 then 1 else 0) + _ = czN f t + (if f (t : Int) = 0 then 1 else 0) + _
      by_cases qa : (t : Int) = a
      · subst qa
        rw [if_neg (by omega : ¬ (t : Int) < (t : Int)), if_neg (by omega : ¬ (t : Int) < (t : Int))] at ih
        rw [if_pos (by omega : (t : Int) < ((t + 1 : Nat) : Int)), if_pos (by omega : (t : Int) < ((t + 1 : Nat) : Int))]
        by_cases q : b < (t : Int)
        · rw [if_pos q, if_pos q] at ih
          rw [if_pos (by omega : b < ((t + 1 : Nat) : Int)), if_pos (by omega : b < ((t + 1 : Nat) : Int))]
          omega
        · rw [if_neg q, if_neg q] at ih
          rw [if_neg (by omega : ¬ b < ((t + 1 : Nat) : Int)), if_neg (by omega : ¬ b < ((t + 1 : Nat) : Int))]
          omega
      · by_cases qb : (t : Int) = b
        · subst qb
          rw [if_neg (by omega : ¬ (t : Int) < (t : Int)), if_neg (by omega : ¬ (t : Int) < (t : Int))] at ih
          rw [if_pos (by omega : (t : Int) < ((t + 1 : Nat) : Int)), if_pos (by omega : (t : Int) < ((t + 1 : Nat) : Int))]
          by_cases q : a < (t : Int)
          · rw [if_pos q, if_pos q] at ih
            rw [if_pos (by omega : a < ((t + 1 : Nat) : Int)), if_pos (by omega : a < ((t + 1 : Nat) : Int))]
            omega
          · rw [if_neg q, if_neg q] at ih
            rw [if_neg (by omega : ¬ a < ((t + 1 : Nat) : Int)), if_neg (by omega : ¬ a < ((t + 1 : Nat) : Int))]
            omega
        · rw [ho (t : Int) (by omega) qa qb]
          have e1 : (a < ((t + 1 : Nat) : Int)) ↔ (a < (t : Int)) := by omega
          have e2 : (b < ((t + 1 : Nat) : Int)) ↔ (b < (t : Int)) := by omega
          simp only [e1, e2]
          omega
  have := key n.toNat
  have ea : a < ((n.toNat : Nat) : Int) := by omega
  have eb : b < ((n.toNat : Nat) : Int) := by omega
  rw [if_pos ea, if_pos eb, if_pos ea, if_pos eb, ha, hb] at this
  rw [cz_is, cz_is]
  omega
def swp (o o' : Int → Int) (a b : Int) : Prop := o' a = o b ∧ o' b = o a ∧ ∀ j, 0 ≤ j → j ≠ a → j ≠ b → o' j = o j
theorem rk_swp {o o' : Int → Int} {n a b : Int} (a0 : 0 ≤ a) (a1 : a < n) (b0 : 0 ≤ b) (b1 : b < n) (hab : a ≠ b) (h : swp o o' a b) (v : Int) : rkO o' n v = rkO o n v := by
  unfold rkO
  exact cz_swap a0 a1 b0 b1 hab (by unfold rkF; rw [h.1]) (by unfold rkF; rw [h.2.1]) (fun j j0 ja jb => by unfold rkF; rw [h.2.2 j j0 ja jb])
def DIS (o : Int → Int) (n : Int) : Prop := ∀ s t, 0 ≤ s → s < t → t < n → o s ≠ o t
theorem dis_swp {o o' : Int → Int} {n a b : Int} (h : DIS o n) (a0 : 0 ≤ a) (a1 : a < n) (b0 : 0 ≤ b) (b1 : b < n) (hab : a ≠ b) (hs : swp o o' a b) : DIS o' n := by
  have inj : ∀ s t, 0 ≤ s → s < n → 0 ≤ t → t < n → o s = o t → s = t := fun s t s0 s1 t0 t1 z => by
    rcases Int.lt_trichotomy s t with q | q | q
    · exact absurd z (h s t s0 q t1)
    · exact q
    · exact absurd z.symm (h t s t0 q s1)
  -- where a place's value comes from
  have fr : ∀ s, 0 ≤ s → s < n → ∃ p, 0 ≤ p ∧ p < n ∧ o' s = o p ∧ ((s = a ∧ p = b) ∨ (s = b ∧ p = a) ∨ (s ≠ a ∧ s ≠ b ∧ p = s)) := fun s s0 s1 => by
    by_cases qa : s = a
    · exact ⟨b, b0, b1, by rw [qa]; exact hs.1, Or.inl ⟨qa, rfl⟩⟩
    · by_cases qb : s = b
      · exact ⟨a, a0, a1, by rw [qb]; exact hs.2.1, Or.inr (Or.inl ⟨qb, rfl⟩)⟩
      · exact ⟨s, s0, s1, hs.2.2 s s0 qa qb, Or.inr (Or.inr ⟨qa, qb, rfl⟩)⟩
  intro s t s0 st t1 e
  obtain ⟨p, p0, p1, p2, p3⟩ := fr s s0 (by omega)
  obtain ⟨q, q0, q1, q2, q3⟩ := fr t (by omega) t1
  rw [p2, q2] at e
  have := inj p q p0 p1 q0 q1 e
  omega
theorem swp_st {o o1 o2 : Int → Int} {a b p v q w : Int} (a0 : 0 ≤ a) (b0 : 0 ≤ b) (hab : a ≠ b) (hs : st1 o o1 p v) (hp : p = a) (hv : v = o b) (ht : st1 o1 o2 q w) (hq : q = b) (hw : w = o a) : swp o o2 a b := by
  refine ⟨?_, ?_, fun j j0 ja jb => ?_⟩
  · rw [(ht a a0).2 (by omega), (hs a a0).1 hp.symm]; exact hv
  · rw [(ht b b0).1 hq.symm]; exact hw
  · rw [(ht j j0).2 (by omega), (hs j j0).2 (by omega)]
/-! nextOrder -/
def ORM (o : Int → Int) (n g : Int) : Prop := 16777216 ≤ VO o n + g
def ORN (o : Int → Int) (n g z : Int) : Prop := z ≠ 0 → 16777217 ≤ VO o n + g
/-- behind the place i everything falls -/
def NO1 (o : Int → Int) (n i : Int) : Prop := DIS o n ∧ i ≤ n - 2
def NO2 (o : Int → Int) (n i j : Int) : Prop := DIS o n ∧ (0 ≤ i ∧ i ≤ n - 2) ∧ o i < o (i + 1) ∧ i + 1 ≤ j ∧ j ≤ n - 1
def NO3 (o : Int → Int) (n i a b g : Int) : Prop := DIS o n ∧ (0 ≤ i ∧ i ≤ n - 2) ∧ i < a ∧ b ≤ n - 1 ∧ ∃ o0, (∀ v, rkO o n v = rkO o0 n v) ∧ (∀ t, 0 ≤ t → t < i → o t = o0 t) ∧ o0 i < o i ∧ ORM o0 n g
theorem no3_start {o o' : Int → Int} {n i j a b g : Int} (h : NO2 o n i j) (hj : o i ≤ o j) (hs : swp o o' i j) (ha : a = i + 1) (hb : b = n - 1) (hM : ORM o n g) : NO3 o' n i a b g := by
  obtain ⟨h1, h2, h3, h4, h5⟩ := h
  have hne := h1 i j h2.1 (by omega) (by omega)
  refine ⟨dis_swp h1 h2.1 (by omega) (by omega) (by omega) (by omega) hs, h2, by omega, by omega, o, rk_swp h2.1 (by omega) (by omega) (by omega) (by omega) hs, fun t t0 t1 => hs.2.2 t t0 (by omega) (by omega), by rw [hs.1]; omega, hM⟩
theorem no3_step {o o' : Int → Int} {n i a b a' b' g : Int} (h : NO3 o n i a b g) (hab : a < b) (hs : swp o o' a b) (ha : a' = a + 1) (hb : b' = b - 1) : NO3 o' n i a' b' g := by
  obtain ⟨h1, h2, h3, h4, o0, k1, k2, k3, k4⟩ := h
  refine ⟨dis_swp h1 (by omega) (by omega) (by omega) (by omega) (by omega) hs, h2, by omega, by omega, o0, fun v => (rk_swp (by omega) (by omega) (by omega) (by omega) (by omega) hs v).trans (k1 v), fun t t0 t1 => by rw [hs.2.2 t t0 (by omega) (by omega)]; exact k2 t t0 t1, by rw [hs.2.2 i h2.1 (by omega) (by omega)]; exact k3, k4⟩
theorem no3_end {o : Int → Int} {n i a b g z : Int} (n8 : n ≤ 8) (h : NO3 o n i a b g) : ORN o n g z := by
  obtain ⟨h1, h2, h3, h4, o0, k1, k2, k3, k4⟩ := h
  intro _
  have := VO_lt n8 k1 h2.1 (by omega) k2 k3
  unfold ORM at k4
  omega
theorem no2_start {o : Int → Int} {n i j : Int} (h : NO1 o n i) (i0 : 0 ≤ i) (hl : o i ≤ o (i + 1)) (hj : j = n - 1) : NO2 o n i j := by
  have := h.1 i (i + 1) i0 (by omega) (by have := h.2; omega)
  exact ⟨h.1, ⟨i0, h.2⟩, by omega, by have := h.2; omega, by omega⟩
theorem no2_step {o : Int → Int} {n i j j' : Int} (h : NO2 o n i j) (hl : o j < o i) (hj : j' = j - 1) : NO2 o n i j' := by
  obtain ⟨h1, h2, h3, h4, h5⟩ := h
  have : j ≠ i + 1 := fun e => by rw [e] at hl; omega
  exact ⟨h1, h2, h3, by omega, by omega⟩
