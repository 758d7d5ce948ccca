/-! a way put into a face -/
def ptA (A : pa_T) (w : Nat → Int) (k : Nat) (u v : Int) : Prop := A u v ∨ ∃ i, i ≤ k ∧ ((u = w i ∧ v = w (i + 1)) ∨ (u = w (i + 1) ∧ v = w i))
def ptv (A : pa_T) (nx nx' : Int → Int → Int) (w : Nat → Int) (k : Nat) (p p' : Int) : Prop :=
  (∀ u v, A u v → ¬ (u = p ∧ v = w 0) → ¬ (u = p' ∧ v = w (k + 1)) → nx' u v = nx u v) ∧
  nx' p (w 0) = w 1 ∧ nx' p' (w (k + 1)) = w k ∧ nx' (w 1) (w 0) = nx p (w 0) ∧ nx' (w k) (w (k + 1)) = nx p' (w (k + 1)) ∧
  ∀ i, i < k → nx' (w i) (w (i + 1)) = w (i + 2) ∧ nx' (w (i + 2)) (w (i + 1)) = w i
/-- a walk along a face from a corner -/
def fwk (A : pa_T) (nx : Int → Int → Int) (p : Int) (x : Nat → Int) (n : Nat) : Prop :=
  1 ≤ n ∧ x 1 = nx p (x 0) ∧ (∀ i, i < n → A (x i) (x (i + 1))) ∧ (∀ i, i + 2 ≤ n → nx (x i) (x (i + 1)) = x (i + 2)) ∧ ∀ i j, i < j → j ≤ n → x i ≠ x j
theorem path_ins : ∀ (k : Nat) {A : pa_T} {nx : Int → Int → Int} {ρ : Int → Int → Int → Bool} {p : Int} {w x : Nat → Int} {n : Nat}, mp A nx → pls A nx ρ → A p (w 0) → fwk A nx p x n → x 0 = w 0 → x n = w (k + 1) →
    (∀ i, 1 ≤ i → i ≤ k → ∀ u, ¬ A u (w i)) → (∀ i j, i < j → j ≤ k + 1 → w i ≠ w j) → (k = 0 → ¬ A (w 0) (w 1)) →
    ∃ nx' ρ', mp (ptA A w k) nx' ∧ pls (ptA A w k) nx' ρ' ∧ ptv A nx nx' w k p (x (n - 1))
  | 0, A, nx, ρ, p, w, x, n, m, hl, hp, ⟨n1, x1, xA, xN, xd⟩, x0, xn, hw, wd, h0 => by
    have hne : w 0 ≠ w 1 := wd 0 1 (by omega) (by omega)
    have hab : ¬ A (w 0) (w 1) := h0 rfl
    have xn' : x n = w 1 := xn
    have hp' : A (x (n - 1)) (w 1) := by
      have := xA (n - 1) (by omega)
      rw [show n - 1 + 1 = n by omega, xn'] at this; exact this
    have e : ptA A w 0 = chA A (w 0) (w 1) := by
      funext u v
      apply propext
      constructor
      · rintro (h | ⟨i, hi, h⟩)
        · exact Or.inl h
        · have : i = 0 := by omega
          subst this; exact Or.inr h
      · rintro (h | h)
        · exact Or.inl h
        · exact Or.inr ⟨0, by omega, h⟩
    refine ⟨cnx nx p (w 0) (x (n - 1)) (w 1), crh ρ (w 0) (w 1), ?_, ?_, ?_⟩
    · rw [e]; exact chord_mp m hp hp' hab hne
    · rw [e]
      refine chord_pls m hl hp hp' hab hne (x := x) (n := n) n1 x0 (by rw [x1, x0]) rfl xn' xA xN (fun i j hij hj h => xd i j hij (by omega) h.1)
    · have hbp : w 1 ≠ p := fun z => hab (m.1.1 _ _ (z ▸ hp))
      have hap : w 0 ≠ x (n - 1) := fun z => hab (z ▸ hp')
      refine ⟨fun u v hA h1 h2 => cnx_o h1 (fun z => ?_) h2 (fun z => ?_), cnx_1, cnx_3 hne.symm, cnx_2 hbp, cnx_4 hne.symm hap, fun i hi => by omega⟩
      · exact hab (m.1.1 _ _ (z.1 ▸ z.2 ▸ hA))
      · exact hab (z.1 ▸ z.2 ▸ hA)
  | k + 1, A, nx, ρ, p, w, x, n, m, hl, hp, ⟨n1, x1, xA, xN, xd⟩, x0, xn, hw, wd, h0 => by
    have ht : ∀ u, ¬ A u (w 1) := hw 1 (by omega) (by omega)
    have hta : ∀ u, ¬ A (w 1) u := fun u h => ht u (m.1.1 _ _ h)
    have h01 : w 1 ≠ w 0 := (wd 0 1 (by omega) (by omega)).symm
    have htp : w 1 ≠ p := fun z => hta _ (z ▸ hp)
    have o1 : ∀ u v, A u v → ¬ (u = p ∧ v = w 0) → pnx nx p (w 0) (w 1) u v = nx u v := fun u v hA h => pnx_o h (fun z => hta _ (z ▸ hA)) (fun z => ht _ (z ▸ hA))
    have xb : ∀ i, i ≤ n → x i ≠ w 1 := by
      intro i hi z
      by_cases q : i = n
      · rw [q, xn] at z; exact wd 1 (k + 1 + 1) (by omega) (by omega) z.symm
      · exact hta _ (z ▸ xA i (by omega))
    have F1 : fwk (pnA A (w 0) (w 1)) (pnx nx p (w 0) (w 1)) (w 0) (fun i => if i = 0 then w 1 else x (i - 1)) (n + 1) := by
      refine ⟨by omega, ?_, fun i hi => ?_, fun i hi => ?_, fun i j hij hj => ?_⟩
      · show x 0 = pnx nx p (w 0) (w 1) (w 0) (w 1)
        rw [pnx_3 h01, x0]
      · cases i with
        | zero => show pnA A (w 0) (w 1) (w 1) (x 0); rw [x0]; exact Or.inr (Or.inr ⟨rfl, rfl⟩)
        | succ i => exact Or.inl (xA i (by omega))
      · cases i with
        | zero =>
          show pnx nx p (w 0) (w 1) (w 1) (x 0) = x 1
          rw [x0, pnx_2 htp, x1, x0]
        | succ i =>
          show pnx nx p (w 0) (w 1) (x i) (x (i + 1)) = x (i + 2)
          rw [o1 _ _ (xA i (by omega)) (fun z => xd 0 (i + 1) (by omega) (by omega) (x0.trans z.2.symm))]
          exact xN i (by omega)
      · cases j with
        | zero => omega
        | succ j =>
          cases i with
          | zero => exact fun z => xb j (by omega) z.symm
          | succ i => exact xd i j (by omega) (by omega)
    have F2 : ∀ i, 1 ≤ i → i ≤ k → ∀ u, ¬ pnA A (w 0) (w 1) u (w (i + 1)) := by
      intro i i1 i2 u h
      rcases h with h | h | h
      · exact hw (i + 1) (by omega) (by omega) u h
      · exact wd 1 (i + 1) (by omega) (by omega) h.2.symm
      · exact wd 0 (i + 1) (by omega) (by omega) h.2.symm
    have F3 : k = 0 → ¬ pnA A (w 0) (w 1) (w 1) (w 2) := by
      intro hk h
      subst hk
      rcases h with h | h | h
      · exact hta _ h
      · exact h01 h.1
      · exact wd 0 2 (by omega) (by omega) h.2.symm
    have key : _ := path_ins k (A := pnA A (w 0) (w 1)) (nx := pnx nx p (w 0) (w 1)) (ρ := prh ρ (w 0) (w 1)) (p := w 0) (w := fun i => w (i + 1)) (x := fun i => if i = 0 then w 1 else x (i - 1)) (n := n + 1)
      (pend_mp m hp ht) (pend_pls m hp ht hl) (Or.inr (Or.inl ⟨rfl, rfl⟩)) F1 rfl (show x n = w (k + 1 + 1) from xn) F2 (fun i j hij hj => wd (i + 1) (j + 1) (by omega) (by omega)) F3
    obtain ⟨nx', ρ', a1, a2, a3, a4, a5, a6, a7, a8⟩ := key
    have e : ptA (pnA A (w 0) (w 1)) (fun i => w (i + 1)) k = ptA A w (k + 1) := by
      funext u v
      apply propext
      constructor
      · rintro ((h | h | h) | ⟨i, hi, h⟩)
        · exact Or.inl h
        · exact Or.inr ⟨0, by omega, Or.inl h⟩
        · exact Or.inr ⟨0, by omega, Or.inr h⟩
        · exact Or.inr ⟨i + 1, by omega, h⟩
      · rintro (h | ⟨i, hi, h⟩)
        · exact Or.inl (Or.inl h)
        · cases i with
          | zero => exact Or.inl (Or.inr h)
          | succ i => exact Or.inr ⟨i, by omega, h⟩
    have e2 : (if n + 1 - 1 = 0 then w 1 else x (n + 1 - 1 - 1)) = x (n - 1) := by
      rw [if_neg (by omega)]; rfl
    simp only [e2] at a3 a5 a7
    have hpb : ¬ (x (n - 1) = p ∧ w (k + 1 + 1) = w 0) := fun z => wd 0 (k + 1 + 1) (by omega) (by omega) z.2.symm
    have hA' : A (x (n - 1)) (w (k + 1 + 1)) := by
      have := xA (n - 1) (by omega)
      rw [show n - 1 + 1 = n by omega, xn] at this; exact this
    refine ⟨nx', ρ', e ▸ a1, e ▸ a2, fun u v hA h1 h2 => ?_, ?_, a5, ?_, ?_, fun i hi => ?_⟩
    · rw [a3 u v (Or.inl hA) (fun z => ht _ (z.2 ▸ hA)) h2]; exact o1 u v hA h1
    · rw [a3 p (w 0) (Or.inl hp) (fun z => h01 z.2.symm) (fun z => hpb ⟨z.1.symm, z.2.symm⟩)]; exact pnx_1
    · rw [a3 (w 1) (w 0) (Or.inr (Or.inr ⟨rfl, rfl⟩)) (fun z => h01 z.2.symm) (fun z => wd 0 (k + 1 + 1) (by omega) (by omega) z.2)]; exact pnx_2 htp
    · rw [a7]; exact o1 _ _ hA' hpb
    · cases i with
      | zero => exact ⟨a4, by rw [a6]; exact pnx_3 h01⟩
      | succ i => exact a8 i (by omega)
