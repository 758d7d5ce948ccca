def apar (x : Nat → Int) (u v : Int) : Nat → Bool
  | 0 => false
  | n + 1 => apar x u v n ^^ eI (x n) (x (n + 1)) u v
theorem finv_xor {A : pa_T} {nx : Int → Int → Int} {χ χ' : Int → Int → Bool} (h : finv A nx χ) (h' : finv A nx χ') : finv A nx (fun u v => χ u v ^^ χ' u v) := fun u v a => by
  show (χ v (nx u v) ^^ χ' v (nx u v)) = (χ u v ^^ χ' u v)
  rw [h u v a, h' u v a]
theorem fbd_xor (χ χ' : Int → Int → Bool) (u v : Int) : fbd (fun u v => χ u v ^^ χ' u v) u v = (fbd χ u v ^^ fbd χ' u v) := by
  unfold fbd
  show ((χ u v ^^ χ' u v) ^^ (χ v u ^^ χ' v u)) = _
  generalize χ u v = r1; generalize χ' u v = r2; generalize χ v u = r3; generalize χ' v u = r4
  revert r1 r2 r3 r4; decide
theorem arc_sum {A : pa_T} {nx : Int → Int → Int} {ρ : Int → Int → Int → Bool} (hl : pls A nx ρ) {x : Nat → Int} {m : Nat} (hA : ∀ i, i < m → A (x i) (x (i + 1))) : ∀ k, k ≤ m → ∃ χ, finv A nx χ ∧ ∀ u v, A u v → fbd χ u v = ((apar x u v k ^^ ρ (x 0) u v) ^^ ρ (x k) u v)
  | 0, _ => ⟨fun _ _ => false, fun _ _ _ => rfl, fun u v _ => by
      show (false ^^ false) = ((false ^^ ρ (x 0) u v) ^^ ρ (x 0) u v)
      generalize ρ (x 0) u v = r; revert r; decide⟩
  | k + 1, h => by
    obtain ⟨χ, i1, i2⟩ := arc_sum hl hA k (by omega)
    obtain ⟨χ', j1, j2⟩ := hl _ _ (hA k (by omega))
    refine ⟨_, finv_xor i1 j1, fun u v a => ?_⟩
    rw [fbd_xor, i2 u v a, j2 u v a]
    show _ = (((apar x u v k ^^ eI (x k) (x (k + 1)) u v) ^^ ρ (x 0) u v) ^^ ρ (x (k + 1)) u v)
    generalize apar x u v k = r1; generalize ρ (x 0) u v = r2; generalize ρ (x k) u v = r3; generalize ρ (x (k + 1)) u v = r4; generalize eI (x k) (x (k + 1)) u v = r5
    revert r1 r2 r3 r4 r5; decide
theorem pb_or {P Q : Prop} (h : ¬ (P ∧ Q)) : pb (P ∨ Q) = (pb P ^^ pb Q) := by
  by_cases p : P
  · rw [pb_t (Or.inl p), pb_t p, pb_f (fun q => h ⟨p, q⟩)]; rfl
  · by_cases q : Q
    · rw [pb_t (Or.inr q), pb_f p, pb_t q]; rfl
    · rw [pb_f (fun z => z.elim p q), pb_f p, pb_f q]; rfl
theorem eI_pb {a b u v : Int} (h : u ≠ v) : eI a b u v = (pb (u = a ∧ v = b) ^^ pb (v = a ∧ u = b)) := by
  rw [← pb_or (fun z => h (z.1.1.trans z.2.1.symm))]
  unfold eI pb
  exact (@decide_eq_decide _ _ _ (Classical.propDecidable _)).mpr ⟨fun z => z.elim (fun z => Or.inl z) (fun z => Or.inr ⟨z.2, z.1⟩), fun z => z.elim (fun z => Or.inl z) (fun z => Or.inr ⟨z.2, z.1⟩)⟩
theorem apar_th {x : Nat → Int} {u v : Int} (h : u ≠ v) : ∀ m, (∀ i j, i < j → j < m → ¬ (x i = x j ∧ x (i + 1) = x (j + 1))) → apar x u v m = (pb (∃ i, i < m ∧ u = x i ∧ v = x (i + 1)) ^^ pb (∃ i, i < m ∧ v = x i ∧ u = x (i + 1)))
  | 0, _ => by
    rw [pb_f (fun ⟨i, z, _⟩ => by omega), pb_f (fun ⟨i, z, _⟩ => by omega)]; rfl
  | m + 1, hd => by
    have ih := apar_th h m (fun i j a b => hd i j a (by omega))
    show (apar x u v m ^^ eI (x m) (x (m + 1)) u v) = _
    have e1 : ∀ u v : Int, pb (∃ i, i < m + 1 ∧ u = x i ∧ v = x (i + 1)) = (pb (∃ i, i < m ∧ u = x i ∧ v = x (i + 1)) ^^ pb (u = x m ∧ v = x (m + 1))) := by
      intro u v
      rw [← pb_or]
      · refine pb_iff ⟨fun ⟨i, z1, z2⟩ => ?_, fun z => ?_⟩
        · by_cases q : i = m
          · subst q; exact Or.inr z2
          · exact Or.inl ⟨i, by omega, z2⟩
        · rcases z with ⟨i, z1, z2⟩ | z
          · exact ⟨i, by omega, z2⟩
          · exact ⟨m, by omega, z⟩
      · rintro ⟨⟨i, z1, z2, z3⟩, z4, z5⟩
        exact hd i m z1 (by omega) ⟨z2.symm.trans z4, z3.symm.trans z5⟩
    rw [ih, eI_pb h, e1 u v, e1 v u]
    generalize pb (∃ i, i < m ∧ u = x i ∧ v = x (i + 1)) = r1; generalize pb (∃ i, i < m ∧ v = x i ∧ u = x (i + 1)) = r2; generalize pb (u = x m ∧ v = x (m + 1)) = r3; generalize pb (v = x m ∧ u = x (m + 1)) = r4
    revert r1 r2 r3 r4; decide
def crh (ρ : Int → Int → Int → Bool) (a b w x y : Int) : Bool := bif eI a b x y then false else ρ w x y
theorem arc_same {A : pa_T} {nx : Int → Int → Int} {χ : Int → Int → Bool} (hc : finv A nx χ) {x : Nat → Int} {m : Nat} (hA : ∀ i, i < m → A (x i) (x (i + 1))) (hN : ∀ i, i + 2 ≤ m → nx (x i) (x (i + 1)) = x (i + 2)) : ∀ i, i < m → χ (x i) (x (i + 1)) = χ (x 0) (x 1)
  | 0, _ => rfl
  | i + 1, h => by
    rw [← arc_same hc hA hN i (by omega), ← hc _ _ (hA i (by omega)), hN i (by omega)]
theorem chord_pls {A : pa_T} {nx : Int → Int → Int} {ρ : Int → Int → Int → Bool} {p a p' b : Int} (m : mp A nx) (hl : pls A nx ρ) (hp : A p a) (hp' : A p' b) (hab : ¬ A a b) (hne : a ≠ b)
    {x : Nat → Int} {n : Nat} (hn : 1 ≤ n) (x0 : x 0 = a) (x1 : x 1 = nx p a) (xl : x (n - 1) = p') (xn : x n = b) (hA : ∀ i, i < n → A (x i) (x (i + 1))) (hN : ∀ i, i + 2 ≤ n → nx (x i) (x (i + 1)) = x (i + 2))
    (hd : ∀ i j, i < j → j < n → ¬ (x i = x j ∧ x (i + 1) = x (j + 1))) : pls (chA A a b) (cnx nx p a p' b) (crh ρ a b) := by
  have m' := chord_mp m hp hp' hab hne
  obtain ⟨⟨hs, hi⟩, a2, a3, a4⟩ := m
  have hba : ¬ A b a := fun h => hab (hs _ _ h)
  have hne' : b ≠ a := fun e => hne e.symm
  have hbp : b ≠ p := fun e => hba (e ▸ hp)
  have hap : a ≠ p' := fun e => hab (e ▸ hp')
  have n1 : ∀ {u v}, A u v → ¬ (u = b ∧ v = a) := fun h e => hba (e.1 ▸ e.2 ▸ h)
  have n2 : ∀ {u v}, A u v → ¬ (u = a ∧ v = b) := fun h e => hab (e.1 ▸ e.2 ▸ h)
  have eo : ∀ {x y}, A x y → eI a b x y = false := fun h => eI_no ⟨hs, hi⟩ hab h
  have lift : ∀ χ, finv A nx χ → finv (chA A a b) (cnx nx p a p' b) (fun u v => bif eI a b u v then χ p a else χ u v) := by
    intro χ hinv
    have same : χ p' b = χ p a := by
      have h1 := arc_same hinv hA hN (n - 1) (by omega)
      rw [show n - 1 + 1 = n by omega, xl, xn, x0, x1] at h1
      rw [h1]; exact hinv _ _ hp
    rintro u v (h | ⟨h1, h2⟩ | ⟨h1, h2⟩)
    · show (bif eI a b v (cnx nx p a p' b u v) then χ p a else χ v (cnx nx p a p' b u v)) = (bif eI a b u v then χ p a else χ u v)
      rw [eo h]
      by_cases q : u = p ∧ v = a
      · rw [q.1, q.2, cnx_1, eI_self]; rfl
      · by_cases q' : u = p' ∧ v = b
        · rw [q'.1, q'.2, cnx_3 hne', eI_self2]; exact same.symm
        · rw [cnx_o q (n1 h) q' (n2 h), eo (a2 u v h)]; exact hinv u v h
    · subst h1; subst h2
      show (bif eI u v v (cnx nx p u p' v u v) then χ p u else χ v (cnx nx p u p' v u v)) = (bif eI u v u v then χ p u else _)
      rw [cnx_4 hne' hap, eI_self, eo (a2 _ _ hp')]
      show χ v (nx p' v) = χ p u
      rw [hinv _ _ hp', same]
    · subst h1; subst h2
      show (bif eI v u v (cnx nx p v p' u u v) then χ p v else χ v (cnx nx p v p' u u v)) = (bif eI v u u v then χ p v else _)
      rw [cnx_2 hbp, eI_self2, eo (a2 _ _ hp)]; exact hinv _ _ hp
  have lbd : ∀ χ u v, chA A a b u v → fbd (fun u v => bif eI a b u v then χ p a else χ u v) u v = (bif eI a b u v then false else fbd χ u v) := by
    intro χ u v h
    unfold fbd
    show ((bif eI a b u v then χ p a else χ u v) ^^ (bif eI a b v u then χ p a else χ v u)) = _
    rw [eI_swap a b v u]
    cases eI a b u v
    · rfl
    · simp
  have ec : ∀ u v, chA A a b u v → eI a b u v = false → A u v := by
    rintro u v (h | ⟨h1, h2⟩ | ⟨h1, h2⟩) e
    · exact h
    · rw [h1, h2, eI_self] at e; cases e
    · rw [h1, h2, eI_self2] at e; cases e
  have main : ∀ u v, A u v → ∃ χ, finv (chA A a b) (cnx nx p a p' b) χ ∧ ∀ x y, chA A a b x y → fbd χ x y = ((crh ρ a b u x y ^^ crh ρ a b v x y) ^^ eI u v x y) := by
    intro u v huv
    obtain ⟨χ, hinv, hbd⟩ := hl u v huv
    refine ⟨_, lift χ hinv, fun z y h => ?_⟩
    rw [lbd χ z y h]
    unfold crh
    cases e : eI a b z y with
    | false => exact hbd z y (ec z y h e)
    | true =>
      have e2 : eI u v z y = false := by
        unfold eI
        refine decide_eq_false (fun w => ?_)
        have e3 : (z = a ∧ y = b) ∨ (z = b ∧ y = a) := of_decide_eq_true e
        rcases e3 with ⟨h1, h2⟩ | ⟨h1, h2⟩ <;> rcases w with ⟨z1, z2⟩ | ⟨z1, z2⟩
        · exact n2 huv ⟨z1.symm.trans h1, z2.symm.trans h2⟩
        · exact n1 huv ⟨z2.symm.trans h2, z1.symm.trans h1⟩
        · exact n1 huv ⟨z1.symm.trans h1, z2.symm.trans h2⟩
        · exact n2 huv ⟨z2.symm.trans h2, z1.symm.trans h1⟩
      rw [e2]; rfl
  have edge : ∃ χ, finv (chA A a b) (cnx nx p a p' b) χ ∧ ∀ x y, chA A a b x y → fbd χ x y = ((crh ρ a b a x y ^^ crh ρ a b b x y) ^^ eI a b x y) := by
    obtain ⟨χ, hinv, hbd⟩ := arc_sum hl hA n (Nat.le_refl _)
    -- the one new face
    let T : Int → Int → Prop := fun u v => (u = b ∧ v = a) ∨ ∃ i, i < n ∧ u = x i ∧ v = x (i + 1)
    have stp : ∀ i, i + 1 < n → cnx nx p a p' b (x i) (x (i + 1)) = x (i + 2) := by
      intro i h
      have hAi := hA i (by omega)
      rw [cnx_o (fun z => ?_) (n1 hAi) (fun z => ?_) (n2 hAi), hN i (by omega)]
      · refine hd 0 (i + 1) (by omega) h ⟨by rw [x0]; exact z.2.symm, ?_⟩
        rw [x1, ← hN i (by omega), z.1, z.2]
      · refine hd i (n - 1) (by omega) (by omega) ⟨by rw [xl]; exact z.1, ?_⟩
        rw [show n - 1 + 1 = n by omega, xn]; exact z.2
    have tT : ∀ u v, T u v → T v (cnx nx p a p' b u v) := by
      rintro u v (⟨h1, h2⟩ | ⟨i, h1, h2, h3⟩)
      · rw [h1, h2, cnx_2 hbp]; exact Or.inr ⟨0, by omega, x0.symm, x1.symm⟩
      · by_cases q : i + 1 = n
        · have e1 : u = p' := by rw [h2, ← xl]; congr 1; omega
          have e2 : v = b := by rw [h3, q, xn]
          rw [e1, e2, cnx_3 hne']; exact Or.inl ⟨rfl, rfl⟩
        · rw [h2, h3, stp i (by omega)]; exact Or.inr ⟨i + 1, by omega, rfl, rfl⟩
    have TA : ∀ u v, T u v → chA A a b u v := by
      rintro u v (⟨h1, h2⟩ | ⟨i, h1, h2, h3⟩)
      · exact Or.inr (Or.inr ⟨h1, h2⟩)
      · rw [h2, h3]; exact Or.inl (hA i h1)
    have bT : ∀ u v, chA A a b u v → T v (cnx nx p a p' b u v) → T u v := by
      rintro u v h (⟨h1, h2⟩ | ⟨i, h1, h2, h3⟩)
      · -- goes to a from b: comes from p'
        have e := m'.2.2.1 u p' v h (by rw [h1]; exact Or.inl hp') (by rw [h2, h1, cnx_3 hne'])
        exact Or.inr ⟨n - 1, by omega, by rw [xl]; exact e, by rw [show n - 1 + 1 = n by omega, xn]; exact h1⟩
      · cases i with
        | zero =>
          rw [x0] at h2
          have e := m'.2.2.1 u b v h (by rw [h2]; exact Or.inr (Or.inr ⟨rfl, rfl⟩)) (by rw [h3, h2, cnx_2 hbp, ← x1])
          exact Or.inl ⟨e, h2⟩
        | succ i =>
          have e := m'.2.2.1 u (x i) v h (by rw [h2]; exact Or.inl (hA i (by omega))) (by rw [h3, h2, stp i h1])
          exact Or.inr ⟨i, by omega, e, h2⟩
    have fT : finv (chA A a b) (cnx nx p a p' b) (fun u v => pb (T u v)) := fun u v h => pb_iff ⟨bT u v h, tT u v⟩
    refine ⟨_, finv_xor (lift χ hinv) fT, fun u v h => ?_⟩
    rw [fbd_xor, lbd χ u v h]
    have hT : fbd (fun u v => pb (T u v)) u v = (bif eI a b u v then true else apar x u v n) := by
      unfold fbd
      cases e : eI a b u v with
      | true =>
        have e3 : (u = a ∧ v = b) ∨ (u = b ∧ v = a) := of_decide_eq_true e
        have t1 : T b a := Or.inl ⟨rfl, rfl⟩
        have t2 : ¬ T a b := by
          rintro (⟨h1, h2⟩ | ⟨i, h1, h2, h3⟩)
          · exact hne h1
          · exact hab (h2 ▸ h3 ▸ hA i h1)
        rcases e3 with ⟨h1, h2⟩ | ⟨h1, h2⟩
        · rw [h1, h2]; show (pb (T a b) ^^ pb (T b a)) = true; rw [pb_t t1, pb_f t2]; rfl
        · rw [h1, h2]; show (pb (T b a) ^^ pb (T a b)) = true; rw [pb_t t1, pb_f t2]; rfl
      | false =>
        have hA' := ec u v h e
        show _ = apar x u v n
        rw [apar_th (hi u v hA') n hd]
        congr 1
        · exact pb_iff ⟨fun z => z.elim (fun z => absurd z (n1 hA')) id, Or.inr⟩
        · exact pb_iff ⟨fun z => z.elim (fun z => absurd z (n1 (hs _ _ hA'))) id, Or.inr⟩
    rw [hT]
    unfold crh
    cases e : eI a b u v with
    | true => rfl
    | false =>
      rw [show (bif false then false else fbd χ u v) = fbd χ u v from rfl, hbd u v (ec u v h e), x0, xn]
      show _ = ((ρ a u v ^^ ρ b u v) ^^ false)
      generalize apar x u v n = r1; generalize ρ a u v = r2; generalize ρ b u v = r3
      show (((r1 ^^ r2) ^^ r3) ^^ r1) = _
      revert r1 r2 r3; decide
  rintro u v (h | ⟨h1, h2⟩ | ⟨h1, h2⟩)
  · exact main u v h
  · rw [h1, h2]; exact edge
  · rw [h1, h2]
    obtain ⟨χ, i1, i2⟩ := edge
    refine ⟨χ, i1, fun x y h => ?_⟩
    rw [i2 x y h, eI_comm b a, Bool.xor_comm (crh ρ a b b x y)]
