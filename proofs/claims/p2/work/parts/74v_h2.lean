/-! reveal: what comes into the place of the node that leaves -/
theorem cz_inj {f U : Int → Int} {n L : Int} (hn : 0 ≤ n) (hL : 0 ≤ L) (hr : ∀ t, 0 ≤ t → t < L → (0 ≤ U t ∧ U t < n) ∧ f (U t) ≠ 0) (hd : ∀ s t, 0 ≤ s → s < t → t < L → U s ≠ U t) : L + cz f n ≤ n := by
  have key : ∀ t : Nat, (t : Int) ≤ L → ∃ g : Int → Int, (t : Int) + cz f n ≤ cz g n ∧ ∀ z, ((∃ j, 0 ≤ j ∧ j < (t : Int) ∧ U j = z) → g z = 0) ∧ ((¬ ∃ j, 0 ≤ j ∧ j < (t : Int) ∧ U j = z) → g z = f z) := by
    intro t
    induction t with
    | zero => intro _; exact ⟨f, by omega, fun z => ⟨fun ⟨j, a, b, _⟩ => by omega, fun _ => rfl⟩⟩
    | succ t ih =>
      intro ht
      obtain ⟨g, g1, g2⟩ := ih (by omega)
      refine ⟨fun z => if z = U (t : Int) then 0 else g z, ?_, fun z => ⟨fun ⟨j, a, b, c⟩ => ?_, fun hz => ?_⟩⟩
      · have r := hr (t : Int) (by omega) (by omega)
        have gt : g (U (t : Int)) = f (U (t : Int)) := (g2 _).2 (fun ⟨j, a, b, c⟩ => hd j (t : Int) a b (by omega) c)
        have := czlt (f := g) (g := fun z => if z = U (t : Int) then 0 else g z) (n := n) (i := U (t : Int)) r.1.1 r.1.2 (fun j _ _ q => by show (if j = U (t : Int) then 0 else g j) = 0; split <;> simp_all) (by show (if U (t : Int) = U (t : Int) then 0 else g (U (t : Int))) = 0; rw [if_pos rfl]) (by rw [gt]; exact r.2)
        omega
      · show (if z = U (t : Int) then 0 else g z) = 0
        by_cases q : j = (t : Int)
        · rw [if_pos (by rw [← c, q])]
        · split
          · rfl
          · exact (g2 z).1 ⟨j, a, by omega, c⟩
      · show (if z = U (t : Int) then 0 else g z) = f z
        rw [if_neg (fun e => hz ⟨(t : Int), by omega, by omega, e.symm⟩)]
        exact (g2 z).2 (fun ⟨j, a, b, c⟩ => hz ⟨j, a, by omega, c⟩)
  obtain ⟨g, g1, _⟩ := key L.toNat (by omega)
  have := czb g hn
  omega
def wr (many a : Int) : Int := if a < 0 then a + many else if many ≤ a then a - many else a
def yv (row : Int → Int) (many at' on i : Int) : Int := row (wr many (if on ≠ 0 then at' + i else at' - i))
theorem wr_cases (many a : Int) : (a < 0 ∧ wr many a = a + many) ∨ (0 ≤ a ∧ many ≤ a ∧ wr many a = a - many) ∨ (0 ≤ a ∧ a < many ∧ wr many a = a) := by
  unfold wr
  split
  · left; omega
  · split
    · right; left; omega
    · right; right; omega
theorem wr_rng {many a : Int} (h0 : -many ≤ a) (h1 : a < 2 * many) (hm : 0 < many) : 0 ≤ wr many a ∧ wr many a < many := by
  unfold wr; split
  · omega
  · split <;> omega
theorem wr_mod {many a : Int} (h0 : 0 ≤ a) (h1 : a < 2 * many) : a % many = wr many a := by
  unfold wr
  rw [if_neg (by omega)]
  rcases em_ab h0 h1 with ⟨q, e⟩ | ⟨q, e⟩
  · rw [if_neg (by omega), e]
  · rw [if_pos q, e]
theorem Lam_congr {u v k x y : Int} {U U' : Int → Int} (h : ∀ t, 0 ≤ t → t < k → U' t = U t) : Lam u v k U' x y ↔ Lam u v k U x y := by
  unfold Lam
  constructor
  · rintro (⟨j, a, b, c⟩ | c)
    · rw [h j a (by omega), h (j + 1) (by omega) b] at c; exact Or.inl ⟨j, a, b, c⟩
    · exact Or.inr c
  · rintro (⟨j, a, b, c⟩ | c)
    · rw [← h j a (by omega), ← h (j + 1) (by omega) b] at c; exact Or.inl ⟨j, a, b, c⟩
    · exact Or.inr c
theorem cnv0_congr {A : pa_T} {u v k : Int} {U U' : Int → Int} {lf : Int → Prop} (h : ∀ t, 0 ≤ t → t < k → U' t = U t) (h0 : cnv0 u v k U lf A) : cnv0 u v k U' lf A := by
  obtain ⟨k3, hu, hv, hl, hd, ha, huv⟩ := h0
  refine ⟨k3, by rw [h 0 (by omega) (by omega)]; exact hu, by rw [h (k - 1) (by omega) (by omega)]; exact hv, fun j a b => by rw [h j a b]; exact hl j a b, fun i j a b c => by rw [h i a (by omega), h j (by omega) c]; exact hd i j a b c, fun j a b => by rw [h j a (by omega), h (j + 1) (by omega) b]; exact ha j a b, huv⟩
theorem cnvw_congr {A : pa_T} {nx : Int → Int → Int} {u v k : Int} {U U' : Int → Int} {lf : Int → Prop} {ω : Int → Int → Bool} (h : ∀ t, 0 ≤ t → t < k → U' t = U t) (h0 : cnvw A nx u v k U lf ω) : cnvw A nx u v k U' lf ω := by
  obtain ⟨w0, w1, w2, w3, w4, w5⟩ := h0
  refine ⟨w0, fun x y a => by rw [pb_iff (Lam_congr h)]; exact w1 x y a, w2, fun x y a b c => ?_, w4, fun x y a b c d => (Lam_congr h).2 (w5 x y a b c d)⟩
  obtain ⟨j, j0, j1, e⟩ := w3 x y a b c
  exact ⟨j, j0, j1, by rw [h j j0 j1]; exact e⟩
def nch (m upper : Int) (pt ph al U : Int → Int) (p : Int) : Prop := ∀ q, 0 ≤ q → q < upper → q ≠ p → q ≠ p - 1 → q ≠ p + 1 → ¬ jA m pt ph al (U p) (U q)
def RVP (n m upper : Int) (pt ph al rm rot left U order : Int → Int) (p x k : Int) : Prop := ∃ left0 order0, CNS n m upper pt ph al rm rot left0 U order0 k ∧ (1 ≤ p ∧ p + 1 < upper ∧ U p = x) ∧ nch m upper pt ph al U p ∧ (∀ z, 0 ≤ z → z ≠ x → left z = left0 z) ∧ left x = 0 ∧ (∀ j, 0 ≤ j → j ≠ k → order j = order0 j) ∧ order k = x
def RV1 (n m upper : Int) (pt ph al rm rot left U order row : Int → Int) (p x l many at' K k : Int) : Prop := RVP n m upper pt ph al rm rot left U order p x k ∧ l = U (p - 1) ∧ GTH (lfn n left) (fun q => acr pt ph (rt rot x q) x) row K many ∧ ((at' = -1 ∧ ∀ t, 0 ≤ t → t < many → row t ≠ l) ∨ (0 ≤ at' ∧ at' < many ∧ row at' = l)) ∧ 0 ≤ K ∧ K ≤ rm x
def RVE (n m upper : Int) (pt ph al rm rot left U order row : Int → Int) (p many at' on k : Int) : Prop := (2 ≤ many ∧ 0 ≤ at' ∧ at' < many) ∧ (1 ≤ p ∧ p + 1 < upper ∧ upper ≤ 24 ∧ upper + many ≤ 27) ∧ (∀ t, 0 ≤ t → t < many → 0 ≤ row t ∧ row t < n) ∧ (∀ t, 0 ≤ t → t < upper → 0 ≤ U t ∧ U t < n) ∧ ∀ U' : Int → Int, (∀ t, 0 ≤ t → t < upper - 3 + many → U' t = nU p (many - 2) U (yv row many at' on) t) → CNX n m (upper - 3 + many) pt ph al rm rot left U' order (k - 1)
/-- the row around x read from l on, forward or back -/
theorem yv_row {many at' on : Int} {row : Int → Int} {rr : Int} {W : Int → Bool} {nxx : Int → Int} (h2 : 2 ≤ many) (a0 : 0 ≤ at') (a1 : at' < many) (rowD : ∀ t t', 0 ≤ t → t < t' → t' < many → row t ≠ row t') (hon : on ≠ 0 ↔ (many = 2 ∨ row ((at' + 1) % many) ≠ rr))
    (hc : (row ((at' + (many - 1)) % many) = rr ∧ ∀ i, 0 ≤ i → i + 1 < many → W (row ((at' + i) % many)) = false ∧ nxx (row ((at' + i) % many)) = row ((at' + i + 1) % many)) ∨ (∃ tr, 0 ≤ tr ∧ tr < many ∧ row tr = rr ∧ (tr + (many - 1)) % many = at' ∧ ∀ i, 0 ≤ i → i + 1 < many → W (row ((tr + i) % many)) = false ∧ nxx (row ((tr + i) % many)) = row ((tr + i + 1) % many))) :
    yv row many at' on 0 = row at' ∧ yv row many at' on (many - 1) = rr ∧ ((∀ i, 0 ≤ i → i + 1 < many → nxx (yv row many at' on i) = yv row many at' on (i + 1) ∧ W (yv row many at' on i) = false) ∨ (∀ i, 0 ≤ i → i + 1 < many → nxx (yv row many at' on (i + 1)) = yv row many at' on i ∧ W (yv row many at' on (i + 1)) = false)) := by
  have inj : ∀ s t, 0 ≤ s → s < many → 0 ≤ t → t < many → row s = row t → s = t := fun s t s0 s1 t0 t1 z => by
    rcases Int.lt_trichotomy s t with q | q | q
    · exact absurd z (rowD s t s0 q t1)
    · exact q
    · exact absurd z.symm (rowD t s t0 q s1)
  rcases hc with ⟨c1, c2⟩ | ⟨tr, tr0, tr1, tr2, tr3, c2⟩
  · have on1 : on ≠ 0 := by
      rw [hon]
      by_cases q : many = 2
      · exact Or.inl q
      · right
        intro z
        rw [← c1, wr_mod (by omega) (by omega), wr_mod (by omega) (by omega)] at z
        have r1 := wr_rng (many := many) (a := at' + 1) (by omega) (by omega) (by omega)
        have r2 := wr_rng (many := many) (a := at' + (many - 1)) (by omega) (by omega) (by omega)
        have := inj _ _ r1.1 r1.2 r2.1 r2.2 z
        have w1 := wr_cases many (at' + 1)
        have w2 := wr_cases many (at' + (many - 1))
        omega
    have e : ∀ i, 0 ≤ i → i < many → yv row many at' on i = row ((at' + i) % many) := fun i i0 i1 => by
      unfold yv; rw [if_pos on1, wr_mod (by omega) (by omega)]
    refine ⟨by rw [e 0 (by omega) (by omega), show at' + 0 = at' by omega, em_lt a0 a1], by rw [e _ (by omega) (by omega)]; exact c1, Or.inl (fun i i0 i1 => ?_)⟩
    rw [e i i0 (by omega), e (i + 1) (by omega) i1, show at' + (i + 1) = at' + i + 1 by omega]
    exact ⟨(c2 i i0 i1).2, (c2 i i0 i1).1⟩
  · rw [wr_mod (by omega) (by omega)] at tr3
    have ea : (tr = 0 ∧ at' = many - 1) ∨ (1 ≤ tr ∧ at' = tr - 1) := by
      unfold wr at tr3
      rw [if_neg (by omega)] at tr3
      split at tr3 <;> omega
    have e1 : (at' + 1) % many = tr := by
      rw [wr_mod (by omega) (by omega)]
      unfold wr
      rw [if_neg (by omega)]
      split <;> omega
    have e : ∀ i, 0 ≤ i → i < many → yv row many at' on i = row ((tr + (many - 1 - i)) % many) := fun i i0 i1 => by
      rw [wr_mod (by omega) (by omega)]
      unfold yv
      congr 1
      by_cases q : on ≠ 0
      · rw [if_pos q]
        rw [e1] at hon
        have m2 : many = 2 := by
          rcases hon.1 q with z | z
          · exact z
          · exact absurd tr2 z
        have w1 := wr_cases many (at' + i)
        have w2 := wr_cases many (tr + (many - 1 - i))
        omega
      · rw [if_neg q]
        have w1 := wr_cases many (at' - i)
        have w2 := wr_cases many (tr + (many - 1 - i))
        omega
    refine ⟨?_, ?_, Or.inr (fun i i0 i1 => ?_)⟩
    · rw [e 0 (by omega) (by omega), wr_mod (by omega) (by omega), show many - 1 - 0 = many - 1 by omega]; rw [tr3]
    · rw [e _ (by omega) (by omega), show tr + (many - 1 - (many - 1)) = tr by omega, em_lt tr0 tr1]; exact tr2
    · rw [e i i0 (by omega), e (i + 1) (by omega) i1]
      have := c2 (many - 1 - (i + 1)) (by omega) (by omega)
      rw [show tr + (many - 1 - (i + 1)) + 1 = tr + (many - 1 - i) by omega] at this
      exact ⟨this.2, this.1⟩
