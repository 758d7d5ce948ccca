/-! reveal: one node less -/
theorem yv_dist {many at' on : Int} {row : Int → Int} (a0 : 0 ≤ at') (a1 : at' < many) (rowD : ∀ t t', 0 ≤ t → t < t' → t' < many → row t ≠ row t') : ∀ i j, 0 ≤ i → i < j → j < many → yv row many at' on i ≠ yv row many at' on j := by
  intro i j i0 ij j1 z
  unfold yv at z
  have inj : ∀ s t, 0 ≤ s → s < many → 0 ≤ t → t < many → row s = row t → s = t := fun s t s0 s1 t0 t1 z => by
    rcases Int.lt_trichotomy s t with q | q | q
    · exact absurd z (rowD s t s0 q t1)
    · exact q
    · exact absurd z.symm (rowD t s t0 q s1)
  by_cases q : on ≠ 0
  · rw [if_pos q, if_pos q] at z
    have r1 := wr_rng (many := many) (a := at' + i) (by omega) (by omega) (by omega)
    have r2 := wr_rng (many := many) (a := at' + j) (by omega) (by omega) (by omega)
    have := inj _ _ r1.1 r1.2 r2.1 r2.2 z
    have w1 := wr_cases many (at' + i)
    have w2 := wr_cases many (at' + j)
    omega
  · rw [if_neg q, if_neg q] at z
    have r1 := wr_rng (many := many) (a := at' - i) (by omega) (by omega) (by omega)
    have r2 := wr_rng (many := many) (a := at' - j) (by omega) (by omega) (by omega)
    have := inj _ _ r1.1 r1.2 r2.1 r2.2 z
    have w1 := wr_cases many (at' - i)
    have w2 := wr_cases many (at' - j)
    omega
theorem yv_in {many at' on i : Int} {row : Int → Int} {P : Int → Prop} (a0 : 0 ≤ at') (a1 : at' < many) (i0 : 0 ≤ i) (i1 : i < many) (h : ∀ t, 0 ≤ t → t < many → P (row t)) : P (yv row many at' on i) := by
  unfold yv
  by_cases q : on ≠ 0
  · rw [if_pos q]
    have r := wr_rng (many := many) (a := at' + i) (by omega) (by omega) (by omega)
    exact h _ r.1 r.2
  · rw [if_neg q]
    have r := wr_rng (many := many) (a := at' - i) (by omega) (by omega) (by omega)
    exact h _ r.1 r.2
theorem nU_lt {p M t : Int} {U y : Int → Int} (h : t < p) : nU p M U y t = U t := by unfold nU; rw [if_pos h]
theorem nU_mid {p M t : Int} {U y : Int → Int} (h : p ≤ t) (h2 : t < p + M) : nU p M U y t = y (t - p + 1) := by unfold nU; rw [if_neg (by omega), if_pos h2]
theorem nU_ge {p M t : Int} {U y : Int → Int} (h : p ≤ t) (h2 : p + M ≤ t) : nU p M U y t = U (t - M + 1) := by unfold nU; rw [if_neg (by omega), if_neg (by omega)]
theorem rv_at {n m upper p x l many at' K k : Int} {pt ph al rm rot left U order row : Int → Int} (h : RV1 n m upper pt ph al rm rot left U order row p x l many at' K k) (hK : rm x ≤ K) : (0 ≤ at' ∧ at' < many ∧ row at' = U (p - 1)) ∧ (0 ≤ x ∧ x < n) ∧ K = rm x := by
  obtain ⟨⟨left0, order0, hS, ⟨p1, p2, p3⟩, hch, l1, l2, o1, o2⟩, hl, hG, hat, k0, k1⟩ := h
  have hU := cns_line hS
  obtain ⟨hB, hk, ⟨nx, ρ, ω, q1, q2, q3, h0, hw⟩, _⟩ := hS
  have x0 := hU.2 p (by omega) (by omega)
  rw [p3] at x0
  have eK : K = rm x := by omega
  refine ⟨?_, x0, eK⟩
  rcases hat with ⟨_, z⟩ | z
  · exfalso
    have hA : jA m pt ph al (U (p - 1)) x := by have := h0.2.2.2.2.2.1 (p - 1) (by omega) (by omega); rw [show p - 1 + 1 = p by omega, p3] at this; exact this
    obtain ⟨e, j⟩ := hA
    have hg := hB.1.1.1
    obtain ⟨_, _, _, r4⟩ := hB.1.2.2.1 x x0.1 x0.2
    obtain ⟨q, q0, q1', q2'⟩ := r4 e _ (JJ_sym _ _ _ j)
    have ea : acr pt ph (rt rot x q) x = U (p - 1) := by rw [q2']; exact acr_is (JJ_irr (al := al) hg _ _ _ (JJ_sym _ _ _ j)) (JJ_sym _ _ _ j)
    have hne : U (p - 1) ≠ x := JJ_irr (al := al) hg _ _ _ j
    have hlf := h0.2.2.2.1 (p - 1) (by omega) (by omega)
    obtain ⟨_, _, κ, g3, _, g5⟩ := hG
    obtain ⟨t, t0, t1, t2⟩ := g5 q q0 (by omega) (by
      show lfn n left (acr pt ph (rt rot x q) x)
      rw [ea]
      exact ⟨hlf.1, by rw [l1 _ hlf.1.1 hne]; exact hlf.2⟩)
    have := (g3 t t0 t1).2.2.1
    have e2 : row t = acr pt ph (rt rot x (κ t)) x := this
    rw [t2, ea] at e2
    exact z t t0 t1 (by rw [e2, hl])
  · rw [hl] at z; exact z
theorem rv_main {n m upper p x l many at' K k on : Int} {pt ph al rm rot left U order row : Int → Int} (h : RV1 n m upper pt ph al rm rot left U order row p x l many at' K k) (hK : rm x ≤ K) (hon : on ≠ 0 ↔ (many = 2 ∨ row ((at' + 1) % many) ≠ U (p + 1))) : RVE n m upper pt ph al rm rot left U order row p many at' on k := by
  obtain ⟨⟨a0, a1, ha⟩, x0, eK⟩ := rv_at h hK
  obtain ⟨⟨left0, order0, hS, ⟨p1, p2, p3⟩, hch, l1, l2, o1, o2⟩, hl, hG, _, k0, k1⟩ := h
  have hU := cns_line hS
  have hS' := hS
  obtain ⟨hB, hk, ⟨nx, ρ, ω, q1, q2, q3, h0, hw⟩, hcz, H, len, H1, H2, H3⟩ := hS
  subst p3
  rw [eK] at hG
  have elf : lfn n left = fun z => lfn n left0 z ∧ z ≠ U p := by
    funext z
    apply propext
    constructor
    · rintro ⟨z0, z1⟩
      by_cases q : z = U p
      · rw [q] at z1; exact absurd l2 z1
      · exact ⟨⟨z0, by rw [← l1 z z0.1 q]; exact z1⟩, q⟩
    · rintro ⟨⟨z0, z1⟩, q⟩
      exact ⟨z0, by rw [l1 z z0.1 q]; exact z1⟩
  rw [elf] at hG
  obtain ⟨m2, rowA, rowD, hdir⟩ := rev_y hB.1.1.1 hB.1.2.2 q1 q3 h0 hw p1 p2 x0.1 x0.2 hG a0 a1 ha
  obtain ⟨y0, yl, yd⟩ := yv_row (W := fun w => ω w (U p)) (nxx := fun w => nx w (U p)) m2 a0 a1 rowD hon hdir
  have ydist := yv_dist (on := on) a0 a1 rowD
  have yA : ∀ i, 0 ≤ i → i < many → jA m pt ph al (yv row many at' on i) (U p) ∧ lfn n left0 (yv row many at' on i) := fun i i0 i1 => yv_in (P := fun w => jA m pt ph al w (U p) ∧ lfn n left0 w) a0 a1 i0 i1 rowA
  rw [ha] at y0
  have yr : yrow (jA m pt ph al) nx ω (U p) (many - 2) (yv row many at' on) := by
    rcases yd with f | f
    · exact Or.inl (fun i i0 i1 => ⟨(f i i0 (by omega)).1, (yA i i0 (by omega)).1, (f i i0 (by omega)).2⟩)
    · exact Or.inr (fun i i0 i1 => ⟨(f i i0 (by omega)).1, (yA (i + 1) (by omega) (by omega)).1, (f i i0 (by omega)).2⟩)
  have yl' : yv row many at' on (many - 2 + 1) = U (p + 1) := by rw [show many - 2 + 1 = many - 1 by omega]; exact yl
  have n3 := hB.2.2.2
  have irr := JJ_irr (al := al) hB.1.1.1
  -- how many are left
  have hxl : left0 (U p) ≠ 0 := (h0.2.2.2.1 p (by omega) (by omega)).2
  have cz1 : cz left n = n - k := by
    have a := czlt (f := left0) (g := left) (n := n) (i := U p) x0.1 x0.2 (fun j j0 _ q => by
      by_cases e : j = U p
      · rw [e] at q; exact absurd q hxl
      · rw [l1 j j0 e]; exact q) l2 hxl
    have b := czset (f := left) (g := left0) (n := n) (x := U p) (by omega) (fun j j0 _ e q => by rw [← l1 j j0 e]; exact q)
    omega
  have hmany : many + cz left n ≤ n := cz_inj (U := row) (by omega) (by omega) (fun t t0 t1 => by
    obtain ⟨ra, rl⟩ := rowA t t0 t1
    have ne : row t ≠ U p := by obtain ⟨e, j⟩ := ra; exact irr _ _ _ j
    exact ⟨rl.1, by rw [l1 _ rl.1.1 ne]; exact rl.2⟩) rowD
  have hupper : upper + cz left0 n ≤ n := cz_inj (U := U) (by omega) (by omega) (fun t t0 t1 => h0.2.2.2.1 t t0 t1) h0.2.2.2.2.1
  -- the line gets no shorter than three while more are left
  have h3 : 3 ≤ k → 3 ≤ upper - 1 + (many - 2) := fun hk3 => Classical.byContradiction (fun z => by
    have eu : upper = 3 := by have := h0.1; omega
    have em : many = 2 := by have := h0.1; omega
    have ep : p = 1 := by omega
    subst eu; subst em; subst ep
    have e0 : yv row 2 at' on 0 = order0 0 := by rw [y0, show (1 : Int) - 1 = 0 by omega]; exact h0.2.1
    have e1 : yv row 2 at' on 1 = order0 1 := by rw [show (1 : Int) = 2 - 1 by omega, yl, show (1 : Int) + 1 = 3 - 1 by omega]; exact h0.2.2.1
    have hu0 := (h0.2.2.2.1 0 (by omega) (by omega)).1
    rw [h0.2.1] at hu0
    have all := can_M hB.1.1.1 hB.2.1 hu0 q1 (ftri_of hB.1.1.1 hB.1.2.2 hB.2.2.1 q3) h0 hw (by
      rcases yd with f | f
      · left
        have := f 0 (by omega) (by omega)
        rw [show (0 : Int) + 1 = 1 by omega, e0, e1] at this; exact this
      · right
        have := f 0 (by omega) (by omega)
        rw [show (0 : Int) + 1 = 1 by omega, e0, e1] at this; exact this)
    have c1 := czset (f := fun z => if z = order0 0 ∨ z = U 1 ∨ z = order0 1 then 0 else left0 z) (g := fun z => if z = U 1 ∨ z = order0 1 then 0 else left0 z) (n := n) (x := order0 0) (by omega) (fun j j0 j1 e q => by
      have q' : (if j = order0 0 ∨ j = U 1 ∨ j = order0 1 then 0 else left0 j) = 0 := q
      show (if j = U 1 ∨ j = order0 1 then 0 else left0 j) = 0
      by_cases w : j = U 1 ∨ j = order0 1
      · rw [if_pos w]
      · rw [if_neg w]; rw [if_neg (fun v => v.elim e w)] at q'; exact q')
    have c2 := czset (f := fun z => if z = U 1 ∨ z = order0 1 then 0 else left0 z) (g := fun z => if z = order0 1 then 0 else left0 z) (n := n) (x := U 1) (by omega) (fun j j0 j1 e q => by
      have q' : (if j = U 1 ∨ j = order0 1 then 0 else left0 j) = 0 := q
      show (if j = order0 1 then 0 else left0 j) = 0
      by_cases w : j = order0 1
      · rw [if_pos w]
      · rw [if_neg w]; rw [if_neg (fun v => v.elim e w)] at q'; exact q')
    have c3 := czset (f := fun z => if z = order0 1 then 0 else left0 z) (g := left0) (n := n) (x := order0 1) (by omega) (fun j j0 j1 e q => by
      have q' : (if j = order0 1 then 0 else left0 j) = 0 := q
      rw [if_neg e] at q'; exact q')
    have c0 : n ≤ cz (fun z => if z = order0 0 ∨ z = U 1 ∨ z = order0 1 then 0 else left0 z) n := by
      have a := czle (f := fun _ => (0 : Int)) (g := fun z => if z = order0 0 ∨ z = U 1 ∨ z = order0 1 then 0 else left0 z) (n := n) (fun j j0 j1 _ => by
        show (if j = order0 0 ∨ j = U 1 ∨ j = order0 1 then 0 else left0 j) = 0
        by_cases w : j = order0 0 ∨ j = U 1 ∨ j = order0 1
        · rw [if_pos w]
        · rw [if_neg w]
          exact Classical.byContradiction (fun v => w (all j ⟨j0, j1⟩ ⟨⟨j0, j1⟩, v⟩)))
      have b : ∀ t : Nat, czN (fun _ => (0 : Int)) t = t := by
        intro t
        induction t with
        | zero => rfl
        | succ t ih =>
          show czN (fun _ => (0 : Int)) t + (if (0 : Int) = 0 then 1 else 0) = ((t + 1 : Nat) : Int)
          rw [ih, if_pos rfl]; omega
      rw [cz_is, b] at a
      omega
    omega)
  -- the new line
  have hstep : 3 ≤ k → cnv0 (order0 0) (order0 1) (upper - 1 + (many - 2)) (nU p (many - 2) U (yv row many at' on)) (lfn n left) (jA m pt ph al) ∧ ∃ ω', cnvw (jA m pt ph al) nx (order0 0) (order0 1) (upper - 1 + (many - 2)) (nU p (many - 2) U (yv row many at' on)) (lfn n left) ω' := fun hk3 => by
    rw [elf]
    exact can_step q1 (ftri_of hB.1.1.1 hB.1.2.2 hB.2.2.1 q3) h0 hw p1 p2 hch (by omega) (h3 hk3) y0 yl' (fun i j i0 ij j1 => ydist i j i0 ij (by omega)) yr
  have hin : ∀ t, 0 ≤ t → t < upper - 3 + many → 0 ≤ nU p (many - 2) U (yv row many at' on) t ∧ nU p (many - 2) U (yv row many at' on) t < n := fun t t0 t1 => by
    by_cases c1 : t < p
    · rw [nU_lt c1]; exact hU.2 t t0 (by omega)
    · by_cases c2 : t < p + (many - 2)
      · rw [nU_mid (by omega) c2]; exact (yA _ (by omega) (by omega)).2.1
      · rw [nU_ge (by omega) (by omega)]; exact hU.2 _ (by omega) (by omega)
  have hlen : upper + many ≤ 27 := by
    by_cases hk3 : 3 ≤ k
    · have c := (hstep hk3).1
      have := rw_len (L := upper - 1 + (many - 2)) (M := n) (by omega) (fun t a b => hin t a (by omega)) c.2.2.2.2.1
      omega
    · omega
  have hord0 : order 0 = order0 0 := o1 0 (by omega) (by omega)
  have hord1 : order 1 = order0 1 := o1 1 (by omega) (by omega)
  refine ⟨⟨m2, a0, a1⟩, ⟨p1, p2, by omega, hlen⟩, fun t t0 t1 => (rowA t t0 t1).2.1, hU.2, fun U' hU' => ⟨fun hk2 => ?_, fun hk2 => ?_⟩⟩
  · have hk3 : 3 ≤ k := by omega
    obtain ⟨s1, ω', s2⟩ := hstep hk3
    have ek : upper - 1 + (many - 2) = upper - 3 + many := by omega
    rw [ek] at s1 s2
    -- the step in the history
    have hstj : STJ m pt ph al (order k) (H k) (len k) U' (upper - 3 + many) := by
      refine ⟨p, many - 2, ⟨p1, by rw [H2]; exact p2, by omega, by rw [H2]; omega⟩, by rw [H1 p (by omega) (by omega)]; exact o2.symm, fun t t0 t1 => ?_, fun t t0 t1 => ?_, fun t t0 t1 => ?_⟩
      · rw [hU' t t0 (by omega), nU_lt t1, H1 t t0 (by omega)]
      · rw [H2] at t1
        rw [hU' _ (by omega) (by omega), nU_ge (by omega) (by omega), H1 t (by omega) t1]
        congr 1; omega
      · rw [hU' t t0 t1, o2]
        by_cases c1 : t < p
        · rw [nU_lt c1]
          by_cases c0 : t = p - 1
          · constructor
            · intro _; omega
            · intro _; rw [c0, ← y0]; exact q1.1.1 _ _ (yA 0 (by omega) (by omega)).1
          · exact ⟨fun w => absurd w (hch t t0 (by omega) (by omega) (by omega) (by omega)), fun w => by omega⟩
        · by_cases c2 : t < p + (many - 2)
          · rw [nU_mid (by omega) c2]
            exact ⟨fun _ => by omega, fun _ => q1.1.1 _ _ (yA _ (by omega) (by omega)).1⟩
          · rw [nU_ge (by omega) (by omega)]
            by_cases c3 : t = p + (many - 2)
            · constructor
              · intro _; omega
              · intro _
                rw [show t - (many - 2) + 1 = p + 1 by omega, ← yl]
                exact q1.1.1 _ _ (yA _ (by omega) (by omega)).1
            · exact ⟨fun w => absurd w (hch _ (by omega) (by omega) (by omega) (by omega) (by omega)), fun w => by omega⟩
    refine ⟨hB, ⟨by omega, by omega⟩, ⟨nx, ρ, ω', q1, q2, q3, by rw [hord0, hord1]; exact cnv0_congr hU' s1, by rw [hord0, hord1]; exact cnvw_congr hU' s2⟩, by omega, fun j => if j = k - 1 then U' else H j, fun j => if j = k - 1 then upper - 3 + many else len j, fun t t0 t1 => by show (if k - 1 = k - 1 then U' else H (k - 1)) t = U' t; rw [if_pos rfl], by show (if k - 1 = k - 1 then upper - 3 + many else len (k - 1)) = upper - 3 + many; rw [if_pos rfl], fun j j0 j1 => ?_⟩
    show STJ m pt ph al (order j) (if j = k - 1 then U' else H j) (if j = k - 1 then upper - 3 + many else len j) (if j - 1 = k - 1 then U' else H (j - 1)) (if j - 1 = k - 1 then upper - 3 + many else len (j - 1)) ∧ (3 ≤ (if j = k - 1 then upper - 3 + many else len j) ∧ (if j = k - 1 then upper - 3 + many else len j) ≤ 24) ∧ ∀ t, 0 ≤ t → t < (if j = k - 1 then upper - 3 + many else len j) → 0 ≤ (if j = k - 1 then U' else H j) t ∧ (if j = k - 1 then U' else H j) t < n
    rw [if_neg (by omega : ¬ j = k - 1), if_neg (by omega : ¬ j = k - 1)]
    by_cases c : j = k
    · rw [if_pos (by omega : j - 1 = k - 1), if_pos (by omega : j - 1 = k - 1), c]
      refine ⟨hstj, by rw [H2]; exact hU.1, fun t t0 t1 => ?_⟩
      rw [H2] at t1
      rw [H1 t t0 t1]; exact hU.2 t t0 t1
    · rw [if_neg (by omega : ¬ j - 1 = k - 1), if_neg (by omega : ¬ j - 1 = k - 1), o1 j (by omega) c]
      exact H3 j (by omega) j1
  · have ek : k = 2 := by omega
    subst ek
    have eu : upper = 3 := by have := hU.1; omega
    subst eu
    have ep : p = 1 := by omega
    subst ep
    refine ⟨n3, H, len, ⟨H2, by rw [H1 0 (by omega) (by omega), hord0]; exact h0.2.1, by rw [H1 1 (by omega) (by omega)]; exact o2.symm, by rw [H1 2 (by omega) (by omega), hord1, show (2 : Int) = 3 - 1 by omega]; exact h0.2.2.1⟩, fun t t0 t1 => by rw [H1 t t0 t1]; exact hU.2 t t0 t1, fun j j0 j1 => ?_⟩
    rw [o1 j (by omega) (by omega)]
    exact H3 j j0 j1
