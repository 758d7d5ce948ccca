/-! canonical: the lines, one behind another -/
/-- the line U' comes out of the line U when x leaves -/
def STJ (m : Int) (pt ph al : Int → Int) (x : Int) (U : Int → Int) (k : Int) (U' : Int → Int) (k' : Int) : Prop := ∃ p M, (1 ≤ p ∧ p + 1 < k ∧ 0 ≤ M ∧ k' = k - 1 + M) ∧ U p = x ∧ (∀ t, 0 ≤ t → t < p → U' t = U t) ∧ (∀ t, p < t → t < k → U' (t - 1 + M) = U t) ∧ ∀ t, 0 ≤ t → t < k' → (jA m pt ph al x (U' t) ↔ p - 1 ≤ t ∧ t ≤ p + M)
def HIS (n m : Int) (pt ph al order : Int → Int) (H : Int → Int → Int) (len : Int → Int) (k : Int) : Prop := ∀ j, k < j → j < n → STJ m pt ph al (order j) (H j) (len j) (H (j - 1)) (len (j - 1)) ∧ (3 ≤ len j ∧ len j ≤ 24) ∧ ∀ t, 0 ≤ t → t < len j → 0 ≤ H j t ∧ H j t < n
def CNS (n m upper : Int) (pt ph al rm rot left U order : Int → Int) (k : Int) : Prop := CNB n m pt ph al rm rot ∧ (2 ≤ k ∧ k < n) ∧ (∃ nx ρ ω, mp (jA m pt ph al) nx ∧ pls (jA m pt ph al) nx ρ ∧ foll n pt ph rm rot nx ∧ cnv0 (order 0) (order 1) upper U (lfn n left) (jA m pt ph al) ∧ cnvw (jA m pt ph al) nx (order 0) (order 1) upper U (lfn n left) ω) ∧ cz left n = n - 1 - k ∧ ∃ H len, (∀ t, 0 ≤ t → t < upper → H k t = U t) ∧ len k = upper ∧ HIS n m pt ph al order H len k
def CNH (n m : Int) (pt ph al order : Int → Int) : Prop := (3 ≤ n ∧ n ≤ 24) ∧ ∃ H len, (len 2 = 3 ∧ H 2 0 = order 0 ∧ H 2 1 = order 2 ∧ H 2 2 = order 1) ∧ (∀ t, 0 ≤ t → t < 3 → 0 ≤ H 2 t ∧ H 2 t < n) ∧ HIS n m pt ph al order H len 2
def CNX (n m upper : Int) (pt ph al rm rot left U order : Int → Int) (k : Int) : Prop := (2 ≤ k → CNS n m upper pt ph al rm rot left U order k) ∧ (k < 2 → CNH n m pt ph al order)
theorem cns_line {n m upper k : Int} {pt ph al rm rot left U order : Int → Int} (h : CNS n m upper pt ph al rm rot left U order k) : (3 ≤ upper ∧ upper ≤ 24) ∧ ∀ t, 0 ≤ t → t < upper → 0 ≤ U t ∧ U t < n := by
  obtain ⟨hb, _, ⟨nx, ρ, ω, _, _, _, h0, _⟩, _⟩ := h
  have r : ∀ t, 0 ≤ t → t < upper → 0 ≤ U t ∧ U t < n := fun t a b => (h0.2.2.2.1 t a b).1
  have := rw_len (L := upper) (M := n) (by have := hb.2.2.2; omega) r h0.2.2.2.2.1
  exact ⟨⟨h0.1, by have := hb.2.2.2; omega⟩, r⟩
/-- one may leave -/
theorem cns_ex {n m upper k : Int} {pt ph al rm rot left U order : Int → Int} (h : CNS n m upper pt ph al rm rot left U order k) : ∃ p, 1 ≤ p ∧ p + 1 < upper ∧ ∀ q, 0 ≤ q → q < upper → q ≠ p → q ≠ p - 1 → q ≠ p + 1 → ¬ jA m pt ph al (U p) (U q) := by
  obtain ⟨_, _, ⟨nx, ρ, ω, h1, h2, _, h3, h4⟩, _⟩ := h
  exact can_ex h1 h2 h3 h4
theorem czset {f g : Int → Int} {n x : Int} (hn : 0 ≤ n) (h : ∀ j, 0 ≤ j → j < n → j ≠ x → (f j = 0 → g j = 0)) : cz f n ≤ cz g n + 1 := by
  have key : ∀ t : Nat, (∀ j : Int, 0 ≤ j → j < t → j ≠ x → (f j = 0 → g j = 0)) → czN f t ≤ czN g t + (if 0 ≤ x ∧ x < (t : Int) then 1 else 0) := by
    intro t
    induction t with
    | zero => intro _; show (0 : Int) ≤ 0 + (if 0 ≤ x ∧ x < ((0 : Nat) : Int) then 1 else 0); split <;> omega
    | succ t ih =>
      intro hh
      have a := ih (fun j a b => hh j a (by omega))
      show czN f t + (if f (t : Int) = 0 then 1 else 0) ≤ czN g t + (if g (t : Int) = 0 then 1 else 0) + (if 0 ≤ x ∧ x < ((t + 1 : Nat) : Int) then 1 else 0)
      by_cases q : (t : Int) = x
      · rw [if_pos (by omega : 0 ≤ x ∧ x < ((t + 1 : Nat) : Int))]
        rw [if_neg (by omega : ¬ (0 ≤ x ∧ x < (t : Int)))] at a
        split <;> split <;> omega
      · have b := hh (t : Int) (by omega) (by omega) q
        by_cases z : f (t : Int) = 0
        · rw [if_pos z, if_pos (b z)]
          split at a <;> split <;> omega
        · rw [if_neg z]
          split at a <;> split <;> split <;> omega
  have := key n.toNat (fun j a b => h j a (by omega))
  rw [cz_is, cz_is]
  split at this <;> omega
/-- who is left, is no more than three where x has none inside and the line is of three -/
theorem can_M {n m : Int} {pt ph al U : Int → Int} {nx : Int → Int → Int} {u v : Int} {lf : Int → Prop} {ω : Int → Int → Bool} (hg : GOK n m pt ph) (hc : CON n m pt ph al) (hu0 : 0 ≤ u ∧ u < n) (hm : mp (jA m pt ph al) nx) (ht : ftri (jA m pt ph al) nx) (h0 : cnv0 u v 3 U lf (jA m pt ph al)) (hw : cnvw (jA m pt ph al) nx u v 3 U lf ω) (hy : (nx u (U 1) = v ∧ ω u (U 1) = false) ∨ (nx v (U 1) = u ∧ ω v (U 1) = false)) (z : Int) (hz0 : 0 ≤ z ∧ z < n) (hz : lf z) : z = u ∨ z = U 1 ∨ z = v := by
  have hw' := hw
  obtain ⟨w0, w1, w2, w3, w4, w5⟩ := hw
  have h0' := h0
  obtain ⟨_, eu, ev, hl, hd, hadj, huv⟩ := h0
  have ev' : U 2 = v := by rw [show (2 : Int) = 3 - 1 by omega]; exact ev
  have sy := hm.1.1
  have nuv : u ≠ v := hm.1.2 _ _ huv
  have nux : u ≠ U 1 := fun e => hd 0 1 (by omega) (by omega) (by omega) (by rw [eu]; exact e)
  have nvx : v ≠ U 1 := fun e => hd 1 2 (by omega) (by omega) (by omega) (by rw [ev']; exact e.symm)
  have aux : jA m pt ph al u (U 1) := by have := hadj 0 (by omega) (by omega); rw [eu] at this; exact this
  have axv : jA m pt ph al (U 1) v := by have := hadj 1 (by omega) (by omega); rw [show (1 : Int) + 1 = 2 by omega, ev'] at this; exact this
  have lamd : ∀ a b, Lam u v 3 U a b ↔ ((a = u ∧ b = U 1) ∨ (b = u ∧ a = U 1)) ∨ ((a = U 1 ∧ b = v) ∨ (b = U 1 ∧ a = v)) ∨ ((a = u ∧ b = v) ∨ (a = v ∧ b = u)) := fun a b => by
    constructor
    · rintro (⟨j, j0, j1, hj⟩ | q)
      · rcases (by omega : j = 0 ∨ j = 1) with e | e
        · subst e; rw [eu, show (0 : Int) + 1 = 1 by omega] at hj; exact Or.inl hj
        · subst e; rw [show (1 : Int) + 1 = 2 by omega, ev'] at hj; exact Or.inr (Or.inl hj)
      · exact Or.inr (Or.inr q)
    · rintro (q | q | q)
      · exact Or.inl ⟨0, by omega, by omega, by rw [eu, show (0 : Int) + 1 = 1 by omega]; exact q⟩
      · exact Or.inl ⟨1, by omega, by omega, by rw [show (1 : Int) + 1 = 2 by omega, ev']; exact q⟩
      · exact Or.inr q
  -- a triangle inside: s0 s1 s2 in its order, all three sides on the line
  have tri : ∃ s0 s1 s2, (∀ q, (q = s0 ∨ q = s1 ∨ q = s2) ↔ (q = u ∨ q = U 1 ∨ q = v)) ∧ s0 ≠ s1 ∧ s1 ≠ s2 ∧ s2 ≠ s0 ∧ jA m pt ph al s0 s1 ∧ jA m pt ph al s1 s2 ∧ jA m pt ph al s2 s0 ∧ nx s0 s1 = s2 ∧ nx s1 s2 = s0 ∧ nx s2 s0 = s1 ∧ ω s0 s1 = false ∧ ω s1 s2 = false ∧ ω s2 s0 = false := by
    have mk : ∀ a b c, jA m pt ph al a b → nx a b = c → ω a b = false → nx b c = a ∧ nx c a = b ∧ ω b c = false ∧ ω c a = false ∧ jA m pt ph al b c ∧ jA m pt ph al c a := fun a b c hab e1 e2 => by
      have t1 := ht a b hab
      rw [e1] at t1
      have hbc : jA m pt ph al b c := by have := hm.2.1 a b hab; rw [e1] at this; exact this
      have t2 := ht b c hbc
      rw [t1] at t2
      have hca : jA m pt ph al c a := by have := hm.2.1 b c hbc; rw [t1] at this; exact this
      have f1 := w0 a b hab
      rw [e1, e2] at f1
      have f2 := w0 b c hbc
      rw [t1, f1] at f2
      exact ⟨t1, t2, f1, f2, hbc, hca⟩
    rcases hy with ⟨y1, y2⟩ | ⟨y1, y2⟩
    · obtain ⟨a1, a2, a3, a4, a5, a6⟩ := mk u (U 1) v aux y1 y2
      exact ⟨u, U 1, v, fun q => Iff.rfl, nux, fun e => nvx e.symm, fun e => nuv e.symm, aux, a5, a6, y1, a1, a2, y2, a3, a4⟩
    · obtain ⟨a1, a2, a3, a4, a5, a6⟩ := mk v (U 1) u (sy _ _ axv) y1 y2
      exact ⟨v, U 1, u, fun q => ⟨fun w => by rcases w with w | w | w; exact Or.inr (Or.inr w); exact Or.inr (Or.inl w); exact Or.inl w, fun w => by rcases w with w | w | w; exact Or.inr (Or.inr w); exact Or.inr (Or.inl w); exact Or.inl w⟩, nvx, fun e => nux e.symm, nuv, sy _ _ axv, a5, a6, y1, a1, a2, y2, a3, a4⟩
  obtain ⟨s0, s1, s2, hq, n01, n12, n20, A01, A12, A20, x1, x2, x3, o1, o2, o3⟩ := tri
  have lamS : ∀ a b, Lam u v 3 U a b → (a = u ∨ a = U 1 ∨ a = v) ∧ (b = u ∨ b = U 1 ∨ b = v) := fun a b h => by
    rcases (lamd a b).1 h with (⟨q, r⟩ | ⟨q, r⟩) | (⟨q, r⟩ | ⟨q, r⟩) | (⟨q, r⟩ | ⟨q, r⟩) <;> subst q <;> subst r <;> simp
  have lamA : ∀ a b, (a = s0 ∨ a = s1 ∨ a = s2) → (b = s0 ∨ b = s1 ∨ b = s2) → a ≠ b → Lam u v 3 U a b := fun a b ha hb hne => by
    rw [hq] at ha hb
    rw [lamd]
    rcases ha with ha | ha | ha <;> rcases hb with hb | hb | hb <;> subst ha <;> subst hb <;> simp_all
  -- around each of the three only one comes in from inside
  have one : ∀ a b c, (a = s0 ∨ a = s1 ∨ a = s2) → (b = s0 ∨ b = s1 ∨ b = s2) → (c = s0 ∨ c = s1 ∨ c = s2) → a ≠ b → b ≠ c → c ≠ a → jA m pt ph al a b → jA m pt ph al c b → nx a b = c → ω a b = false → ∀ w, jA m pt ph al w b → ω w b = false → w = a := fun a b c ha hb hc nab nbc nca Aab Acb e1 e2 w Aw hw' => by
    have fa := w_next hm w0 w1 Aab
    rw [e1, e2, pb_t (lamA c b hc hb (fun e => nbc e.symm))] at fa
    have fa' : ω c b = true := fa
    have cl := hm.2.2.2 b (fun q => ω q b = true ∨ q = a) (fun q Aq hq' => by
      have f := w_next hm w0 w1 Aq
      rcases hq' with y | y
      · by_cases e : nx q b = a
        · exact Or.inr e
        · rcases bdi (pb (Lam u v 3 U (nx q b) b)) with g | g
          · rw [y, g] at f; exact Or.inl f
          · exfalso
            have := (lamS _ _ (pb_i g)).1
            rw [← hq] at this
            have hne : nx q b ≠ b := (hm.1.2 _ _ (hm.2.1 _ _ Aq)).symm
            have hcc : nx q b = c := by
              rcases ha with ha | ha | ha <;> rcases hb with hb | hb | hb <;> rcases hc with hc | hc | hc <;> subst ha <;> subst hb <;> subst hc <;> simp_all
            have := hm.2.2.1 q a b Aq Aab (hcc.trans e1.symm)
            rw [this, e2] at y; exact absurd y (by decide)
      · rw [y, e1]; exact Or.inl fa') a w Aab Aw (Or.inr rfl)
    rcases cl with y | y
    · rw [hw'] at y; exact absurd y (by decide)
    · exact y
  -- so nobody else is joined with them from inside
  have out : ∀ a b, jA m pt ph al a b → (b = u ∨ b = U 1 ∨ b = v) → lf a → (a = u ∨ a = U 1 ∨ a = v) := fun a b hab hb ha => by
    rcases bdi (ω a b) with g | g
    · rw [← hq] at hb ⊢
      rcases hb with hb | hb | hb
      · subst hb; exact Or.inr (Or.inr (one s2 b s1 (Or.inr (Or.inr rfl)) (Or.inl rfl) (Or.inr (Or.inl rfl)) n20 n01 n12 A20 (sy _ _ A01) x3 o3 a hab g))
      · subst hb; exact Or.inl (one s0 b s2 (Or.inl rfl) (Or.inr (Or.inl rfl)) (Or.inr (Or.inr rfl)) n01 n12 n20 A01 (sy _ _ A12) x1 o1 a hab g)
      · subst hb; exact Or.inr (Or.inl (one s1 b s0 (Or.inr (Or.inl rfl)) (Or.inr (Or.inr rfl)) (Or.inl rfl) n12 n20 n01 A12 (sy _ _ A20) x2 o2 a hab g))
    · have lb : lf b := by
        rcases hb with e | e | e
        · rw [e, ← eu]; exact hl 0 (by omega) (by omega)
        · rw [e]; exact hl 1 (by omega) (by omega)
        · rw [e, ← ev']; exact hl 2 (by omega) (by omega)
      exact (lamS _ _ (w5 a b hab ha lb g)).1
  -- a way from u to z, over nodes that are left
  have r := hc u hu0.1 hu0.2
  have r2 := rc_trans (rc_symm sy r) (hc z hz0.1 hz0.2)
  have cl := r2 (fun q => ¬ lf q ∨ (q = u ∨ q = U 1 ∨ q = v)) (fun a b hab hq' => by
    by_cases lb : lf b
    · right
      rcases hq' with na | sa
      · obtain ⟨j, j0, j1, e⟩ := w3 a b hab na lb
        rcases (by omega : j = 0 ∨ j = 1 ∨ j = 2) with q | q | q <;> subst q
        · left; rw [e, eu]
        · right; left; exact e
        · right; right; rw [e, ev']
      · exact out b a (sy _ _ hab) sa lb
    · exact Or.inl lb) (Or.inr (Or.inl rfl))
  rcases cl with q | q
  · exact absurd hz q
  · exact q
