/-! the house's own steps -/
section HI6
variable {w : va_W} {H arr x vg : Value}
theorem pO_of {f : Nat} (h9 : arr = w_fd w (v_ad H) f) (h14 : ((v_ad x : Nat) : Int) = w_el w (v_ad arr) (v_iv vg).toNat) : v_ad x = pO w H f (v_iv vg).toNat := by
  show v_ad x = (w_el w (v_ad (w_fd w (v_ad H) f)) (v_iv vg).toNat).toNat
  rw [← h9, ← h14]; exact (Int.toNat_natCast _).symm
theorem wq_in {k : Nat} {g : Value} {ls : List Value} (h : WQF 0 [H] w) (a : 0 ≤ v_iv g) (b : v_iv g < 4) (h8 : k / 8 % 2 = 0 ∧ k / 32 % 2 = 0) (hl : WL w H (v_iv g).toNat (k / 64) ls) : WQF k (H :: g :: ls) w := by
  have hI : HI w H := h
  have hg : (v_iv g).toNat < 4 := by omega
  have hp := hI.2 _ hg (by omega)
  exact ⟨a, b, HI_X hI, fun _ => hp.1, fun _ => hp.2.1, fun _ => hp.2.2, fun q => by omega, fun _ => ⟨fun _ _ => hI, fun q => by omega⟩, hl⟩
theorem wq_all {g : Value} (h : WQF 7 [H, g] w) : WQF 0 [H] w := by
  obtain ⟨_, _, c, d, e, f, _⟩ := h
  exact HX_I c ⟨d (by decide), e (by decide), f (by decide)⟩
theorem WQF_int {k : Nat} {g g' : Value} {ls : List Value} (h : WQF k (H :: g :: ls) w) (e : v_iv g' = v_iv g) : WQF k (H :: g' :: ls) w := by
  obtain ⟨a, b, c, d, f, i, j, l, m⟩ := h
  refine ⟨by rw [e]; exact a, by rw [e]; exact b, by rw [e]; exact c, by rw [e]; exact d, by rw [e]; exact f, by rw [e]; exact i, by rw [e]; exact j, by rw [e]; exact l, by rw [e]; exact m⟩
/-- one field of a thing of this place is set -/
theorem put_ot {w0 w1 : va_W} {g o k fo : Nat} {v : Value} (hA : HA w0 H) (hg : g < 4) (hfo : fo < 3) (ho : o = pO w0 H fo g) (hH : v_ad H ≠ o) (hne : ∀ f, f < 3 → f ≠ fo → ∀ j, j < 4 → pO w0 H f j ≠ o) (s : (∀ b j, w_el w1 b j = w_el w0 b j) ∧ ∀ b j, w_fd w1 b j = if b = o ∧ j = k then v else w_fd w0 b j) : hd_eq H w0 w1 ∧ ∀ f, f < 3 → ∀ j, j < 4 → (j ≠ g ∨ f ≠ fo) → ob_eq (pF f) (pA f) (pO w0 H f j) w0 w1 := by
  refine ⟨fun f _ => ⟨by rw [s.2, if_neg (fun e => hH e.1)], fun j _ => s.1 _ _⟩, fun f hf j hj c => ⟨fun k' _ => ?_, fun _ _ _ _ i => s.1 _ _⟩⟩
  rw [s.2, if_neg]
  intro e
  by_cases cf : f = fo
  · subst cf
    rcases c with c | c
    · exact (hA f hf j g hj hg c).1 (by rw [e.1, ho])
    · exact c rfl
  · exact hne f hf cf j hj e.1
/-- a field that tells no array: the places still lie apart -/
theorem put_HA {w0 w1 : va_W} {g o k fo : Nat} {v : Value} (hA : HA w0 H) (hg : g < 4) (hfo : fo < 3) (ho : o = pO w0 H fo g) (hH : v_ad H ≠ o) (hne : ∀ f, f < 3 → f ≠ fo → ∀ j, j < 4 → pO w0 H f j ≠ o) (hk : k ∉ pA fo) (s : (∀ b j, w_el w1 b j = w_el w0 b j) ∧ ∀ b j, w_fd w1 b j = if b = o ∧ j = k then v else w_fd w0 b j) : HA w1 H := by
  obtain ⟨h1, h2⟩ := put_ot hA hg hfo ho hH hne s
  intro f hf i j hi hj hij
  rw [pO_eq h1 hf hi, pO_eq h1 hf hj]
  obtain ⟨q1, q2⟩ := hA f hf i j hi hj hij
  have same : ∀ i, i < 4 → ∀ k' ∈ pA f, w_fd w1 (pO w0 H f i) k' = w_fd w0 (pO w0 H f i) k' := fun i hi k' hk' => by
    rw [s.2, if_neg]
    intro e
    by_cases cf : f = fo
    · subst cf; exact hk (e.2 ▸ hk')
    · exact hne f hf cf i hi e.1
  refine ⟨q1, fun k' hk' d d' a b => ?_⟩
  rw [same i hi k' hk'] at a
  rw [same j hj k' hk'] at b
  exact q2 k' hk' d d' a b
theorem put_HX {w0 w1 : va_W} {g o k fo : Nat} {v : Value} (hX : HX w0 H g) (hg : g < 4) (hfo : fo < 3) (ho : o = pO w0 H fo g) (hH : v_ad H ≠ o) (hne : ∀ f, f < 3 → f ≠ fo → ∀ j, j < 4 → pO w0 H f j ≠ o) (hk : k ∉ pA fo) (s : (∀ b j, w_el w1 b j = w_el w0 b j) ∧ ∀ b j, w_fd w1 b j = if b = o ∧ j = k then v else w_fd w0 b j) : HX w1 H g := by
  obtain ⟨h1, h2⟩ := put_ot hX.1 hg hfo ho hH hne s
  exact ⟨put_HA hX.1 hg hfo ho hH hne hk s, fun j hj hjg => HP_eq ⟨h1, fun f hf j hj c => h2 f hf j hj (Or.inl c)⟩ hj hjg (hX.2 j hj hjg)⟩
end HI6
/-- things of different kinds are different -/
theorem ty_ne {kA : Nat → ClassId} {G : List rg_T} {A : Nat → Prop} {ta : Nat → Option Nat} {w : va_W} {H : Value} {o fo : Nat} (hD : va_D A w) (hth : th_ok kA G ta w) (hc : hs_chk G = true) (hH : ta (v_ad H) = some rH) (hfo : fo < 3) (ho : ta o = some (rX fo)) : v_ad H ≠ o ∧ ∀ f, f < 3 → f ≠ fo → ∀ j, j < 4 → pO w H f j ≠ o := by
  refine ⟨fun e => ?_, fun f hf hne j hj e => ?_⟩
  · rw [e, ho] at hH
    have := Option.some.inj hH
    match fo, hfo with
    | 0, _ => exact absurd this (by decide)
    | 1, _ => exact absurd this (by decide)
    | 2, _ => exact absurd this (by decide)
  · obtain ⟨_, _, _, _, _, _, h5⟩ := pO_ty hD hth hc hH hf
    have := h5 j hj
    rw [e, ho] at this
    exact hne (rX_inj hfo hf (Option.some.inj this)).symm
/-- facts are forgotten -/
theorem wq_known {kA : Nat → ClassId} {G : List rg_T} {A : Nat → Prop} {ta : Nat → Option Nat} {w0 w1 : va_W} {H arr x vg v : Value} (hD : va_D A w1) (hth : th_ok kA G ta w1) (hc : hs_chk G = true) (hH : ta (v_ad H) = some rH) (hx : ta (v_ad x) = some (rX 1)) (h : WQF 1 [H, vg] w0) (h9 : arr = w_fd w0 (v_ad H) 1) (h14 : ((v_ad x : Nat) : Int) = w_el w0 (v_ad arr) (v_iv vg).toNat) (hv : v_iv v = 0) (s : (∀ b j, w_el w1 b j = w_el w0 b j) ∧ ∀ b j, w_fd w1 b j = if b = v_ad x ∧ j = 0 then v else w_fd w0 b j) : WQF 9 [H, vg] w1 := by
  obtain ⟨a, b, c, d, _⟩ := h
  have hg : (v_iv vg).toNat < 4 := by omega
  have ho := pO_of h9 h14
  obtain ⟨n1, n2⟩ := ty_ne hD hth hc hH (fo := 1) (by omega) hx
  have hd : hd_eq H w0 w1 := fun f _ => ⟨by rw [s.2, if_neg (fun e => n1 e.1)], fun j _ => s.1 _ _⟩
  have n2' : ∀ f, f < 3 → f ≠ 1 → ∀ j, j < 4 → pO w0 H f j ≠ v_ad x := fun f hf hn j hj => by rw [← pO_eq hd hf hj]; exact n2 f hf hn j hj
  obtain ⟨p1, p2⟩ := put_ot c.1 hg (by omega) ho n1 n2' s
  refine ⟨a, b, put_HX c hg (by omega) ho n1 n2' (by decide) s, fun _ => ?_, fun q => absurd q (by decide), fun q => absurd q (by decide), fun _ => ?_, fun q => absurd q (by decide), trivial⟩
  · rw [pO_eq p1 (by omega) hg]
    exact HG_eq (p2 0 (by omega) _ hg (Or.inr (by decide))) (d (by decide))
  · rw [pO_eq p1 (by omega) hg, ← ho]
    show v_iv (w_fd w1 (v_ad x) 0) = 0
    rw [s.2, if_pos ⟨rfl, rfl⟩]; exact hv
theorem wq_link {w : va_W} {H g : Value} {k : Nat} {ls : List Value} {k' : Nat} (h : WQF k [H, g] w) (hk : k' % 64 = k % 64 ∧ k < 64 ∧ k' / 16 % 2 = 0) (hl : WL w H (v_iv g).toNat (k' / 64) ls) : WQF k' (H :: g :: ls) w := by
  obtain ⟨a, b, c, d, e, f, x, _, _⟩ := h
  obtain ⟨h1, h2, h3⟩ := hk
  exact ⟨a, b, c, fun q => d (by omega), fun q => e (by omega), fun q => f (by omega), fun q => x (by omega), fun q => absurd q (by omega), hl⟩
theorem ob_trans {fs as : List Nat} {o : Nat} {w0 w1 w2 : va_W} (hs : ∀ k ∈ as, k ∈ fs) (h1 : ob_eq fs as o w0 w1) (h2 : ob_eq fs as o w1 w2) : ob_eq fs as o w0 w2 :=
  ⟨fun k hk => by rw [h2.1 k hk, h1.1 k hk], fun k hk d hd i => by rw [h2.2 k hk d (by rw [h1.1 k (hs k hk)]; exact hd) i, h1.2 k hk d hd i]⟩
/-- what a contract may not write stays -/
theorem kp_ob {kA : Nat → ClassId} {G : List rg_T} {mo : mo_T} {ta : Nat → Option Nat} {w0 w1 : va_W} (hD0 : va_D (fun _ => True) w0) (hD1 : va_D (fun _ => True) w1) (hth : th_ok kA G ta w0) (hkp : kp mo ta w0 w1) {o r : Nat} {g : rg_T} {fs as : List Nat} (ho : ta o = some r) (hg : G[r]? = some g) (h10 : 10 ≤ g.1) (h1 : ∀ k ∈ fs, (r, k) ∉ mo.2.1) (h3 : ∀ k ∈ as, ∀ t, g.2.2.2.2[k]? = some t → ∀ rd ∈ tv_refs t, mo.1.testBit rd = false ∧ ∃ gd, G[rd]? = some gd ∧ gd.1 < 10) : ob_eq fs as o w0 w1 := by
  obtain ⟨e, he, hr⟩ := th_in hth ho hg
  rcases hr with ⟨z, _⟩ | ⟨z, _⟩ | ⟨_, z, _⟩ | ⟨_, fs0, rfl, _, _⟩
  · omega
  · omega
  · omega
  · obtain ⟨fs1, m1, e1⟩ := hkp.1 o (g.1 - 10) fs0 he
    refine ⟨fun k hk => ?_, fun k hk d hd i => ?_⟩
    · unfold w_fd
      rw [w_at_mem hD0 he, w_at_mem hD1 m1]
      simp only
      rw [List.getD_eq_getElem?_getD, List.getD_eq_getElem?_getD, e1 r k ho (h1 k hk)]
    · obtain ⟨t, rd, t1, t2, t3⟩ := fd_ref hD0 hth ho hg h10 hd
      obtain ⟨b1, gd, b2, b3⟩ := h3 k hk t t1 rd t3
      obtain ⟨e2, m2, r2⟩ := th_in hth t2 b2
      have : ∃ x, e2 = .inl x := by
        rcases r2 with ⟨_, n, f, z, _⟩ | ⟨_, n, f, z, _⟩ | ⟨_, _, n, f, z, _⟩ | ⟨z, _⟩
        · exact ⟨_, z⟩
        · exact ⟨_, z⟩
        · exact ⟨_, z⟩
        · omega
      obtain ⟨x, rfl⟩ := this
      have m3 := hkp.2 d rd x t2 b1 m2
      unfold w_el
      rw [w_at_mem hD0 m2, w_at_mem hD1 m3]
def kp_chk (G : List rg_T) (mo : mo_T) (r : Nat) (fs as : List Nat) : Bool := match G[r]? with
  | some g => decide (10 ≤ g.1) && fs.all (fun k => !(mo.2.1.contains (r, k))) && as.all (fun k => match g.2.2.2.2[k]? with | some t => (tv_refs t).all (fun rd => !(mo.1.testBit rd) && (match G[rd]? with | some gd => decide (gd.1 < 10) | none => false)) | none => true)
  | none => false
theorem kp_obC {kA : Nat → ClassId} {G : List rg_T} {mo : mo_T} {ta : Nat → Option Nat} {w0 w1 : va_W} (hD0 : va_D (fun _ => True) w0) (hD1 : va_D (fun _ => True) w1) (hth : th_ok kA G ta w0) (hkp : kp mo ta w0 w1) {o r : Nat} {fs as : List Nat} (ho : ta o = some r) (hc : kp_chk G mo r fs as = true) : ob_eq fs as o w0 w1 := by
  unfold kp_chk at hc
  split at hc
  · rename_i g hg
    simp only [Bool.and_eq_true, decide_eq_true_eq] at hc
    refine kp_ob hD0 hD1 hth hkp ho hg hc.1.1 (fun k hk hm => ?_) (fun k hk t ht rd hrd => ?_)
    · have := List.all_eq_true.mp hc.1.2 k hk
      rw [Bool.not_eq_true'] at this
      rw [List.contains_iff_mem.mpr hm] at this; cases this
    · have h := List.all_eq_true.mp hc.2 k hk
      rw [ht] at h
      have h2 := List.all_eq_true.mp h rd hrd
      rw [Bool.and_eq_true, Bool.not_eq_true'] at h2
      refine ⟨h2.1, ?_⟩
      have h3 := h2.2
      split at h3
      · rename_i gd hgd; exact ⟨gd, hgd, by simpa using h3⟩
      · cases h3
  · cases hc
/-- a fact about things of the part holds behind the call too -/
theorem tk_join {PQ : pq_T} {P : Nat → Bool} {ws u : va_W} {f : fc_T} {vs : List Value} {q : List (Nat × Nat) × List (Nat × Nat)} (hDj : va_D (fun _ => True) (w_out P ws ++ u)) (hu : tk_use f = some q) (hrs : tk_rs f = []) (h1 : ∀ z ∈ q.1, ∃ e, (n_ad vs z.1, e) ∈ u) (h2 : ∀ z ∈ q.2, (∃ e, (n_ad vs z.1, e) ∈ u) ∧ ∃ e, (w_ar u (n_v vs z.1) z.2, e) ∈ u) (hf : fc_1 PQ f u vs) : fc_1 PQ f (w_out P ws ++ u) vs :=
  (tk_frame hu (fun z hz => by obtain ⟨e, he⟩ := h1 z hz; exact at_fd (w_at_part (vd_right hDj) hDj he)) (fun z hz => by
    obtain ⟨⟨e, he⟩, e2, he2⟩ := h2 z hz
    exact ⟨by show v_ad (w_fd (w_out P ws ++ u) (n_ad vs z.1) z.2) = v_ad (w_fd u (n_ad vs z.1) z.2); rw [at_fd (w_at_part (vd_right hDj) hDj he)], fun j => at_el (w_at_part (vd_right hDj) hDj he2)⟩) (fun z hz => by rw [hrs] at hz; cases hz) hf).2
/-- a field of a thing that is of no place is set -/
theorem wq_put {kA : Nat → ClassId} {G : List rg_T} {A : Nat → Prop} {ta : Nat → Option Nat} {w0 w1 : va_W} {H x v : Value} {k r kk : Nat} {xs : List Value} (hD : va_D A w1) (hth : th_ok kA G ta w1) (hc : hs_chk G = true) (hH : ta (v_ad H) = some rH) (hx : ta (v_ad x) = some r) (h1 : r ≠ rH ∧ ∀ f, f < 3 → r ≠ rX f) (s : (∀ b j, w_el w1 b j = w_el w0 b j) ∧ ∀ b j, w_fd w1 b j = if b = v_ad x ∧ j = k then v else w_fd w0 b j) (h : WQF kk (H :: xs) w0) : WQF kk (H :: xs) w1 := by
  have nH : v_ad H ≠ v_ad x := fun e => by rw [e, hx] at hH; exact h1.1 (Option.some.inj hH)
  have hd : hd_eq H w0 w1 := fun f _ => ⟨by rw [s.2, if_neg (fun e => nH e.1)], fun j _ => s.1 _ _⟩
  have hq : ∀ q ∈ fpH, q.1 < 3 ∧ q.2.1 = 4 := by decide
  refine WQF_eq kk H xs w0 w1 (fun q hm => ?_) h
  obtain ⟨q1, q2⟩ := hq q hm
  refine ⟨by rw [s.2, if_neg (fun e => nH e.1)], fun j _ => s.1 _ _, fun j hj => ⟨fun k' _ => ?_, fun k' _ d _ i => s.1 _ _⟩⟩
  rw [s.2, if_neg]
  intro e
  obtain ⟨_, _, _, _, _, _, h5⟩ := pO_ty hD hth hc hH q1
  have h6 := h5 j (by omega)
  rw [pO_eq hd q1 (by omega)] at h6
  have e1 : pO w0 H q.1 j = v_ad x := e.1
  rw [e1, hx] at h6
  exact h1.2 q.1 q1 (Option.some.inj h6)
/-- facts and net of a place, as calls see them -/
def FT (w : va_W) (x f m : Value) : Prop := HFN (w_fi w x 0) (w_fi w x 1) (w_fi w f 0) (w_fi w f 1) (w_fi w f 2) (w_fi w m 0) (w_fi w m 3) (w_fi w m 5) (w_fi w m 6) (w_ei w (w_ar w x 14)) (w_ei w (w_ar w x 7)) (w_ei w (w_ar w x 8)) (w_ei w (w_ar w f 4)) (w_ei w (w_ar w f 9)) (w_ei w (w_ar w m 9)) (w_ei w (w_ar w m 12)) (w_ei w (w_ar w m 16))
theorem FT_of {w : va_W} {x f m : Value} (hF : HF w (v_ad x) (v_ad f)) (hN : HN w (v_ad x) (v_ad m)) : FT w x f m := by
  refine ⟨?_, hN.1, fun q => ?_⟩
  · rcases hF with q | ⟨n, p, t, h, u, a1, a2, a3, a4, a5, b1, b2, b3, b4⟩
    · exact Or.inl q
    · refine Or.inr ?_
      rw [show w_ar w x 14 = n by show v_ad (w_fd w (v_ad x) 14) = n; rw [a1]; rfl, show w_ar w f 4 = p by show v_ad (w_fd w (v_ad f) 4) = p; rw [a2]; rfl, show w_ar w x 7 = t by show v_ad (w_fd w (v_ad x) 7) = t; rw [a3]; rfl, show w_ar w x 8 = h by show v_ad (w_fd w (v_ad x) 8) = h; rw [a4]; rfl, show w_ar w f 9 = u by show v_ad (w_fd w (v_ad f) 9) = u; rw [a5]; rfl]
      exact ⟨b1, b2, b3, b4⟩
  · obtain ⟨r, s, y, a1, a2, a3, b1, b2, b3, b4⟩ := hN.2 q
    rw [show w_ar w m 9 = r by show v_ad (w_fd w (v_ad m) 9) = r; rw [a1]; rfl, show w_ar w m 12 = s by show v_ad (w_fd w (v_ad m) 12) = s; rw [a2]; rfl, show w_ar w m 16 = y by show v_ad (w_fd w (v_ad m) 16) = y; rw [a3]; rfl]
    exact ⟨b1, b2, b3, b4⟩
theorem of_FT {w : va_W} {x f m : Value} {n p t h u r s y : Nat} (q : FT w x f m) (a1 : w_fd w (v_ad x) 14 = .ref n) (a2 : w_fd w (v_ad f) 4 = .ref p) (a3 : w_fd w (v_ad x) 7 = .ref t) (a4 : w_fd w (v_ad x) 8 = .ref h) (a5 : w_fd w (v_ad f) 9 = .ref u) (c1 : w_fd w (v_ad m) 9 = .ref r) (c2 : w_fd w (v_ad m) 12 = .ref s) (c3 : w_fd w (v_ad m) 16 = .ref y) : HF w (v_ad x) (v_ad f) ∧ HN w (v_ad x) (v_ad m) := by
  unfold FT at q
  rw [show w_ar w x 14 = n by show v_ad (w_fd w (v_ad x) 14) = n; rw [a1]; rfl, show w_ar w f 4 = p by show v_ad (w_fd w (v_ad f) 4) = p; rw [a2]; rfl, show w_ar w x 7 = t by show v_ad (w_fd w (v_ad x) 7) = t; rw [a3]; rfl, show w_ar w x 8 = h by show v_ad (w_fd w (v_ad x) 8) = h; rw [a4]; rfl, show w_ar w f 9 = u by show v_ad (w_fd w (v_ad f) 9) = u; rw [a5]; rfl, show w_ar w m 9 = r by show v_ad (w_fd w (v_ad m) 9) = r; rw [c1]; rfl, show w_ar w m 12 = s by show v_ad (w_fd w (v_ad m) 12) = s; rw [c2]; rfl, show w_ar w m 16 = y by show v_ad (w_fd w (v_ad m) 16) = y; rw [c3]; rfl] at q
  refine ⟨?_, q.2.1, fun z => ?_⟩
  · rcases q.1 with z | ⟨b1, b2, b3, b4⟩
    · exact Or.inl z
    · exact Or.inr ⟨n, p, t, h, u, a1, a2, a3, a4, a5, b1, b2, b3, b4⟩
  · obtain ⟨b1, b2, b3, b4⟩ := q.2.2 z
    exact ⟨r, s, y, c1, c2, c3, b1, b2, b3, b4⟩
theorem wq_of17 {w : va_W} {H g a : Value} (h : WQF 17 [H, g, a] w) (ha : v_iv a = 0) : WQF 0 [H] w := by
  obtain ⟨_, _, _, _, _, _, _, x, _⟩ := h
  exact (x (by decide)).1 (by decide) ha
theorem wq_17_1 {w : va_W} {H g a : Value} (h : WQF 17 [H, g, a] w) : WQF 1 [H, g] w := by
  obtain ⟨a1, b, c, d, _⟩ := h
  exact ⟨a1, b, c, fun _ => d (by decide), fun q => absurd q (by decide), fun q => absurd q (by decide), fun q => absurd q (by decide), fun q => absurd q (by decide), trivial⟩
/-- a field that a contract may not write, of an object of the part -/
theorem kp_fd {mo : mo_T} {ta : Nat → Option Nat} {kA : Nat → ClassId} {G : List rg_T} {w0 w1 : va_W} (hD0 : va_D (fun _ => True) w0) (hD1 : va_D (fun _ => True) w1) (hth : th_ok kA G ta w0) (hkp : kp mo ta w0 w1) {o r k : Nat} (ho : ta o = some r) (hc : kp_chk G mo r [k] [] = true) : w_fd w1 o k = w_fd w0 o k := (kp_obC hD0 hD1 hth hkp ho hc).1 k List.mem_cons_self
/-- of one such predicate another -/
def wq_bits (k k' : Nat) : Bool := (k' % 2 == 0 || k % 2 == 1) && (k' / 2 % 2 == 0 || k / 2 % 2 == 1) && (k' / 4 % 2 == 0 || k / 4 % 2 == 1) && (k' / 8 % 2 == 0 || k / 8 % 2 == 1) && (k' / 16 % 2 == 0 || (k / 16 % 2 == 1 && k / 32 % 2 == 1 && k' / 32 % 2 == 1))
theorem wq_re {w : va_W} {H g : Value} {k k' : Nat} {ls ls' : List Value} (h : WQF k (H :: g :: ls) w) (hk : wq_bits k k' = true) (hl : WL w H (v_iv g).toNat (k' / 64) ls') : WQF k' (H :: g :: ls') w := by
  obtain ⟨a, b, c, d, e, f, x, y, _⟩ := h
  unfold wq_bits at hk
  simp only [Bool.and_eq_true, Bool.or_eq_true, beq_iff_eq] at hk
  obtain ⟨⟨⟨⟨k1, k2⟩, k3⟩, k4⟩, k5⟩ := hk
  refine ⟨a, b, c, fun q => d (by omega), fun q => e (by omega), fun q => f (by omega), fun q => x (by omega), fun q => ?_, hl⟩
  have k6 := k5.resolve_left (by omega)
  exact ⟨fun z => by omega, fun _ => (y k6.1.1).2 k6.1.2⟩
theorem wq_hi {w : va_W} {H g : Value} {k : Nat} {ls : List Value} (h : WQF k (H :: g :: ls) w) (hk : k % 8 = 7) : WQF 0 [H] w := by
  obtain ⟨_, _, c, d, e, f, _⟩ := h
  exact HX_I c ⟨d (by omega), e (by omega), f (by omega)⟩
theorem wq_wl {w : va_W} {H g : Value} {k : Nat} {ls : List Value} (h : WQF k (H :: g :: ls) w) : WL w H (v_iv g).toNat (k / 64) ls := h.2.2.2.2.2.2.2.2
theorem wl_0 {w : va_W} {H v : Value} {g c : Nat} {r : List Value} (h : WL w H g c (v :: r)) (hc : c % 4 ≠ 0) : v_ad v = pO w H (c % 4 - 1) g := h.1.resolve_left hc
theorem wl_1 {w : va_W} {H v v1 : Value} {g c : Nat} {r : List Value} (h : WL w H g c (v :: v1 :: r)) (hc : c / 4 % 4 ≠ 0) : v_ad v1 = pO w H (c / 4 % 4 - 1) g := h.2.1.resolve_left hc
theorem wl_2 {w : va_W} {H v v1 v2 : Value} {g c : Nat} {r : List Value} (h : WL w H g c (v :: v1 :: v2 :: r)) (hc : c / 4 / 4 % 4 ≠ 0) : v_ad v2 = pO w H (c / 4 / 4 % 4 - 1) g := h.2.2.1.resolve_left hc
/-- planar or not is set -/
theorem wq_planar {kA : Nat → ClassId} {G : List rg_T} {A : Nat → Prop} {ta : Nat → Option Nat} {w0 w1 : va_W} {H x vg v : Value} {d9 d12 d16 : Nat} (hD : va_D A w1) (hth : th_ok kA G ta w1) (hc : hs_chk G = true) (hH : ta (v_ad H) = some rH) (hx : ta (v_ad x) = some (rX 2)) (h : WQF 243 [H, vg, x] w0) (c9 : w_fd w1 (v_ad x) 9 = .ref d9) (c12 : w_fd w1 (v_ad x) 12 = .ref d12) (c16 : w_fd w1 (v_ad x) 16 = .ref d16) (hv : v_iv v = 0 ∨ (v_iv v = 1 ∧ FIN (w_fi w0 x 5) (w_ei w0 (w_ar w0 x 9)) (w_ei w0 (w_ar w0 x 12)) ∧ FAD (w_fi w0 x 6) (w_ei w0 (w_ar w0 x 16)))) (s : (∀ b j, w_el w1 b j = w_el w0 b j) ∧ ∀ b j, w_fd w1 b j = if b = v_ad x ∧ j = 0 then v else w_fd w0 b j) : WQF 247 [H, vg, x] w1 := by
  obtain ⟨a, b, c, d, e, _, _, y, hl⟩ := h
  have hg : (v_iv vg).toNat < 4 := by omega
  have ho : v_ad x = pO w0 H 2 (v_iv vg).toNat := hl.1.resolve_left (by decide)
  obtain ⟨z5, z6, z3⟩ := (y (by decide)).2 (by decide)
  rw [← ho] at z5 z6 z3
  obtain ⟨n1, n2⟩ := ty_ne hD hth hc hH (fo := 2) (by omega) hx
  have hd : hd_eq H w0 w1 := fun f _ => ⟨by rw [s.2, if_neg (fun e => n1 e.1)], fun j _ => s.1 _ _⟩
  have n2' : ∀ f, f < 3 → f ≠ 2 → ∀ j, j < 4 → pO w0 H f j ≠ v_ad x := fun f hf hn j hj => by rw [← pO_eq hd hf hj]; exact n2 f hf hn j hj
  obtain ⟨p1, p2⟩ := put_ot c.1 hg (by omega) ho n1 n2' s
  have o0 := p2 0 (by omega) _ hg (Or.inr (by decide))
  have o1 := p2 1 (by omega) _ hg (Or.inr (by decide))
  have fd : ∀ k, k ≠ 0 → w_fd w1 (v_ad x) k = w_fd w0 (v_ad x) k := fun k hk => by rw [s.2, if_neg (fun e => hk e.2)]
  rw [fd 9 (by decide)] at c9
  rw [fd 12 (by decide)] at c12
  rw [fd 16 (by decide)] at c16
  have ei : ∀ k, w_ei w1 k = w_ei w0 k := fun k => funext (fun i => s.1 _ _)
  have f0 : fI w1 (v_ad x) 0 = v_iv v := by show v_iv (w_fd w1 (v_ad x) 0) = _; rw [s.2, if_pos ⟨rfl, rfl⟩]
  have f5 : fI w1 (v_ad x) 5 = fI w0 (v_ad x) 5 := by show v_iv (w_fd w1 (v_ad x) 5) = _; rw [fd 5 (by decide)]
  have f6 : fI w1 (v_ad x) 6 = fI w0 (v_ad x) 6 := by show v_iv (w_fd w1 (v_ad x) 6) = _; rw [fd 6 (by decide)]
  have f3 : fI w1 (v_ad x) 3 = fI w0 (v_ad x) 3 := by show v_iv (w_fd w1 (v_ad x) 3) = _; rw [fd 3 (by decide)]
  have g0 := fI_eq o0 (k := 0) (by decide)
  have g1 := fI_eq o0 (k := 1) (by decide)
  refine ⟨a, b, put_HX c hg (by omega) ho n1 n2' (by decide) s, fun _ => ?_, fun _ => ?_, fun _ => ?_, fun q => absurd q (by decide), fun _ => ⟨fun q => absurd q (by decide), fun _ => ?_⟩, ⟨Or.inr (by rw [pO_eq p1 (by decide) hg]; exact ho), trivial⟩⟩
  · rw [pO_eq p1 (by omega) hg]; exact HG_eq o0 (d (by decide))
  · rw [pO_eq p1 (by omega) hg, pO_eq p1 (f := 1) (by omega) hg]; exact HF_eq o0 o1 (e (by decide))
  · rw [pO_eq p1 (by omega) hg, pO_eq p1 (f := 2) (by omega) hg, ← ho]
    refine ⟨fun q => ?_, fun q => ?_⟩
    · rw [f0] at q; rcases hv with z | ⟨z, _⟩ <;> (rw [z] at q; exact absurd q (by decide))
    · rw [f0] at q
      rcases hv with z | ⟨_, zF, zD⟩
      · rw [z] at q; exact absurd q (by decide)
      · rw [show w_ar w0 x 9 = d9 by show v_ad (w_fd w0 (v_ad x) 9) = d9; rw [c9]; rfl, show w_ar w0 x 12 = d12 by show v_ad (w_fd w0 (v_ad x) 12) = d12; rw [c12]; rfl] at zF
        rw [show w_ar w0 x 16 = d16 by show v_ad (w_fd w0 (v_ad x) 16) = d16; rw [c16]; rfl] at zD
        refine ⟨d9, d12, d16, by rw [fd 9 (by decide)]; exact c9, by rw [fd 12 (by decide)]; exact c12, by rw [fd 16 (by decide)]; exact c16, by rw [f5, g0]; exact z5, by rw [f6, g1]; exact z6, ?_, ?_⟩
        · rw [f5, ei, ei]; exact zF
        · rw [f6, ei]; exact zD
  · rw [pO_eq p1 (by omega) hg, pO_eq p1 (f := 2) (by omega) hg, ← ho]
    exact ⟨by rw [f5, g0]; exact z5, by rw [f6, g1]; exact z6, by rw [f3]; exact z3⟩
