/-! the embedder's part: it, its own net, the net (and the graph) of a place; what it saw last may be the net of another place -/
def st_P (ws : va_W) (em pr ng a : Nat) : Prop := w_fd ws em 0 = .ref a ∧ a ≠ ng ∧ a ≠ pr ∧ ∃ e, (a, e) ∈ ws
noncomputable def em_P (kA : Nat → ClassId) (ta : Nat → Option Nat) (ws : va_W) (os : List Nat) (em pr ng a : Nat) : Bool := fr_P kA S0 ta ws os a && !(@decide (st_P ws em pr ng a) (Classical.propDecidable _))
theorem em_P_iff {kA : Nat → ClassId} {ta : Nat → Option Nat} {ws : va_W} {os : List Nat} {em pr ng a : Nat} : em_P kA ta ws os em pr ng a = true ↔ fr_P kA S0 ta ws os a = true ∧ ¬ st_P ws em pr ng a := by
  unfold em_P
  rw [Bool.and_eq_true, Bool.not_eq_true', @decide_eq_false_iff_not _ (Classical.propDecidable _)]
/-- regions of which other places have things -/
def badR (G : List rg_T) (r : Nat) : Bool := decide (r = rH) || [0, 1, 2].any (fun f => decide (r = rA f) || decide (r = rX f) || (pA f).any (fun k => match fl_at G (rX f) k with | some t => (tv_refs t).contains r | none => false))
def em_chk (G : List rg_T) : Bool :=
  (match G[1]? with | some g => decide (10 ≤ g.1) && (List.range g.2.2.2.2.length).all (fun k => match g.2.2.2.2[k]? with
    | some t => if k = 0 then decide (t = (3, 0, 0, [5, 5999, 149])) || decide (t = (3, 0, 0, [5, 149, 5999])) else if k = 1 then decide (t = (2, 0, 0, [149])) else (tv_refs t).all (fun r => !(badR G r) && decide (r ≠ 1) && decide (r ≠ 149) && (match G[r]? with | some g' => decide (g'.1 < 4) | none => false))
    | none => true) | none => false) &&
  (match G[149]? with | some g => decide (10 ≤ g.1) && (rg_refs g).all (fun r => !(badR G r) && decide (r ≠ 1) && decide (r ≠ 149) && (match G[r]? with | some g' => decide (g'.1 < 4) | none => false)) | none => false) &&
  !(badR G 1) && !(badR G 149)
section HI9
variable {kA : Nat → ClassId} {G : List rg_T} {ta : Nat → Option Nat} {ws : va_W} {fsel : List Nat} {H : Value} {g em pr : Nat}
theorem em_f (hc : em_chk G = true) : ∃ g1 g2, G[1]? = some g1 ∧ 10 ≤ g1.1 ∧ G[149]? = some g2 ∧ 10 ≤ g2.1 ∧ (∀ k t, g1.2.2.2.2[k]? = some t → (k = 0 ∧ (t = (3, 0, 0, [5, 5999, 149]) ∨ t = (3, 0, 0, [5, 149, 5999]))) ∨ (k = 1 ∧ t = (2, 0, 0, [149])) ∨ ∀ r ∈ tv_refs t, badR G r = false ∧ r ≠ 1 ∧ r ≠ 149 ∧ ∃ g', G[r]? = some g' ∧ g'.1 < 4) ∧ (∀ r ∈ rg_refs g2, badR G r = false ∧ r ≠ 1 ∧ r ≠ 149 ∧ ∃ g', G[r]? = some g' ∧ g'.1 < 4) ∧ badR G 1 = false ∧ badR G 149 = false := by
  unfold em_chk at hc
  simp only [Bool.and_eq_true, Bool.not_eq_true'] at hc
  obtain ⟨⟨⟨h1, h2⟩, h3⟩, h4⟩ := hc
  split at h1
  · rename_i g1 hg1
    split at h2
    · rename_i g2 hg2
      rw [Bool.and_eq_true, decide_eq_true_eq] at h1 h2
      refine ⟨g1, g2, hg1, h1.1, hg2, h2.1, fun k t ht => ?_, fun r hr => ?_, h3, h4⟩
      · have hlt := (List.getElem?_eq_some_iff.mp ht).1
        have q := List.all_eq_true.mp h1.2 k (List.mem_range.mpr hlt)
        rw [ht] at q
        simp only at q
        by_cases k0 : k = 0
        · rw [if_pos k0, Bool.or_eq_true, decide_eq_true_eq, decide_eq_true_eq] at q
          exact Or.inl ⟨k0, q⟩
        · rw [if_neg k0] at q
          by_cases k1 : k = 1
          · rw [if_pos k1, decide_eq_true_eq] at q
            exact Or.inr (Or.inl ⟨k1, q⟩)
          · rw [if_neg k1] at q
            refine Or.inr (Or.inr (fun r hr => ?_))
            have z := List.all_eq_true.mp q r hr
            simp only [Bool.and_eq_true, Bool.not_eq_true', decide_eq_true_eq] at z
            obtain ⟨⟨⟨z1, z2⟩, z3⟩, z4⟩ := z
            split at z4
            · rename_i g' hg'; exact ⟨z1, z2, z3, g', hg', by simpa using z4⟩
            · cases z4
      · have z := List.all_eq_true.mp h2.2 r hr
        simp only [Bool.and_eq_true, Bool.not_eq_true', decide_eq_true_eq] at z
        obtain ⟨⟨⟨z1, z2⟩, z3⟩, z4⟩ := z
        split at z4
        · rename_i g' hg'; exact ⟨z1, z2, z3, g', hg', by simpa using z4⟩
        · cases z4
    · cases h2
  · cases h1
theorem bad_X {f : Nat} (hf : f < 3) : badR G (rX f) = true := by
  unfold badR
  rw [Bool.or_eq_true]
  exact Or.inr (List.any_eq_true.mpr ⟨f, in3 hf, by simp⟩)
theorem bad_A {f : Nat} (hf : f < 3) : badR G (rA f) = true := by
  unfold badR
  rw [Bool.or_eq_true]
  exact Or.inr (List.any_eq_true.mpr ⟨f, in3 hf, by simp⟩)
theorem bad_H : badR G rH = true := by unfold badR; simp
theorem bad_p {f k r : Nat} {t : tv_T} (hf : f < 3) (hk : k ∈ pA f) (ht : fl_at G (rX f) k = some t) (hr : r ∈ tv_refs t) : badR G r = true := by
  unfold badR
  rw [Bool.or_eq_true]
  refine Or.inr (List.any_eq_true.mpr ⟨f, in3 hf, ?_⟩)
  rw [Bool.or_eq_true]
  exact Or.inr (List.any_eq_true.mpr ⟨k, hk, by rw [ht]; exact List.contains_iff_mem.mpr hr⟩)
/-- what other places have is not in the embedder's part -/
theorem em_out (hD : va_D (fun _ => True) ws) (hth : th_ok kA G ta ws) (hG : ∀ r, ro_id r = true → G[r]? = none) (hc : em_chk G = true) (hem : ta em = some 1) (hpr : ta pr = some 149) (he1 : w_fd ws em 1 = .ref pr) {ng a r : Nat} {gg : rg_T} {fs : List Nat} (ha : ta a = some r) (hg : G[r]? = some gg) (hb : badR G r = true) (hf : fr_P kA S0 ta ws fs a = false) (hn : a ≠ ng) : em_P kA ta ws (fs ++ [em, pr]) em pr ng a = false := by
  obtain ⟨g1, g2, q1, q2, q3, q4, q5, q6, q7, q8⟩ := em_f hc
  cases hp : em_P kA ta ws (fs ++ [em, pr]) em pr ng a with
  | false => rfl
  | true =>
    exfalso
    obtain ⟨h1, h2⟩ := em_P_iff.mp hp
    have nf : ∀ (x : (∃ r, ta a = some r ∧ S0 r = true) ∨ a ∈ fs ∨ (∃ o ∈ fs, ∃ k, w_fd ws o k = .ref a) ∨ ∃ r, ro_id r = true ∧ a = kA r), False := fun x => by
      rw [fr_P_iff.mpr x] at hf; cases hf
    rcases fr_P_iff.mp h1 with x | x | ⟨o, ho, k, hk⟩ | x
    · exact nf (Or.inl x)
    · rcases List.mem_append.mp x with x | x
      · exact nf (Or.inr (Or.inl x))
      · rcases List.mem_cons.mp x with x | x
        · subst x; rw [ha] at hem; rw [Option.some.inj hem, q7] at hb; cases hb
        · have x := List.mem_singleton.mp x
          subst x; rw [ha] at hpr; rw [Option.some.inj hpr, q8] at hb; cases hb
    · rcases List.mem_append.mp ho with x | x
      · exact nf (Or.inr (Or.inr (Or.inl ⟨o, x, k, hk⟩)))
      · rcases List.mem_cons.mp x with x | x
        · subst x
          obtain ⟨t, r', t1, t2, t3⟩ := fd_ref hD hth hem q1 q2 hk
          rw [ha] at t2
          obtain rfl := Option.some.inj t2
          rcases q5 k t t1 with ⟨z1, _⟩ | ⟨z1, z2⟩ | z
          · subst z1
            obtain ⟨e, he, _⟩ := th_in hth ha hg
            by_cases c : a = pr
            · subst c; rw [ha] at hpr; rw [Option.some.inj hpr, q8] at hb; cases hb
            · exact h2 ⟨hk, hn, c, e, he⟩
          · subst z1
            rw [he1] at hk
            injection hk with hk
            subst hk; rw [ha] at hpr; rw [Option.some.inj hpr, q8] at hb; cases hb
          · rw [(z r t3).1] at hb; cases hb
        · have x := List.mem_singleton.mp x
          subst x
          obtain ⟨t, r', t1, t2, t3⟩ := fd_ref hD hth hpr q3 q4 hk
          rw [ha] at t2
          obtain rfl := Option.some.inj t2
          rw [(q6 r (refs_in q4 t1 t3)).1] at hb; cases hb
    · exact nf (Or.inr (Or.inr (Or.inr x)))
theorem em_pz (hD : va_D (fun _ => True) ws) (hth : th_ok kA G ta ws) (hG : ∀ r, ro_id r = true → G[r]? = none) (hH : ta (v_ad H) = some rH) (hgH : ∃ gg, G[rH]? = some gg) (hc : fr_chk G S0 fsel = true) (hce : em_chk G = true) (hA : HA ws H) (hg : g < 4) (h2 : 2 ∈ fsel) (hem : ta em = some 1) (hpr : ta pr = some 149) (he1 : w_fd ws em 1 = .ref pr) : pz_ok (em_P kA ta ws (fsel.map (fun f => pO ws H f g) ++ [em, pr]) em pr (pO ws H 2 g)) ws H g fsel ta G := by
  obtain ⟨p1, p2, p3⟩ := fr_pl hD hth hG hH hgH hc hA hg
  have hcc := hc
  unfold fr_chk at hcc
  simp only [Bool.and_eq_true] at hcc
  have c1 : hs_chk G = true := hcc.1.1.1.1.1
  have c6 := hcc.2
  have ty := fun {f : Nat} (hf : f < 3) => pO_ty hD hth c1 hH hf
  obtain ⟨_, _, _, _, _, _, ty2⟩ := ty (f := 2) (by omega)
  have tn := ty2 g hg
  obtain ⟨gH, hgH'⟩ := hgH
  refine ⟨em_out hD hth hG hce hem hpr he1 hH hgH' bad_H p1 (fun e => ?_), fun f hf => ?_, fun f hf j hj hjg => ?_, fun f hf => ?_⟩
  · rw [e, tn] at hH; exact absurd (Option.some.inj hH) (by decide)
  · obtain ⟨b, _, e2, e3, ⟨gb, hgb⟩, _, _⟩ := ty hf
    have q := p2 f hf
    rw [e2] at q ⊢
    refine em_out hD hth hG hce hem hpr he1 e3 hgb (bad_A hf) q (fun e => ?_)
    rw [e, tn] at e3
    have h : (5 : Nat) = 131 + f := Option.some.inj e3
    omega
  · obtain ⟨_, _, _, _, _, ⟨gx, hgx, h10⟩, tyj⟩ := ty hf
    obtain ⟨z1, z2⟩ := p3 f hf j hj hjg
    refine ⟨em_out hD hth hG hce hem hpr he1 (tyj j hj) hgx (bad_X hf) z1 (fun e => ?_), fun k hk d hd => ?_⟩
    · have t1 := tyj j hj
      rw [e, tn] at t1
      have ef : f = 2 := (rX_inj (by omega) hf (Option.some.inj t1)).symm
      subst ef
      rcases hjg with x | x
      · exact (hA 2 hf j g hj hg x).1 e
      · exact x h2
    · obtain ⟨y1, rd, gd, y2, y3⟩ := z2 k hk d hd
      obtain ⟨t, r', t1, t2, t3⟩ := fd_ref hD hth (tyj j hj) hgx h10 hd
      rw [y2] at t2
      obtain rfl := Option.some.inj t2
      have efl : fl_at G (rX f) k = some t := by unfold fl_at; rw [hgx]; simp only [h10, if_true]; exact t1
      refine ⟨em_out hD hth hG hce hem hpr he1 y2 y3 (bad_p hf hk efl t3) y1 (fun e => ?_), rd, gd, y2, y3⟩
      rw [e, tn] at y2
      have h6 := List.all_eq_true.mp (List.all_eq_true.mp c6 f (in3 hf)) k hk
      rw [efl] at h6
      have h7 := List.all_eq_true.mp h6 rd t3
      rw [Bool.and_eq_true] at h7
      have h8 := List.all_eq_true.mp h7.2 2 h2
      rw [Bool.and_eq_true, decide_eq_true_eq] at h8
      exact h8.1 (Option.some.inj y2).symm
  · refine em_P_iff.mpr ⟨fr_P_iff.mpr (Or.inr (Or.inl (List.mem_append_left _ (List.mem_map.mpr ⟨f, hf, rfl⟩)))), fun ⟨x1, x2, x3, _⟩ => ?_⟩
    have h3 : f < 3 := by
      have := List.all_eq_true.mp hcc.1.2 f hf
      rw [Bool.and_eq_true, Bool.and_eq_true, decide_eq_true_eq] at this
      exact this.1.1
    obtain ⟨g1, g2, q1, q2, _, _, q5, _⟩ := em_f hce
    obtain ⟨t, r', t1, t2, t3⟩ := fd_ref hD hth hem q1 q2 x1
    obtain ⟨_, _, _, _, _, _, tyj⟩ := ty h3
    rw [tyj g hg] at t2
    obtain rfl := Option.some.inj t2
    rcases q5 0 t t1 with ⟨_, z⟩ | ⟨z, _⟩ | z
    · have : rX f = 5 ∨ rX f = 149 ∨ rX f = 5999 := by
        rcases z with z | z
        · subst z
          have t4 : rX f ∈ [5, 5999, 149] := t3
          simp only [List.mem_cons, List.not_mem_nil, or_false] at t4
          omega
        · subst z
          have t4 : rX f ∈ [5, 149, 5999] := t3
          simp only [List.mem_cons, List.not_mem_nil, or_false] at t4
          omega
      match f, h3 with
      | 0, _ => rcases this with q | q | q <;> exact absurd q (by decide)
      | 1, _ => rcases this with q | q | q <;> exact absurd q (by decide)
      | 2, _ => exact x2 rfl
    · cases z
    · have := (z (rX f) t3).1
      rw [bad_X h3] at this; cases this
end HI9
