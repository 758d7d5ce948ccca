/-! a call on things of one place leaves the other places as they were -/
def rH : Nat := 12
def rA (f : Nat) : Nat := 131 + f
def rX (f : Nat) : Nat := [3, 2, 5].getD f 0
def fl_at (G : List rg_T) (r k : Nat) : Option tv_T := match G[r]? with
  | some g => if 10 ≤ g.1 then g.2.2.2.2[k]? else none
  | none => none
def hs_chk (G : List rg_T) : Bool := [0, 1, 2].all (fun f => (match fl_at G rH f with | some t => decide (t.1 = 2) && decide (t.2.2.2 = [rA f]) | none => false) && (match G[rA f]? with | some g => decide (4 ≤ g.1) && decide (g.1 < 10) && decide (4 ≤ g.2.1) && decide (g.2.2.2.1.1 = 2) && decide (g.2.2.2.1.2.2.2 = [rX f]) | none => false) && (match G[rX f]? with | some g => decide (10 ≤ g.1) | none => false))
section HI2
variable {kA : Nat → ClassId} {G : List rg_T} {A : Nat → Prop} {ta : Nat → Option Nat} {ws : va_W}
theorem fl_at_ok {r k : Nat} {t : tv_T} (h : fl_at G r k = some t) : ∃ g, G[r]? = some g ∧ 10 ≤ g.1 ∧ g.2.2.2.2[k]? = some t := by
  unfold fl_at at h
  split at h
  · rename_i g hg
    split at h
    · rename_i h10; exact ⟨g, hg, h10, h⟩
    · cases h
  · cases h
theorem in3 {f : Nat} (h : f < 3) : f ∈ [0, 1, 2] := by
  match f, h with
  | 0, _ => decide
  | 1, _ => decide
  | 2, _ => decide
theorem pO_ty (hD : va_D A ws) (hth : th_ok kA G ta ws) (hc : hs_chk G = true) {H : Value} (hH : ta (v_ad H) = some rH) {f : Nat} (hf : f < 3) : ∃ b, w_fd ws (v_ad H) f = .ref b ∧ w_ar ws H f = b ∧ ta b = some (rA f) ∧ (∃ g, G[rA f]? = some g) ∧ (∃ g, G[rX f]? = some g ∧ 10 ≤ g.1) ∧ ∀ j, j < 4 → ta (pO ws H f j) = some (rX f) := by
  have h := List.all_eq_true.mp hc f (in3 hf)
  rw [Bool.and_eq_true, Bool.and_eq_true] at h
  obtain ⟨⟨h1, h2⟩, h3⟩ := h
  split at h1
  · rename_i t ht
    rw [Bool.and_eq_true, decide_eq_true_eq, decide_eq_true_eq] at h1
    obtain ⟨gh, e1, e2, e3⟩ := fl_at_ok ht
    have tv := (fd_at hD hth hH e1 e3 e2).1
    obtain ⟨b, rb, eb, hb1, hb2⟩ := tv_ref tv h1.1
    rw [h1.2] at hb2
    obtain rfl := List.mem_singleton.mp hb2
    have ear : w_ar ws H f = b := by show v_ad (w_fd ws (v_ad H) f) = b; rw [eb]; rfl
    split at h2
    · rename_i g hg
      simp only [Bool.and_eq_true, decide_eq_true_eq] at h2
      obtain ⟨⟨⟨⟨k1, k2⟩, k3⟩, k4⟩, k5⟩ := h2
      split at h3
      · rename_i g3 hg3
        rw [decide_eq_true_eq] at h3
        refine ⟨b, eb, ear, hb1, ⟨g, hg⟩, ⟨g3, hg3, h3⟩, fun j hj => ?_⟩
        obtain ⟨e, q2, hr⟩ := th_in hth hb1 hg
        rcases hr with ⟨z', _⟩ | ⟨z', _⟩ | ⟨_, _, n', fn, rfl, l1, l2, hf'⟩ | ⟨z', _⟩
        · omega
        · omega
        · have hj' : j < n' := by omega
          obtain ⟨c', r2, ec, hc1, hc2⟩ := tv_ref (hf' j hj') k4
          rw [k5] at hc2
          obtain rfl := List.mem_singleton.mp hc2
          have hfc : fn j = some c' := by
            cases hv : fn j with
            | none => rw [hv] at ec; cases ec
            | some d => rw [hv] at ec; have : Value.ref d = Value.ref c' := ec; cases this; rfl
          have eo : pO ws H f j = c' := by
            show (w_el ws (w_ar ws H f) j).toNat = c'
            rw [ear]
            unfold w_el
            rw [w_at_mem hD q2]
            simp only [hfc, Int.toNat_natCast]
          rw [eo]; exact hc1
        · omega
      · cases h3
    · cases h2
  · cases h1
/-- a reference in a field is of one of the regions of the field's kind -/
theorem fd_ref (hD : va_D A ws) (hth : th_ok kA G ta ws) {o ro a k : Nat} {g : rg_T} (ho : ta o = some ro) (hg : G[ro]? = some g) (h10 : 10 ≤ g.1) (hk : w_fd ws o k = .ref a) : ∃ t r, g.2.2.2.2[k]? = some t ∧ ta a = some r ∧ r ∈ tv_refs t := by
  obtain ⟨e0, m0, r0⟩ := th_in hth ho hg
  rcases r0 with ⟨z, _⟩ | ⟨z, _⟩ | ⟨_, z, _⟩ | ⟨_, fs, rfl, l1, hf⟩
  · omega
  · omega
  · omega
  · unfold w_fd at hk
    rw [w_at_mem hD m0] at hk
    simp only at hk
    rw [List.getD_eq_getElem?_getD] at hk
    cases hv : fs[k]? with
    | none => rw [hv] at hk; cases hk
    | some v =>
      rw [hv] at hk
      have hv2 : v = .ref a := hk
      subst hv2
      have hlt := (List.getElem?_eq_some_iff.mp hv).1
      rw [l1] at hlt
      have ht := List.getElem?_eq_getElem hlt
      have htv := hf k _ _ ht hv
      rcases htv with ⟨_, x, z, _⟩ | ⟨_, x, z, _⟩ | ⟨kk, a', r', z, z1, z2⟩ | ⟨kk, z | ⟨a', r', z, z1, z2⟩⟩ | ⟨_, x, z, _⟩ | ⟨_, x, z, _⟩
      · cases z
      · cases z
      · cases z; exact ⟨_, r', ht, z1, by unfold tv_refs; rw [if_pos (Or.inl kk)]; exact z2⟩
      · cases z
      · cases z; exact ⟨_, r', ht, z1, by unfold tv_refs; rw [if_pos (Or.inr kk)]; exact z2⟩
      · cases z
      · cases z
theorem refs_in {g : rg_T} {k : Nat} {t : tv_T} {r : Nat} (h10 : 10 ≤ g.1) (h : g.2.2.2.2[k]? = some t) (hr : r ∈ tv_refs t) : r ∈ rg_refs g := by
  unfold rg_refs; rw [if_neg (by omega), if_neg (by omega)]
  exact List.mem_flatten.mpr ⟨_, List.mem_map.mpr ⟨t, List.mem_of_getElem? h, rfl⟩, hr⟩
theorem fr_P_cases {S : Nat → Bool} {os : List Nat} (hth : th_ok kA G ta ws) (hG : ∀ r, ro_id r = true → G[r]? = none) {a r : Nat} {g : rg_T} (ha : ta a = some r) (hg : G[r]? = some g) (h : fr_P kA S ta ws os a = true) : S r = true ∨ a ∈ os ∨ ∃ o ∈ os, ∃ k, w_fd ws o k = .ref a := by
  rcases fr_P_iff.mp h with ⟨r0, h1, h2⟩ | h1 | h1 | ⟨r0, h1, h2⟩
  · rw [ha] at h1
    exact Or.inl (by rw [Option.some.inj h1]; exact h2)
  · exact Or.inr (Or.inl h1)
  · exact Or.inr (Or.inr h1)
  · obtain ⟨r1, z1, z2, _⟩ := hth.2 r0 h1
    rw [← h2, ha] at z2
    rw [Option.some.inj z2, hG r1 z1] at hg; cases hg
end HI2
def fr_chk (G : List rg_T) (S : Nat → Bool) (fsel : List Nat) : Bool :=
  hs_chk G && cl_S G S && !(S rH) && [0, 1, 2].all (fun f => !(S (rA f)) && !(S (rX f))) &&
  fsel.all (fun f => decide (f < 3) && ob_S G S (rX f) && (match G[rX f]? with | some g => (rg_refs g).all (fun r => decide (r ≠ rH) && [0, 1, 2].all (fun f' => decide (r ≠ rA f') && decide (r ≠ rX f'))) | none => false)) &&
  [0, 1, 2].all (fun f' => (pA f').all (fun k => match fl_at G (rX f') k with
    | some t => (tv_refs t).all (fun rd => !(S rd) && (G[rd]?).isSome && fsel.all (fun f => decide (rd ≠ rX f) && (match G[rX f]? with | some g => (List.range g.2.2.2.2.length).all (fun k2 => match g.2.2.2.2[k2]? with | some t2 => !((tv_refs t2).contains rd) || (decide (f = f') && decide (k2 = k)) | none => true) | none => true)))
    | none => false))
theorem rX_inj {f f' : Nat} (hf : f < 3) (hf' : f' < 3) (h : rX f = rX f') : f = f' := by
  match f, f', hf, hf' with
  | 0, 0, _, _ => rfl
  | 1, 1, _, _ => rfl
  | 2, 2, _, _ => rfl
  | 0, 1, _, _ => exact absurd h (by decide)
  | 0, 2, _, _ => exact absurd h (by decide)
  | 1, 0, _, _ => exact absurd h (by decide)
  | 1, 2, _, _ => exact absurd h (by decide)
  | 2, 0, _, _ => exact absurd h (by decide)
  | 2, 1, _, _ => exact absurd h (by decide)
section HI3
variable {kA : Nat → ClassId} {G : List rg_T} {ta : Nat → Option Nat} {ws : va_W} {S : Nat → Bool} {fsel : List Nat} {H : Value} {g : Nat}
/-- what is not of this place is not in the part -/
theorem fr_pl (hD : va_D (fun _ => True) ws) (hth : th_ok kA G ta ws) (hG : ∀ r, ro_id r = true → G[r]? = none) (hH : ta (v_ad H) = some rH) (hgH : ∃ gg, G[rH]? = some gg) (hc : fr_chk G S fsel = true) (hA : HA ws H) (hg : g < 4) : fr_P kA S ta ws (fsel.map (fun f => pO ws H f g)) (v_ad H) = false ∧ (∀ f, f < 3 → fr_P kA S ta ws (fsel.map (fun f => pO ws H f g)) (w_ar ws H f) = false) ∧ ∀ f, f < 3 → ∀ j, j < 4 → (j ≠ g ∨ f ∉ fsel) → fr_P kA S ta ws (fsel.map (fun f => pO ws H f g)) (pO ws H f j) = false ∧ ∀ k ∈ pA f, ∀ d, w_fd ws (pO ws H f j) k = .ref d → fr_P kA S ta ws (fsel.map (fun f => pO ws H f g)) d = false ∧ ∃ rd gd, ta d = some rd ∧ G[rd]? = some gd := by
  unfold fr_chk at hc
  simp only [Bool.and_eq_true] at hc
  obtain ⟨⟨⟨⟨⟨c1, _⟩, c3⟩, c4⟩, c5⟩, c6⟩ := hc
  rw [Bool.not_eq_true'] at c3
  have ty := fun {f : Nat} (hf : f < 3) => pO_ty hD hth c1 hH hf
  have os_is : ∀ a, a ∈ fsel.map (fun f => pO ws H f g) → ∃ f, f ∈ fsel ∧ f < 3 ∧ a = pO ws H f g ∧ ta a = some (rX f) := fun a ha => by
    obtain ⟨f, h1, h2⟩ := List.mem_map.mp ha
    have h3 := List.all_eq_true.mp c5 f h1
    rw [Bool.and_eq_true, Bool.and_eq_true, decide_eq_true_eq] at h3
    obtain ⟨_, _, _, _, _, _, h5⟩ := ty h3.1.1
    exact ⟨f, h1, h3.1.1, h2.symm, by rw [← h2]; exact h5 g hg⟩
  -- no object, and no array of references, is an array of one of these objects
  have no_ref : ∀ a r, ta a = some r → (r = rH ∨ ∃ f, f < 3 ∧ (r = rA f ∨ r = rX f)) → ¬ ∃ o ∈ fsel.map (fun f => pO ws H f g), ∃ k, w_fd ws o k = .ref a := fun a r ha hr ⟨o, ho, k, hk⟩ => by
    obtain ⟨f, f1, f2, f3, f4⟩ := os_is o ho
    have h3 := List.all_eq_true.mp c5 f f1
    rw [Bool.and_eq_true, Bool.and_eq_true] at h3
    obtain ⟨_, _, _, _, _, ⟨gx, hgx, h10⟩, _⟩ := ty f2
    have h4 := h3.2
    rw [hgx] at h4
    obtain ⟨t, r', t1, t2, t3⟩ := fd_ref hD hth f4 hgx h10 hk
    rw [ha] at t2
    obtain rfl := Option.some.inj t2
    have h5 := List.all_eq_true.mp h4 r (refs_in h10 t1 t3)
    rw [Bool.and_eq_true, decide_eq_true_eq] at h5
    rcases hr with hr | ⟨f', hf', hr⟩
    · exact h5.1 hr
    · have h6 := List.all_eq_true.mp h5.2 f' (in3 hf')
      rw [Bool.and_eq_true, decide_eq_true_eq, decide_eq_true_eq] at h6
      rcases hr with hr | hr
      · exact h6.1 hr
      · exact h6.2 hr
  have nS : ∀ f, f < 3 → S (rA f) = false ∧ S (rX f) = false := fun f hf => by
    have := List.all_eq_true.mp c4 f (in3 hf)
    rw [Bool.and_eq_true, Bool.not_eq_true', Bool.not_eq_true'] at this
    exact this
  have key : ∀ a r gg, ta a = some r → G[r]? = some gg → S r = false → a ∉ fsel.map (fun f => pO ws H f g) → (¬ ∃ o ∈ fsel.map (fun f => pO ws H f g), ∃ k, w_fd ws o k = .ref a) → fr_P kA S ta ws (fsel.map (fun f => pO ws H f g)) a = false := fun a r gg h1 h2 h3 h4 h5 => by
    cases hp : fr_P kA S ta ws (fsel.map (fun f => pO ws H f g)) a with
    | false => rfl
    | true =>
      exfalso
      rcases fr_P_cases hth hG h1 h2 hp with q | q | q
      · rw [h3] at q; cases q
      · exact h4 q
      · exact h5 q
  obtain ⟨gH, hgH⟩ := hgH
  refine ⟨key _ rH gH hH hgH c3 (fun q => ?_) (no_ref _ _ hH (Or.inl rfl)), fun f hf => ?_, fun f hf j hj hjg => ?_⟩
  · obtain ⟨f, _, f2, _, f4⟩ := os_is _ q
    rw [hH] at f4
    have := Option.some.inj f4
    match f, f2 with
    | 0, _ => exact absurd this (by decide)
    | 1, _ => exact absurd this (by decide)
    | 2, _ => exact absurd this (by decide)
  · obtain ⟨b, _, e2, e3, ⟨gb, hgb⟩, _, _⟩ := ty hf
    rw [e2]
    refine key b (rA f) gb e3 hgb (nS f hf).1 (fun q => ?_) (no_ref _ _ e3 (Or.inr ⟨f, hf, Or.inl rfl⟩))
    obtain ⟨f', _, f2, _, f4⟩ := os_is _ q
    rw [e3] at f4
    have := Option.some.inj f4
    match f', f2 with
    | 0, _ => have h : 131 + f = 3 := this; omega
    | 1, _ => have h : 131 + f = 2 := this; omega
    | 2, _ => have h : 131 + f = 5 := this; omega
  · obtain ⟨_, _, _, _, _, ⟨gx, hgx, h10⟩, tyj⟩ := ty hf
    have tj := tyj j hj
    refine ⟨key _ _ gx tj hgx (nS f hf).2 (fun q => ?_) (no_ref _ _ tj (Or.inr ⟨f, hf, Or.inr rfl⟩)), fun k hk d hd => ?_⟩
    · obtain ⟨f', f1, f2, f3, f4⟩ := os_is _ q
      rw [tj] at f4
      have ef := rX_inj hf f2 (Option.some.inj f4)
      subst ef
      rcases hjg with h | h
      · exact (hA f hf j g hj hg h).1 f3
      · exact h f1
    · obtain ⟨t, rd, t1, t2, t3⟩ := fd_ref hD hth tj hgx h10 hd
      have h6 := List.all_eq_true.mp (List.all_eq_true.mp c6 f (in3 hf)) k hk
      have efl : fl_at G (rX f) k = some t := by unfold fl_at; rw [hgx]; simp only [h10, if_true]; exact t1
      rw [efl] at h6
      have h7 := List.all_eq_true.mp h6 rd t3
      rw [Bool.and_eq_true, Bool.and_eq_true, Bool.not_eq_true'] at h7
      obtain ⟨gd, hgd⟩ := Option.isSome_iff_exists.mp h7.1.2
      refine ⟨key d rd gd t2 hgd h7.1.1 (fun q => ?_) (fun ⟨o, ho, k2, hk2⟩ => ?_), rd, gd, t2, hgd⟩
      · obtain ⟨f', f1, _, _, f4⟩ := os_is _ q
        rw [t2] at f4
        have h8 := List.all_eq_true.mp h7.2 f' f1
        rw [Bool.and_eq_true, decide_eq_true_eq] at h8
        exact h8.1 (Option.some.inj f4)
      · obtain ⟨f', f1, f2, f3, f4⟩ := os_is o ho
        have h8 := List.all_eq_true.mp h7.2 f' f1
        rw [Bool.and_eq_true] at h8
        obtain ⟨_, _, _, _, _, ⟨gy, hgy, h10y⟩, _⟩ := ty f2
        obtain ⟨t', r', s1, s2, s3⟩ := fd_ref hD hth f4 hgy h10y hk2
        rw [t2] at s2
        obtain rfl := Option.some.inj s2
        have h9 := h8.2
        rw [hgy] at h9
        have hlt := (List.getElem?_eq_some_iff.mp s1).1
        have h11 := List.all_eq_true.mp h9 k2 (List.mem_range.mpr hlt)
        rw [s1] at h11
        have h12 : (!((tv_refs t').contains rd) || (decide (f' = f) && decide (k2 = k))) = true := h11
        rw [List.contains_iff_mem.mpr s3] at h12
        have h13 : (decide (f' = f) && decide (k2 = k)) = true := h12
        rw [Bool.and_eq_true, decide_eq_true_eq, decide_eq_true_eq] at h13
        obtain ⟨e1, e2⟩ := h13
        subst e1; subst e2
        rcases hjg with h | h
        · rw [f3] at hk2
          exact (hA f' hf j g hj hg h).2 k2 hk d d hd hk2 rfl
        · exact h f1
end HI3
