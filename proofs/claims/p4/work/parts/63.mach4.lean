/-! straight instructions over the picture -/
def sy_find (loc : List (Nat × Nat)) (j : Nat) : Option Nat := (loc.find? (fun q => q.1 == j)).map (fun q => q.2)
theorem sy_find_ok {loc : List (Nat × Nat)} {j i : Nat} (h : sy_find loc j = some i) : (j, i) ∈ loc := by
  unfold sy_find at h
  cases hf : loc.find? (fun q => q.1 == j) with
  | none => rw [hf] at h; cases h
  | some q =>
    rw [hf] at h
    have e : q.2 = i := Option.some.inj h
    have h1 := List.mem_of_find?_eq_some hf
    have h2 := List.find?_some hf
    have h3 : q.1 = j := by simpa using h2
    rw [← e, ← h3]; exact h1
def sy_kd (env : List tv_T) (i : Nat) : Nat := match env[i]? with | some t => t.1 | none => 9
def tr_pk (i : ClassFile.Instr) (len : Nat) (y : sy_T) : Option sy_T := match pk_c i len with
  | some (_, t) => some (sy_push y t y.2.2.1)
  | none => none
def tr_ld (i : ClassFile.Instr) (len : Nat) (y : sy_T) : Option sy_T := match ld_c i len with
  | some (j, kd) => match sy_find y.2.1 j with
    | some n => if sy_kd y.1 n = kd ∧ kd < 3 then some (y.1, y.2.1, n :: y.2.2.1, y.2.2.2.1, y.2.2.2.2) else none
    | none => none
  | none => none
def sy_sto (y : sy_T) (j kd n : Nat) (st : List Nat) : sy_T := (y.1, (j, n) :: y.2.1.filter (fun q => !(q.1 == j) && !(kd == 1 && q.1 == j + 1) && !(q.1 + 1 == j && sy_kd y.1 q.2 == 1)), st, y.2.2.2.1, y.2.2.2.2)
def tr_st (nL : Nat) (i : ClassFile.Instr) (len : Nat) (y : sy_T) : Option sy_T := match st_c i len with
  | some (j, kd) => match y.2.2.1 with
    | n :: r => if sy_kd y.1 n = kd ∧ kd < 3 ∧ (j + 1 < nL ∨ (kd ≠ 1 ∧ j < nL)) then some (sy_sto y j kd n r) else none
    | [] => none
  | none => none
theorem sy_kd_ok {ta : Nat → Option Nat} {env : List tv_T} {vs : List Value} (h : sy_env ta env vs) {n kd : Nat} {v : Value} (hv : vs[n]? = some v) (hk : sy_kd env n = kd) : ∃ t, env[n]? = some t ∧ t.1 = kd ∧ tv_ok ta t v := by
  obtain ⟨t, h1, h2⟩ := sy_name h hv
  refine ⟨t, h1, ?_, h2⟩
  unfold sy_kd at hk
  rw [h1] at hk
  exact hk
def lv_of (vs : List Value) (loc : List (Nat × Nat)) : List (Nat × Value) := loc.filterMap (fun q => (vs[q.2]?).map (fun v => (q.1, v)))
theorem lv_of_mem {vs : List Value} {loc : List (Nat × Nat)} {j n : Nat} {v : Value} (h : (j, n) ∈ loc) (hv : vs[n]? = some v) : (j, v) ∈ lv_of vs loc := List.mem_filterMap.mpr ⟨(j, n), h, by rw [hv]; rfl⟩
theorem lv_of_has {vs : List Value} {ls : Array Slot} {nL : Nat} {loc : List (Nat × Nat)} (h : ls.size = nL ∧ lv_wf ls ∧ ∀ q ∈ loc, sy_loc vs ls q) : lv_has ls nL (lv_of vs loc) := by
  refine ⟨h.1, h.2.1, fun q hq => ?_⟩
  obtain ⟨z, hz, e⟩ := List.mem_filterMap.mp hq
  obtain ⟨v, h1, h2⟩ := h.2.2 z hz
  rw [h1] at e
  have e2 : (z.1, v) = q := Option.some.inj e
  rw [← e2]; exact h2
/-- behind a store -/
theorem sy_stored {ta : Nat → Option Nat} {ws : va_W} {vs : List Value} {ls ls' : Array Slot} {nL : Nat} {st st' : List Value} {y : sy_T} {j kd n : Nat} {v : Value} {is : List Nat} (h : sy_ok ta ws vs ls nL st y) (hv : vs[n]? = some v) (hs : sy_st vs is st') (hl : lv_has ls' nL ((j, v) :: (lv_of vs y.2.1).filter (st_keep j kd))) : sy_ok ta ws vs ls' nL st' (sy_sto y j kd n is) := by
  obtain ⟨he, ⟨hl1, hl2, hl3⟩, _, hm, ho⟩ := h
  refine ⟨he, ⟨hl.1, hl.2.1, fun q hq => ?_⟩, hs, hm, ho⟩
  rcases List.mem_cons.mp hq with rfl | hq
  · exact ⟨v, hv, hl.2.2 (j, v) (List.mem_cons_self)⟩
  · obtain ⟨hq1, hq2⟩ := List.mem_filter.mp hq
    obtain ⟨w, h1, h2⟩ := hl3 q hq1
    refine ⟨w, h1, hl.2.2 (q.1, w) (List.mem_cons_of_mem _ (List.mem_filter.mpr ⟨lv_of_mem (n := q.2) hq1 h1, ?_⟩))⟩
    unfold st_keep
    simp only [Bool.and_eq_true, Bool.not_eq_true', Bool.and_eq_false_iff, beq_eq_false_iff_ne] at hq2 ⊢
    refine ⟨hq2.1, ?_⟩
    rcases hq2.2 with h3 | h3
    · exact Or.inl h3
    · refine Or.inr ?_
      obtain ⟨t, h4, h5⟩ := sy_name he h1
      have h6 : t.1 ≠ 1 := by
        unfold sy_kd at h3
        rw [h4] at h3
        exact h3
      rw [(tv_cat h5).2 h6]; decide
theorem pre_app {v0 vs : List Value} {v : Value} (h : v0 <+: vs) : v0 <+: vs ++ [v] := h.trans (List.prefix_append _ _)
section M4
variable {p : Program} {l : Launch} {e : Env} {R : Room} {s : State} {m : MethodId} {args : Array Value} {below : List Frame} {meth : Method} {c : Code} {H : Heap} {locs : List Loc} {cells slots : Nat} {Q : State → Prop} {cc : ByteArray} {pc : Nat} {i : ClassFile.Instr} {len nL : Nat} {v0 : List Value} {ta : Nat → Option Nat} {ws : va_W} {y y' : sy_T}
/-- whatever has this picture goes on well -/
def sy_go (p : Program) (l : Launch) (e : Env) (R : Room) (s : State) (m : MethodId) (args : Array Value) (below : List Frame) (meth : Method) (c : Code) (H : Heap) (locs : List Loc) (cells slots : Nat) (Q : State → Prop) (nL : Nat) (v0 : List Value) (ta : Nat → Option Nat) (ws : va_W) (pc : Nat) (y : sy_T) : Prop :=
  ∀ (vs : List Value) (ls : Array Slot) (st : List Value), v0 <+: vs → sy_ok ta ws vs ls nL st y → W p l e R s m args below meth c H locs cells slots Q (F0 m pc ls st)
theorem tr_pk_ok (hx : p.tables.exec = Jvm.exec) (hb : c.code = cc) (hd : decode cc pc = .ok (i, len)) (h : tr_pk i len y = some y') (k : sy_go p l e R s m args below meth c H locs cells slots Q nL v0 ta ws (pc + len) y') : sy_go p l e R s m args below meth c H locs cells slots Q nL v0 ta ws pc y := by
  intro vs ls st hp0 hy
  unfold tr_pk at h
  cases hc : pk_c i len with
  | none => rw [hc] at h; cases h
  | some q =>
    obtain ⟨v, t⟩ := q
    rw [hc] at h
    obtain rfl := Option.some.inj h
    exact pk_go hx hb hd hc (k _ _ _ (by first | exact hp0 | exact pre_app hp0) (sy_pushed hy hy.2.2.1 (pk_ty hc)))
theorem tr_ld_ok (hx : p.tables.exec = Jvm.exec) (hb : c.code = cc) (hd : decode cc pc = .ok (i, len)) (h : tr_ld i len y = some y') (k : sy_go p l e R s m args below meth c H locs cells slots Q nL v0 ta ws (pc + len) y') : sy_go p l e R s m args below meth c H locs cells slots Q nL v0 ta ws pc y := by
  intro vs ls st hp0 hy
  unfold tr_ld at h
  cases hc : ld_c i len with
  | none => rw [hc] at h; cases h
  | some q =>
    obtain ⟨j, kd⟩ := q
    rw [hc] at h
    simp only at h
    cases hf : sy_find y.2.1 j with
    | none => rw [hf] at h; cases h
    | some n =>
      rw [hf] at h
      simp only at h
      split at h
      · rename_i hk
        obtain rfl := Option.some.inj h
        obtain ⟨v, h1, h2⟩ := hy.2.1.2.2 (j, n) (sy_find_ok hf)
        obtain ⟨t, h3, h4, h5⟩ := sy_kd_ok hy.1 h1 hk.1
        exact ld_go hx hb hd hc h2 (h4 ▸ kd_of h5 (by omega)) (k _ _ _ (by first | exact hp0 | exact pre_app hp0) (sy_stack hy (is := n :: y.2.2.1) (st' := v :: st) ⟨h1, hy.2.2.1⟩))
      · cases h
theorem tr_st_ok (hx : p.tables.exec = Jvm.exec) (hb : c.code = cc) (hd : decode cc pc = .ok (i, len)) (h : tr_st nL i len y = some y') (k : sy_go p l e R s m args below meth c H locs cells slots Q nL v0 ta ws (pc + len) y') : sy_go p l e R s m args below meth c H locs cells slots Q nL v0 ta ws pc y := by
  intro vs ls st hp0 hy
  unfold tr_st at h
  cases hc : st_c i len with
  | none => rw [hc] at h; cases h
  | some q =>
    obtain ⟨j, kd⟩ := q
    rw [hc] at h
    simp only at h
    have hs := hy.2.2.1
    cases hst : y.2.2.1 with
    | nil => rw [hst] at h; cases h
    | cons n r =>
      rw [hst] at h hs
      simp only at h
      split at h
      · rename_i hk
        obtain rfl := Option.some.inj h
        cases st with
        | nil => exact hs.elim
        | cons v rest =>
          obtain ⟨t, h3, h4, h5⟩ := sy_kd_ok hy.1 hs.1 hk.1
          exact st_go hx hb hd hc (h4 ▸ kd_of h5 (by omega)) (lv_of_has hy.2.1) hk.2.2 (fun ls' hl => k _ _ _ (by first | exact hp0 | exact pre_app hp0) (sy_stored hy hs.1 hs.2 hl))
      · cases h
end M4
