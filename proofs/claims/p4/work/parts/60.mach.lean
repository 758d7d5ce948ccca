/-! values by kinds: (0, lo, hi, _) ints, (1, lo, hi, _) longs, (2, _, _, rs) references into the regions rs, (3, ..) the same or null, (5, lo, hi, [M]) ints that M divides -/
abbrev tv_T : Type := Nat × Int × Int × List Nat
def tv_ok (ta : Nat → Option Nat) (t : tv_T) (v : Value) : Prop :=
  (t.1 = 0 ∧ ∃ x : Int32, v = .int x ∧ t.2.1 ≤ x.toInt ∧ x.toInt ≤ t.2.2.1) ∨
  (t.1 = 1 ∧ ∃ x : Int64, v = .long x ∧ t.2.1 ≤ x.toInt ∧ x.toInt ≤ t.2.2.1) ∨
  (t.1 = 2 ∧ ∃ (a r : Nat), v = .ref a ∧ ta a = some r ∧ r ∈ t.2.2.2) ∨
  (t.1 = 3 ∧ (v = .null ∨ ∃ (a r : Nat), v = .ref a ∧ ta a = some r ∧ r ∈ t.2.2.2)) ∨
  (t.1 = 5 ∧ ∃ x : Int32, v = .int x ∧ t.2.1 ≤ x.toInt ∧ x.toInt ≤ t.2.2.1 ∧ ∃ q : Int, x.toInt = (t.2.2.2.headD 1 : Nat) * q) ∨
  (t.1 = 8 ∧ ∃ x : Int32, v = .int x ∧ pk4 t.2.2.2 x.toInt)
theorem tv_int {ta : Nat → Option Nat} {t : tv_T} {v : Value} (h : tv_ok ta t v) (h0 : t.1 = 0) : ∃ x : Int32, v = .int x ∧ t.2.1 ≤ x.toInt ∧ x.toInt ≤ t.2.2.1 := by
  rcases h with h | h | h | h | h | h
  · exact h.2
  · exact absurd (h0.symm.trans h.1) (by decide)
  · exact absurd (h0.symm.trans h.1) (by decide)
  · exact absurd (h0.symm.trans h.1) (by decide)
  · exact absurd (h0.symm.trans h.1) (by decide)
  · exact absurd (h0.symm.trans h.1) (by decide)
theorem tv_long {ta : Nat → Option Nat} {t : tv_T} {v : Value} (h : tv_ok ta t v) (h0 : t.1 = 1) : ∃ x : Int64, v = .long x ∧ t.2.1 ≤ x.toInt ∧ x.toInt ≤ t.2.2.1 := by
  rcases h with h | h | h | h | h | h
  · exact absurd (h0.symm.trans h.1) (by decide)
  · exact h.2
  · exact absurd (h0.symm.trans h.1) (by decide)
  · exact absurd (h0.symm.trans h.1) (by decide)
  · exact absurd (h0.symm.trans h.1) (by decide)
  · exact absurd (h0.symm.trans h.1) (by decide)
theorem tv_ref {ta : Nat → Option Nat} {t : tv_T} {v : Value} (h : tv_ok ta t v) (h0 : t.1 = 2) : ∃ (a r : Nat), v = .ref a ∧ ta a = some r ∧ r ∈ t.2.2.2 := by
  rcases h with h | h | h | h | h | h
  · exact absurd (h0.symm.trans h.1) (by decide)
  · exact absurd (h0.symm.trans h.1) (by decide)
  · exact h.2
  · exact absurd (h0.symm.trans h.1) (by decide)
  · exact absurd (h0.symm.trans h.1) (by decide)
  · exact absurd (h0.symm.trans h.1) (by decide)
theorem tv_nref {ta : Nat → Option Nat} {t : tv_T} {v : Value} (h : tv_ok ta t v) (h0 : t.1 = 3) : v = .null ∨ ∃ (a r : Nat), v = .ref a ∧ ta a = some r ∧ r ∈ t.2.2.2 := by
  rcases h with h | h | h | h | h | h
  · exact absurd (h0.symm.trans h.1) (by decide)
  · exact absurd (h0.symm.trans h.1) (by decide)
  · exact absurd (h0.symm.trans h.1) (by decide)
  · exact h.2
  · exact absurd (h0.symm.trans h.1) (by decide)
  · exact absurd (h0.symm.trans h.1) (by decide)
theorem tv_div {ta : Nat → Option Nat} {t : tv_T} {v : Value} (h : tv_ok ta t v) (h0 : t.1 = 5) : ∃ x : Int32, v = .int x ∧ t.2.1 ≤ x.toInt ∧ x.toInt ≤ t.2.2.1 ∧ ∃ q : Int, x.toInt = (t.2.2.2.headD 1 : Nat) * q := by
  rcases h with h | h | h | h | h | h
  · exact absurd (h0.symm.trans h.1) (by decide)
  · exact absurd (h0.symm.trans h.1) (by decide)
  · exact absurd (h0.symm.trans h.1) (by decide)
  · exact absurd (h0.symm.trans h.1) (by decide)
  · exact h.2
  · exact absurd (h0.symm.trans h.1) (by decide)
/-- the kind says how wide a value is -/
theorem tv_cat {ta : Nat → Option Nat} {t : tv_T} {v : Value} (h : tv_ok ta t v) : (t.1 = 1 → v.category = 2) ∧ (t.1 ≠ 1 → v.category = 1) := by
  rcases h with ⟨h, x, rfl, _⟩ | ⟨h, x, rfl, _⟩ | ⟨h, a, r, rfl, _⟩ | ⟨h, h2⟩ | ⟨h, x, rfl, _⟩ | ⟨h, x, rfl, _⟩
  · exact ⟨fun e => absurd (h.symm.trans e) (by decide), fun _ => rfl⟩
  · exact ⟨fun _ => rfl, fun e => absurd h e⟩
  · exact ⟨fun e => absurd (h.symm.trans e) (by decide), fun _ => rfl⟩
  · refine ⟨fun e => absurd (h.symm.trans e) (by decide), fun _ => ?_⟩
    rcases h2 with rfl | ⟨a, r, rfl, _⟩ <;> rfl
  · exact ⟨fun e => absurd (h.symm.trans e) (by decide), fun _ => rfl⟩
  · exact ⟨fun e => absurd (h.symm.trans e) (by decide), fun _ => rfl⟩
/-- a wider kind -/
def tv_le (t u : tv_T) : Bool :=
  if t.1 = 0 then decide (u.1 = 0) && decide (u.2.1 ≤ t.2.1) && decide (t.2.2.1 ≤ u.2.2.1)
  else if t.1 = 1 then decide (u.1 = 1) && decide (u.2.1 ≤ t.2.1) && decide (t.2.2.1 ≤ u.2.2.1)
  else if t.1 = 2 then (decide (u.1 = 2) || decide (u.1 = 3)) && t.2.2.2.all (fun r => u.2.2.2.contains r)
  else if t.1 = 3 then decide (u.1 = 3) && t.2.2.2.all (fun r => u.2.2.2.contains r)
  else decide (t.1 = 5) && decide (u.1 = 5) && decide (u.2.1 ≤ t.2.1) && decide (t.2.2.1 ≤ u.2.2.1) && decide (t.2.2.2.headD 1 = u.2.2.2.headD 1)
theorem tv_le_ok {ta : Nat → Option Nat} {t u : tv_T} {v : Value} (h : tv_le t u = true) (hv : tv_ok ta t v) : tv_ok ta u v := by
  unfold tv_le at h
  by_cases h0 : t.1 = 0
  · rw [if_pos h0] at h
    simp only [Bool.and_eq_true, decide_eq_true_eq] at h
    obtain ⟨x, e, a, b⟩ := tv_int hv h0
    exact Or.inl ⟨h.1.1, x, e, by omega, by omega⟩
  · rw [if_neg h0] at h
    by_cases h1 : t.1 = 1
    · rw [if_pos h1] at h
      simp only [Bool.and_eq_true, decide_eq_true_eq] at h
      obtain ⟨x, e, a, b⟩ := tv_long hv h1
      exact Or.inr (Or.inl ⟨h.1.1, x, e, by omega, by omega⟩)
    · rw [if_neg h1] at h
      by_cases h2 : t.1 = 2
      · rw [if_pos h2] at h
        simp only [Bool.and_eq_true, Bool.or_eq_true, decide_eq_true_eq, List.all_eq_true, List.contains_iff_mem] at h
        obtain ⟨a, r, e, e2, e3⟩ := tv_ref hv h2
        rcases h.1 with h3 | h3
        · exact Or.inr (Or.inr (Or.inl ⟨h3, a, r, e, e2, h.2 r e3⟩))
        · exact Or.inr (Or.inr (Or.inr (Or.inl ⟨h3, Or.inr ⟨a, r, e, e2, h.2 r e3⟩⟩)))
      · rw [if_neg h2] at h
        by_cases h3 : t.1 = 3
        · rw [if_pos h3] at h
          simp only [Bool.and_eq_true, decide_eq_true_eq, List.all_eq_true, List.contains_iff_mem] at h
          rcases tv_nref hv h3 with e | ⟨a, r, e, e2, e3⟩
          · exact Or.inr (Or.inr (Or.inr (Or.inl ⟨h.1, Or.inl e⟩)))
          · exact Or.inr (Or.inr (Or.inr (Or.inl ⟨h.1, Or.inr ⟨a, r, e, e2, h.2 r e3⟩⟩)))
        · rw [if_neg h3] at h
          simp only [Bool.and_eq_true, decide_eq_true_eq] at h
          obtain ⟨x, e, a, b, q, hq⟩ := tv_div hv h.1.1.1.1
          exact Or.inr (Or.inr (Or.inr (Or.inr (Or.inl ⟨h.1.1.1.2, x, e, by omega, by omega, q, by rw [← h.2]; exact hq⟩))))
theorem tv_mono {ta tb : Nat → Option Nat} {t : tv_T} {v : Value} (h : ta_le ta tb) (hv : tv_ok ta t v) : tv_ok tb t v := by
  rcases hv with hv | hv | ⟨k, a, r, e, e2, e3⟩ | ⟨k, e | ⟨a, r, e, e2, e3⟩⟩ | hv | hv
  · exact Or.inl hv
  · exact Or.inr (Or.inl hv)
  · exact Or.inr (Or.inr (Or.inl ⟨k, a, r, e, h a r e2, e3⟩))
  · exact Or.inr (Or.inr (Or.inr (Or.inl ⟨k, Or.inl e⟩)))
  · exact Or.inr (Or.inr (Or.inr (Or.inl ⟨k, Or.inr ⟨a, r, e, h a r e2, e3⟩⟩)))
  · exact Or.inr (Or.inr (Or.inr (Or.inr (Or.inl hv))))
  · exact Or.inr (Or.inr (Or.inr (Or.inr (Or.inr hv))))
theorem pl_tv {ta : Nat → Option Nat} {t : tv_T} {x : Int32} (h : pl_k t x.toInt) : tv_ok ta t (.int x) := by
  unfold pl_k at h
  split at h
  · rename_i h0; exact Or.inl ⟨h0, x, rfl, h.1, h.2⟩
  · split at h
    · rename_i h8; exact Or.inr (Or.inr (Or.inr (Or.inr (Or.inr ⟨h8, x, rfl, h⟩))))
    · exact h.elim
theorem tv_pl {ta : Nat → Option Nat} {t : tv_T} {x : Int32} (h : tv_ok ta t (.int x)) (hk : t.1 = 0 ∨ t.1 = 8) : pl_k t x.toInt := by
  unfold pl_k
  rcases hk with hk | hk
  · rw [if_pos hk]
    obtain ⟨x', e, a, b⟩ := tv_int h hk
    cases e; exact ⟨a, b⟩
  · rw [if_neg (by omega), if_pos hk]
    rcases h with h | h | h | h | h | ⟨_, x', e, h⟩
    · omega
    · omega
    · omega
    · omega
    · omega
    · cases e; exact h
/-! regions: (kind, least length, most length, what an element is, what each field is); kinds 0 to 3: arrays of ints, bytes, booleans, longs; 4 to 9: of references; 10 + c: objects of class c; an array of ints whose fields are not none: what an element is, by its place modulo their number -/
abbrev rg_T : Type := Nat × Nat × Nat × tv_T × List tv_T
def rg_ok (kA : Nat → ClassId) (ta : Nat → Option Nat) (g : rg_T) (e : va_E) : Prop :=
  (g.1 < 3 ∧ ∃ (n : Nat) (f : Nat → Int32), e = .inl (kA g.1, n, .inl f) ∧ g.2.1 ≤ n ∧ n ≤ g.2.2.1 ∧ g.2.2.2.1.1 = 0 ∧ (∀ j, j < n → tv_ok ta g.2.2.2.1 (.int (f j))) ∧ ∀ (j : Nat) (t : tv_T), j < n → g.2.2.2.2[j % g.2.2.2.2.length]? = some t → tv_ok ta t (.int (f j))) ∨
  (g.1 = 3 ∧ ∃ (n : Nat) (f : Nat → Int64), e = .inl (kA 3, n, .inr (.inl f)) ∧ g.2.1 ≤ n ∧ n ≤ g.2.2.1 ∧ g.2.2.2.1.1 = 1 ∧ ∀ j, j < n → tv_ok ta g.2.2.2.1 (.long (f j))) ∨
  (4 ≤ g.1 ∧ g.1 < 10 ∧ ∃ (n : Nat) (f : Nat → Option Nat), e = .inl (kA g.1, n, .inr (.inr (.inr (.inr f)))) ∧ g.2.1 ≤ n ∧ n ≤ g.2.2.1 ∧ ∀ j, j < n → tv_ok ta g.2.2.2.1 (va_rf (f j))) ∨
  (10 ≤ g.1 ∧ ∃ fs : List Value, e = .inr (g.1 - 10, fs) ∧ fs.length = g.2.2.2.2.length ∧ ∀ (j : Nat) (t : tv_T) (v : Value), g.2.2.2.2[j]? = some t → fs[j]? = some v → tv_ok ta t v)
theorem rg_mono {kA : Nat → ClassId} {ta tb : Nat → Option Nat} {g : rg_T} {e : va_E} (h : ta_le ta tb) (hg : rg_ok kA ta g e) : rg_ok kA tb g e := by
  rcases hg with ⟨k, n, f, e1, a, b, q, c, d⟩ | ⟨k, n, f, e1, a, b, q, c⟩ | ⟨k, k2, n, f, e1, a, b, c⟩ | ⟨k, fs, e1, a, c⟩
  · exact Or.inl ⟨k, n, f, e1, a, b, q, fun j hj => tv_mono h (c j hj), fun j t hj ht => tv_mono h (d j t hj ht)⟩
  · exact Or.inr (Or.inl ⟨k, n, f, e1, a, b, q, fun j hj => tv_mono h (c j hj)⟩)
  · exact Or.inr (Or.inr (Or.inl ⟨k, k2, n, f, e1, a, b, fun j hj => tv_mono h (c j hj)⟩))
  · exact Or.inr (Or.inr (Or.inr ⟨k, fs, e1, a, fun j t v h1 h2 => tv_mono h (c j t v h1 h2)⟩))
/-- the world is as the regions say -/
def th_ro (kA : Nat → ClassId) (G : List rg_T) (ws : va_W) (a r : Nat) : Prop := G[r]? = none ∧ ro_id r = true ∧ a = kA r ∧ ∀ e, (a, e) ∉ ws
def th_ok (kA : Nat → ClassId) (G : List rg_T) (ta : Nat → Option Nat) (ws : va_W) : Prop := (∀ a r, ta a = some r → (∃ g e, G[r]? = some g ∧ (a, e) ∈ ws ∧ rg_ok kA ta g e) ∨ th_ro kA G ws a r) ∧ ∀ r, ro_id r = true → ∃ r', ro_id r' = true ∧ ta (kA r) = some r' ∧ (r ≠ 5500 → r' = r)
theorem th_in {kA : Nat → ClassId} {G : List rg_T} {ta : Nat → Option Nat} {ws : va_W} (h : th_ok kA G ta ws) {a r : Nat} (ha : ta a = some r) {g : rg_T} (hg : G[r]? = some g) : ∃ e, (a, e) ∈ ws ∧ rg_ok kA ta g e := by
  rcases h.1 a r ha with ⟨g', e, h1, h2, h3⟩ | h
  · rw [hg] at h1
    obtain rfl := Option.some.inj h1
    exact ⟨e, h2, h3⟩
  · rw [h.1] at hg; cases hg
/-- a cell of the world is set anew -/
theorem th_set {kA : Nat → ClassId} {G : List rg_T} {ta : Nat → Option Nat} {ws : va_W} {A : Nat → Prop} (hD : va_D A ws) (h : th_ok kA G ta ws) {q0 a : Nat} {e0 e1 : va_E} (hq : ws[q0]? = some (a, e0)) {r : Nat} {g : rg_T} (hr : ta a = some r) (hg : G[r]? = some g) (he : rg_ok kA ta g e1) : th_ok kA G ta (ws.set q0 (a, e1)) := by
  have hlt := (List.getElem?_eq_some_iff.mp hq).1
  refine ⟨fun a' r' hr' => ?_, h.2⟩
  by_cases ha : a' = a
  · subst ha
    rw [hr] at hr'
    obtain rfl := Option.some.inj hr'
    exact Or.inl ⟨g, e1, hg, List.mem_iff_getElem?.mpr ⟨q0, by rw [List.getElem?_set_self hlt]⟩, he⟩
  · rcases h.1 a' r' hr' with ⟨g', e', hg', hm, ho⟩ | ⟨z1, z2, z3, z4⟩
    · obtain ⟨i, hi⟩ := List.mem_iff_getElem?.mp hm
      refine Or.inl ⟨g', e', hg', List.mem_iff_getElem?.mpr ⟨i, ?_⟩, ho⟩
      rw [List.getElem?_set_ne (fun e => by subst e; rw [hq] at hi; exact ha (Prod.mk.inj (Option.some.inj hi)).1.symm)]
      exact hi
    · refine Or.inr ⟨z1, z2, z3, fun e he' => ?_⟩
      rcases List.mem_or_eq_of_mem_set he' with q | q
      · exact z4 e q
      · exact ha (Prod.mk.inj q).1
/-- a new cell -/
theorem th_new {kA : Nat → ClassId} {G : List rg_T} {ta : Nat → Option Nat} {ws : va_W} (h : th_ok kA G ta ws) {a : Nat} {e1 : va_E} (hn : ta a = none) {r : Nat} {g : rg_T} (hg : G[r]? = some g) (he : rg_ok kA (fun q => if q = a then some r else ta q) g e1) : ta_le ta (fun q => if q = a then some r else ta q) ∧ th_ok kA G (fun q => if q = a then some r else ta q) (ws ++ [(a, e1)]) := by
  have hle : ta_le ta (fun q => if q = a then some r else ta q) := fun q r' hq => by
    show (if q = a then some r else ta q) = some r'
    by_cases e : q = a
    · subst e; rw [hn] at hq; cases hq
    · rw [if_neg e]; exact hq
  refine ⟨hle, fun a' r' hr' => ?_, fun q hq => by obtain ⟨q2, z1, z2, z3⟩ := h.2 q hq; exact ⟨q2, z1, hle _ _ z2, z3⟩⟩
  have hr2 : (if a' = a then some r else ta a') = some r' := hr'
  by_cases e : a' = a
  · subst e
    rw [if_pos rfl] at hr2
    obtain rfl := Option.some.inj hr2
    exact Or.inl ⟨g, e1, hg, List.mem_append_right _ (List.mem_singleton.mpr rfl), he⟩
  · rw [if_neg e] at hr2
    rcases h.1 a' r' hr2 with ⟨g', e', hg', hm, ho⟩ | ⟨z1, z2, z3, z4⟩
    · exact Or.inl ⟨g', e', hg', List.mem_append_left _ hm, rg_mono hle ho⟩
    · refine Or.inr ⟨z1, z2, z3, fun e2 he2 => ?_⟩
      rcases List.mem_append.mp he2 with q | q
      · exact z4 e2 q
      · exact e (Prod.mk.inj (List.mem_singleton.mp q)).1
/-! the picture of a frame: (kinds of the names, locals by names, stack of names, fields whose values have names, how far names lie apart, which names a number divides) -/
abbrev of_T : Type := Nat × Nat × Int × Int
abbrev sy_T : Type := List tv_T × List (Nat × Nat) × List Nat × List ((Nat × Nat) × Nat) × List of_T × List (Nat × Nat)
def sy_mem (vs : List Value) (ws : va_W) (q : (Nat × Nat) × Nat) : Prop := ∃ (a ci : Nat) (fs : List Value) (v : Value), vs[q.1.1]? = some (.ref a) ∧ (a, .inr (ci, fs)) ∈ ws ∧ fs[q.1.2]? = some v ∧ vs[q.2]? = some v
def sy_ofs (vs : List Value) (q : of_T) : Prop := ∃ x y : Int32, vs[q.1]? = some (.int x) ∧ vs[q.2.1]? = some (.int y) ∧ y.toInt + q.2.2.1 ≤ x.toInt ∧ x.toInt ≤ y.toInt + q.2.2.2
def sy_dv (vs : List Value) (q : Nat × Nat) : Prop := ∃ (x : Int32) (k : Int), vs[q.1]? = some (.int x) ∧ x.toInt = (q.2 : Nat) * k
def sy_loc (vs : List Value) (ls : Array Slot) (q : Nat × Nat) : Prop := ∃ v, vs[q.2]? = some v ∧ ls[q.1]? = some (.val v)
def sy_st (vs : List Value) : List Nat → List Value → Prop
  | [], [] => True
  | i :: r, v :: t => vs[i]? = some v ∧ sy_st vs r t
  | _, _ => False
def sy_env (ta : Nat → Option Nat) (env : List tv_T) (vs : List Value) : Prop := vs.length = env.length ∧ ∀ (i : Nat) (t : tv_T) (v : Value), env[i]? = some t → vs[i]? = some v → tv_ok ta t v
def sy_ok (ta : Nat → Option Nat) (ws : va_W) (vs : List Value) (ls : Array Slot) (nL : Nat) (st : List Value) (y : sy_T) : Prop :=
  sy_env ta y.1 vs ∧ (ls.size = nL ∧ lv_wf ls ∧ ∀ q ∈ y.2.1, sy_loc vs ls q) ∧ sy_st vs y.2.2.1 st ∧ (∀ q ∈ y.2.2.2.1, sy_mem vs ws q) ∧ (∀ q ∈ y.2.2.2.2.1, sy_ofs vs q) ∧ ∀ q ∈ y.2.2.2.2.2, sy_dv vs q
theorem sy_app {vs : List Value} {w : Value} {i : Nat} {v : Value} (h : vs[i]? = some v) : (vs ++ [w])[i]? = some v := by
  rw [List.getElem?_append_left (List.getElem?_eq_some_iff.mp h).1]; exact h
theorem sy_st_app {vs : List Value} {w : Value} : ∀ {is : List Nat} {st : List Value}, sy_st vs is st → sy_st (vs ++ [w]) is st
  | [], [], _ => trivial
  | _ :: _, _ :: _, h => ⟨sy_app h.1, sy_st_app h.2⟩
  | [], _ :: _, h => h.elim
  | _ :: _, [], h => h.elim
theorem sy_env_app {ta : Nat → Option Nat} {env : List tv_T} {vs : List Value} {t : tv_T} {v : Value} (h : sy_env ta env vs) (hv : tv_ok ta t v) : sy_env ta (env ++ [t]) (vs ++ [v]) := by
  refine ⟨by rw [List.length_append, List.length_append, h.1]; rfl, fun i t' v' h1 h2 => ?_⟩
  by_cases hi : i < env.length
  · rw [List.getElem?_append_left hi] at h1
    rw [List.getElem?_append_left (by rw [h.1]; exact hi)] at h2
    exact h.2 i t' v' h1 h2
  · have hb := (List.getElem?_eq_some_iff.mp h1).1
    rw [List.length_append] at hb
    have hb2 : i < env.length + 1 := hb
    have e : i = env.length := by omega
    subst e
    rw [List.getElem?_append_right (Nat.le_refl _), Nat.sub_self] at h1
    have hlen : vs.length = env.length := h.1
    rw [List.getElem?_append_right (by omega), show env.length - vs.length = 0 by omega] at h2
    have e1 : t = t' := Option.some.inj h1
    have e2 : v = v' := Option.some.inj h2
    rw [← e1, ← e2]; exact hv
/-- a new name -/
def sy_push (y : sy_T) (t : tv_T) (st : List Nat) : sy_T := (y.1 ++ [t], y.2.1, y.1.length :: st, y.2.2.2.1, y.2.2.2.2)
theorem sy_pushed {ta : Nat → Option Nat} {ws : va_W} {vs : List Value} {ls : Array Slot} {nL : Nat} {st st' : List Value} {y : sy_T} {is : List Nat} {t : tv_T} {v : Value} (h : sy_ok ta ws vs ls nL st y) (hs : sy_st vs is st') (hv : tv_ok ta t v) : sy_ok ta ws (vs ++ [v]) ls nL (v :: st') (sy_push y t is) := by
  obtain ⟨he, ⟨hl1, hl2, hl3⟩, _, hm, ho, hd⟩ := h
  refine ⟨sy_env_app he hv, ⟨hl1, hl2, fun q hq => ?_⟩, ⟨?_, sy_st_app hs⟩, fun q hq => ?_, fun q hq => ?_, fun q hq => ?_⟩
  · obtain ⟨w, h1, h2⟩ := hl3 q hq; exact ⟨w, sy_app h1, h2⟩
  · rw [← he.1, List.getElem?_append_right (Nat.le_refl _), Nat.sub_self]; rfl
  · obtain ⟨a, ci, fs, w, h1, h2, h3, h4⟩ := hm q hq; exact ⟨a, ci, fs, w, sy_app h1, h2, h3, sy_app h4⟩
  · obtain ⟨x, z, h1, h2, h3⟩ := ho q hq; exact ⟨x, z, sy_app h1, sy_app h2, h3⟩
  · obtain ⟨x, z, h1, h2⟩ := hd q hq; exact ⟨x, z, sy_app h1, h2⟩
/-- another stack over the same names -/
theorem sy_stack {ta : Nat → Option Nat} {ws : va_W} {vs : List Value} {ls : Array Slot} {nL : Nat} {st st' : List Value} {y : sy_T} {is : List Nat} (h : sy_ok ta ws vs ls nL st y) (hs : sy_st vs is st') : sy_ok ta ws vs ls nL st' (y.1, y.2.1, is, y.2.2.2.1, y.2.2.2.2) := ⟨h.1, h.2.1, hs, h.2.2.2⟩
theorem sy_name {ta : Nat → Option Nat} {env : List tv_T} {vs : List Value} (h : sy_env ta env vs) {i : Nat} {v : Value} (hv : vs[i]? = some v) : ∃ t, env[i]? = some t ∧ tv_ok ta t v := by
  have hi := (List.getElem?_eq_some_iff.mp hv).1
  rw [h.1] at hi
  exact ⟨env[i], List.getElem?_eq_getElem hi, h.2 i _ v (List.getElem?_eq_getElem hi) hv⟩
