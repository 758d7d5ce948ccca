/-! notes: (place, locals, stack, (cells, slots), what falls) -/
abbrev me_T : Type := Nat × Nat × Int
abbrev an_T : Type := Nat × List (Nat × tv_T) × List tv_T × (Nat × Nat) × List me_T
def an_loc : List (Nat × tv_T) → Nat → List (Nat × Nat)
  | [], _ => []
  | q :: r, k => (q.1, k) :: an_loc r (k + 1)
def an_st (n : Nat) : List tv_T → List Nat
  | [] => []
  | _ :: r => n :: an_st (n + 1) r
def an_y (an : an_T) : sy_T := (an.2.1.map (fun q => q.2) ++ an.2.2.1, an_loc an.2.1 0, an_st an.2.1.length an.2.2.1, [], [])
def me_val (vs : List Value) (q : me_T) : Nat := match q.1 with
  | 0 => q.2.2.toNat
  | 1 => (match vs[q.2.1]? with | some (.int x) => (q.2.2 - x.toInt).toNat | _ => 0)
  | _ => (match vs[q.2.1]? with | some (.int x) => (x.toInt - q.2.2).toNat | _ => 0)
def lx_lt : List Nat → List Nat → Prop
  | a :: s, b :: t => a < b ∨ (a = b ∧ lx_lt s t)
  | _, _ => False
theorem lx_ind : ∀ (K : Nat) (P : List Nat → Prop), (∀ v, v.length = K → (∀ w, w.length = K → lx_lt w v → P w) → P v) → ∀ v, v.length = K → P v
  | 0, P, h, v, hv => h v hv (fun w hw hl => by
      cases w with
      | nil => exact hl.elim
      | cons _ _ => cases hw)
  | K + 1, P, h, v, hv => by
    cases v with
    | nil => cases hv
    | cons a t =>
      have main : ∀ (n : Nat) (a : Nat), a < n → ∀ t : List Nat, t.length = K → P (a :: t) := by
        intro n
        induction n with
        | zero => intro a ha; omega
        | succ n ih =>
          intro a ha t ht
          refine lx_ind K (fun t => P (a :: t)) (fun t ht hlt => h (a :: t) (by rw [List.length_cons, ht]) (fun w hw hl => ?_)) t ht
          cases w with
          | nil => cases hw
          | cons b u =>
            have hu : u.length = K := by rw [List.length_cons] at hw; omega
            rcases hl with hl | ⟨e, hl⟩
            · exact ih b (by omega) u hu
            · subst e; exact hlt u hu hl
      exact main (a + 1) a (by omega) t (by rw [List.length_cons] at hv; omega)
def me_dn (y : sy_T) (o : me_T) (n : Nat) (t : tv_T) : Bool := decide (t.1 = 0) && (if o.1 = 1 then decide (t.2.2.1 ≤ o.2.2) else decide (o.2.2 ≤ t.2.1)) && y.2.2.2.2.any (fun f => decide (f.1 = n) && decide (f.2.1 = o.2.1) && (if o.1 = 1 then decide (1 ≤ f.2.2) else decide (f.2.2 ≤ -1)))
/-- 0: less, 1: the same, 2: not known -/
def me_one (y : sy_T) (nl : List (Nat × tv_T)) (o w : me_T) : Nat :=
  if o.1 = 0 then (if w.1 = 0 then (if 0 ≤ w.2.2 ∧ w.2.2 < o.2.2 then 0 else if w.2.2 = o.2.2 then 1 else 2) else 2)
  else if o.1 = w.1 ∧ o.2.2 = w.2.2 ∧ o.1 ≤ 2 then (match nl[w.2.1]? with
    | some q => (match sy_find y.2.1 q.1 with
      | some n => if n = o.2.1 then 1 else (match y.1[n]? with
        | some t => if me_dn y o n t = true then 0 else 2
        | none => 2)
      | none => 2)
    | none => 2)
  else 2
def me_chk (y : sy_T) (nl : List (Nat × tv_T)) : List me_T → List me_T → Bool
  | o :: os, w :: ws => (match me_one y nl o w with | 0 => true | 1 => me_chk y nl os ws | _ => false)
  | _, _ => false
def an_one (y : sy_T) (q : Nat × tv_T) : Bool := match sy_find y.2.1 q.1 with
  | some n => (match y.1[n]? with | some u => tv_le u q.2 | none => false)
  | none => false
def an_sub (old : List me_T) (an : an_T) (y : sy_T) (ce sl : Nat) : Bool := an.2.1.all (an_one y) && ag_chk y.1 an.2.2.1 y.2.2.1 && decide (ce ≤ an.2.2.2.1.1) && decide (sl ≤ an.2.2.2.1.2) && me_chk y an.2.1 old an.2.2.2.2
def an_v (y : sy_T) (vs : List Value) (q : Nat × tv_T) : Value := ((sy_find y.2.1 q.1).bind (fun n => vs[n]?)).getD .null
theorem an_one_ok {ta : Nat → Option Nat} {ws : va_W} {vs : List Value} {ls : Array Slot} {nL : Nat} {st : List Value} {y : sy_T} (hy : sy_ok ta ws vs ls nL st y) {q : Nat × tv_T} (h : an_one y q = true) : ∃ n, sy_find y.2.1 q.1 = some n ∧ vs[n]? = some (an_v y vs q) ∧ tv_ok ta q.2 (an_v y vs q) ∧ ls[q.1]? = some (.val (an_v y vs q)) := by
  unfold an_one at h
  split at h
  · rename_i n hn
    split at h
    · rename_i u hu
      obtain ⟨v, h1, h2⟩ := hy.2.1.2.2 (q.1, n) (sy_find_ok hn)
      have e : an_v y vs q = v := by unfold an_v; rw [hn]; show ((vs[n]?).getD .null) = v; rw [h1]; rfl
      rw [e]
      exact ⟨n, hn, h1, tv_le_ok h (hy.1.2 n u v hu h1), h2⟩
    · cases h
  · cases h
theorem an_loc_mem : ∀ {L : List (Nat × tv_T)} {k : Nat} {q : Nat × Nat}, q ∈ an_loc L k → ∃ i t, L[i]? = some (q.1, t) ∧ q.2 = k + i
  | [], _, _, h => by cases h
  | z :: L, k, q, h => by
    unfold an_loc at h
    rcases List.mem_cons.mp h with rfl | h
    · exact ⟨0, z.2, rfl, by omega⟩
    · obtain ⟨i, t, h1, h2⟩ := an_loc_mem h
      exact ⟨i + 1, t, h1, by omega⟩
theorem an_st_ok {L : List Value} : ∀ {ts : List tv_T} {st : List Value} {pre : List Value}, L = pre ++ st → st.length = ts.length → sy_st L (an_st pre.length ts) st
  | [], [], _, _, _ => trivial
  | t :: ts, v :: st, pre, e, h => by
    refine ⟨?_, ?_⟩
    · rw [e, List.getElem?_append_right (Nat.le_refl _), Nat.sub_self]; rfl
    · have e2 : L = (pre ++ [v]) ++ st := by rw [e, List.append_assoc]; rfl
      have := an_st_ok (ts := ts) (st := st) (pre := pre ++ [v]) e2 (by rw [List.length_cons, List.length_cons] at h; omega)
      rw [List.length_append] at this
      exact this
  | [], _ :: _, _, _, h => by cases h
  | _ :: _, [], _, _, h => by cases h
theorem ag_at {ta : Nat → Option Nat} : ∀ {ts : List tv_T} {vs : List Value}, ag_ok ta ts vs → ∀ (i : Nat) (t : tv_T) (v : Value), ts[i]? = some t → vs[i]? = some v → tv_ok ta t v
  | [], [], _, i, t, v, h1, _ => by cases h1
  | t0 :: ts, v0 :: vs, h, i, t, v, h1, h2 => by
    cases i with
    | zero => rw [← Option.some.inj h1, ← Option.some.inj h2]; exact h.1
    | succ i => exact ag_at h.2 i t v h1 h2
  | [], _ :: _, h, _, _, _, _, _ => h.elim
  | _ :: _, [], h, _, _, _, _, _ => h.elim
/-- what fits a note has its picture -/
theorem an_in {ta : Nat → Option Nat} {ws : va_W} {vs : List Value} {ls : Array Slot} {nL : Nat} {st : List Value} {y : sy_T} {an : an_T} (hy : sy_ok ta ws vs ls nL st y) (h1 : an.2.1.all (an_one y) = true) (h2 : ag_chk y.1 an.2.2.1 y.2.2.1 = true) : sy_ok ta ws (an.2.1.map (an_v y vs) ++ st) ls nL st (an_y an) := by
  have hall := List.all_eq_true.mp h1
  have hag := ag_chk_ok hy.1 h2 hy.2.2.1
  have hlen := ag_len hag
  have hl : (an.2.1.map (an_v y vs)).length = an.2.1.length := List.length_map _
  refine ⟨⟨?_, fun i t v e1 e2 => ?_⟩, ⟨hy.2.1.1, hy.2.1.2.1, fun q hq => ?_⟩, ?_, fun q hq => absurd hq List.not_mem_nil, fun q hq => absurd hq List.not_mem_nil⟩
  · show (an.2.1.map (an_v y vs) ++ st).length = (an.2.1.map (fun q => q.2) ++ an.2.2.1).length
    rw [List.length_append, List.length_append, List.length_map, List.length_map, hlen]
  · have e1' : (an.2.1.map (fun q => q.2) ++ an.2.2.1)[i]? = some t := e1
    by_cases hi : i < an.2.1.length
    · rw [List.getElem?_append_left (by rw [List.length_map]; exact hi), List.getElem?_map, List.getElem?_eq_getElem hi] at e1'
      rw [List.getElem?_append_left (by rw [List.length_map]; exact hi), List.getElem?_map, List.getElem?_eq_getElem hi] at e2
      have a1 : (an.2.1[i]).2 = t := Option.some.inj e1'
      have a2 : an_v y vs an.2.1[i] = v := Option.some.inj e2
      obtain ⟨n, _, _, b3, _⟩ := an_one_ok hy (hall _ (List.getElem_mem hi))
      rw [← a1, ← a2]; exact b3
    · rw [List.getElem?_append_right (by rw [List.length_map]; omega), List.length_map] at e1'
      rw [List.getElem?_append_right (by rw [List.length_map]; omega), List.length_map] at e2
      exact ag_at hag _ t v e1' e2
  · obtain ⟨i, t, e1, e2⟩ := an_loc_mem hq
    have hi := (List.getElem?_eq_some_iff.mp e1).1
    have e3 : an.2.1[i] = (q.1, t) := (List.getElem?_eq_some_iff.mp e1).2
    obtain ⟨n, _, b2, b3, b4⟩ := an_one_ok hy (hall _ (List.getElem_mem hi))
    rw [e3] at b4
    refine ⟨an_v y vs (q.1, t), ?_, b4⟩
    rw [show q.2 = i by omega, List.getElem?_append_left (by rw [List.length_map]; exact hi), List.getElem?_map, List.getElem?_eq_getElem hi, e3]; rfl
  · have := an_st_ok (L := an.2.1.map (an_v y vs) ++ st) (ts := an.2.2.1) (st := st) (pre := an.2.1.map (an_v y vs)) rfl hlen
    rw [List.length_map] at this
    exact this
theorem pre_at {v0 vs : List Value} (h : v0 <+: vs) {i : Nat} {v : Value} (hv : v0[i]? = some v) : vs[i]? = some v := by
  obtain ⟨t, rfl⟩ := h
  rw [List.getElem?_append_left (List.getElem?_eq_some_iff.mp hv).1]; exact hv
/-- what falls, falls -/
theorem me_one_ok {ta : Nat → Option Nat} {ws : va_W} {vs v0 : List Value} {ls : Array Slot} {nL : Nat} {st : List Value} {y : sy_T} {an : an_T} (hy : sy_ok ta ws vs ls nL st y) (h1 : an.2.1.all (an_one y) = true) (hp : v0 <+: vs) {o w : me_T} (ho : o.1 = 0 ∨ o.2.1 < v0.length) : (me_one y an.2.1 o w = 0 → me_val (an.2.1.map (an_v y vs) ++ st) w < me_val v0 o) ∧ (me_one y an.2.1 o w = 1 → me_val (an.2.1.map (an_v y vs) ++ st) w = me_val v0 o) := by
  unfold me_one
  by_cases h0 : o.1 = 0
  · rw [if_pos h0]
    by_cases hw : w.1 = 0
    · rw [if_pos hw]
      have e1 : me_val v0 o = o.2.2.toNat := by unfold me_val; rw [h0]; rfl
      have e2 : me_val (an.2.1.map (an_v y vs) ++ st) w = w.2.2.toNat := by unfold me_val; rw [hw]; rfl
      rw [e1, e2]
      refine ⟨fun h => ?_, fun h => ?_⟩
      · split at h
        · omega
        · split at h <;> cases h
      · split at h
        · cases h
        · split at h
          · rename_i e; rw [e]
          · cases h
    · rw [if_neg hw]; exact ⟨fun h => absurd h (by decide), fun h => absurd h (by decide)⟩
  · rw [if_neg h0]
    have ho2 := ho.resolve_left h0
    by_cases hk : o.1 = w.1 ∧ o.2.2 = w.2.2 ∧ o.1 ≤ 2
    · rw [if_pos hk]
      split
      · rename_i q hq
        have hi := (List.getElem?_eq_some_iff.mp hq).1
        have eq3 : an.2.1[w.2.1] = q := (List.getElem?_eq_some_iff.mp hq).2
        obtain ⟨n, b1, b2, b3, _⟩ := an_one_ok hy (List.all_eq_true.mp h1 _ (List.getElem_mem hi))
        rw [eq3] at b1 b2 b3
        have hnew : (an.2.1.map (an_v y vs) ++ st)[w.2.1]? = some (an_v y vs q) := by rw [List.getElem?_append_left (by rw [List.length_map]; exact hi), List.getElem?_map, hq]; rfl
        have hold : v0[o.2.1]? = some v0[o.2.1] := List.getElem?_eq_getElem ho2
        have hold2 := pre_at hp hold
        split
        · rename_i n' hn'
          rw [b1] at hn'
          obtain rfl := Option.some.inj hn'
          split
          · rename_i en
            subst en
            refine ⟨fun h => absurd h (by decide), fun _ => ?_⟩
            rw [hold2] at b2
            have e5 := Option.some.inj b2
            unfold me_val
            rw [← hk.1, hnew, hold, e5, hk.2.1]
          · split
            · rename_i t ht
              split
              · rename_i hc
                refine ⟨fun _ => ?_, fun h => absurd h (by decide)⟩
                unfold me_dn at hc
                rw [Bool.and_eq_true, Bool.and_eq_true] at hc
                obtain ⟨⟨hc1, c2⟩, hc3⟩ := hc
                have hc0 : t.1 = 0 := by simpa using hc1
                obtain ⟨f, f1, f2⟩ := List.any_eq_true.mp hc3
                rw [Bool.and_eq_true, Bool.and_eq_true] at f2
                obtain ⟨⟨f3, f4⟩, c3⟩ := f2
                have f3' : f.1 = n := by simpa using f3
                have f4' : f.2.1 = o.2.1 := by simpa using f4
                obtain ⟨x, z, g1, g2, g3⟩ := hy.2.2.2.2 f f1
                rw [f3'] at g1
                rw [f4'] at g2
                obtain ⟨x', e6, x1, x2⟩ := tv_int (hy.1.2 n t _ ht g1) hc0
                obtain rfl := Value.int.inj e6
                rw [g1] at b2
                rw [g2] at hold2
                have e7 := Option.some.inj b2
                have e8 := Option.some.inj hold2
                unfold me_val
                rw [← hk.1, hnew, hold, ← e7, ← e8, ← hk.2.1]
                have ok : o.1 = 1 ∨ o.1 = 2 := by have := hk.2.2; omega
                rcases ok with ok | ok
                · rw [if_pos ok] at c2 c3
                  have c2' : t.2.2.1 ≤ o.2.2 := by simpa using c2
                  have c3' : 1 ≤ f.2.2 := by simpa using c3
                  rw [ok]
                  show (o.2.2 - x.toInt).toNat < (o.2.2 - z.toInt).toNat
                  omega
                · have ok2 : ¬ o.1 = 1 := by omega
                  rw [if_neg ok2] at c2 c3
                  have c2' : o.2.2 ≤ t.2.1 := by simpa using c2
                  have c3' : f.2.2 ≤ -1 := by simpa using c3
                  rw [ok]
                  show (x.toInt - o.2.2).toNat < (z.toInt - o.2.2).toNat
                  omega
              · exact ⟨fun h => absurd h (by decide), fun h => absurd h (by decide)⟩
            · exact ⟨fun h => absurd h (by decide), fun h => absurd h (by decide)⟩
        · exact ⟨fun h => absurd h (by decide), fun h => absurd h (by decide)⟩
      · exact ⟨fun h => absurd h (by decide), fun h => absurd h (by decide)⟩
    · rw [if_neg hk]; exact ⟨fun h => absurd h (by decide), fun h => absurd h (by decide)⟩
theorem me_chk_ok {ta : Nat → Option Nat} {ws : va_W} {vs v0 : List Value} {ls : Array Slot} {nL : Nat} {st : List Value} {y : sy_T} {an : an_T} (hy : sy_ok ta ws vs ls nL st y) (h1 : an.2.1.all (an_one y) = true) (hp : v0 <+: vs) : ∀ {os ws' : List me_T}, (∀ o ∈ os, o.1 = 0 ∨ o.2.1 < v0.length) → me_chk y an.2.1 os ws' = true → lx_lt (ws'.map (me_val (an.2.1.map (an_v y vs) ++ st))) (os.map (me_val v0))
  | [], _, _, h => by cases h
  | _ :: _, [], _, h => by cases h
  | o :: os, w :: ws', ho, h => by
    have key := me_one_ok (an := an) hy h1 hp (o := o) (w := w) (ho o List.mem_cons_self)
    unfold me_chk at h
    rw [List.map_cons, List.map_cons]
    split at h
    · rename_i e; exact Or.inl (key.1 e)
    · rename_i e; exact Or.inr ⟨key.2 e, me_chk_ok hy h1 hp (fun o ho' => ho o (List.mem_cons_of_mem _ ho')) h⟩
    · cases h
