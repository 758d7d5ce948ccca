/-! notes: (place, locals, stack, (cells, slots), what falls, how far names lie apart, fields whose values have names, what is known at the start, the first name and the kinds of values that are no locals, facts) -/
abbrev me_T : Type := Nat × Nat × Int
abbrev an_T : Type := Nat × List (Nat × tv_T) × List tv_T × (Nat × Nat) × List me_T × List of_T × List ((Nat × Nat) × tv_T) × List tv_T × Nat × List tv_T × List fc_T
def an_loc : List (Nat × tv_T) → Nat → List (Nat × Nat)
  | [], _ => []
  | q :: r, k => (q.1, k) :: an_loc r (k + 1)
def an_st (n : Nat) : List tv_T → List Nat
  | [] => []
  | _ :: r => n :: an_st (n + 1) r
def an_mem (s n : Nat) : List ((Nat × Nat) × tv_T) → List ((Nat × Nat) × Nat)
  | [] => []
  | q :: r => ((s + q.1.1, q.1.2), n) :: an_mem s (n + 1) r
def an_dv : List tv_T → Nat → List (Nat × Nat)
  | [], _ => []
  | t :: r, k => if t.1 = 5 then (k, t.2.2.2.headD 1) :: an_dv r (k + 1) else an_dv r (k + 1)
def an_R (an : an_T) : Nat := an.2.2.2.2.2.2.2.1.length
def an_n0 (an : an_T) : Nat := an.2.1.length + an.2.2.1.length + an.2.2.2.2.2.2.1.length
def an_t0 (an : an_T) : List tv_T := an.2.1.map (fun q => q.2) ++ an.2.2.1 ++ an.2.2.2.2.2.2.1.map (fun q => q.2)
def an_ts (an : an_T) : List tv_T := an.2.2.2.2.2.2.2.1 ++ (an_t0 an ++ an.2.2.2.2.2.2.2.2.2.1)
def an_y (an : an_T) : sy_T := ((an_ts an).map nrm, an_loc an.2.1 (an_R an), an_st (an_R an + an.2.1.length) an.2.2.1, an_mem (an_R an) (an_R an + (an.2.1.length + an.2.2.1.length)) an.2.2.2.2.2.2.1, an.2.2.2.2.2.1, an_dv (an_ts an) 0)
/-- the name that a place of the note has in the picture -/
def nm_o0 (y : sy_T) (an : an_T) (k : Nat) : Option Nat :=
  if k < an.2.1.length then (an.2.1[k]?).bind (fun q => sy_find y.2.1 q.1)
  else if k < an.2.1.length + an.2.2.1.length then y.2.2.1[k - an.2.1.length]?
  else (an.2.2.2.2.2.2.1[k - (an.2.1.length + an.2.2.1.length)]?).bind (fun q => ((an.2.1[q.1.1]?).bind (fun z => sy_find y.2.1 z.1)).bind (fun o => sy_mfind y o q.1.2))
def nm_of (y : sy_T) (an : an_T) (k : Nat) : Option Nat :=
  if k < an_R an then some k
  else if k < an_R an + an_n0 an then nm_o0 y an (k - an_R an)
  else if k < an_R an + an_n0 an + an.2.2.2.2.2.2.2.2.2.1.length then some (an.2.2.2.2.2.2.2.2.1 + (k - (an_R an + an_n0 an))) else none
theorem nm_mid {y : sy_T} {an : an_T} {k : Nat} (hk : k < an_n0 an) : nm_of y an (an_R an + k) = nm_o0 y an k := by
  unfold nm_of
  rw [if_neg (by omega), if_pos (by omega), show an_R an + k - an_R an = k by omega]
def me_val (vs : List Value) (q : me_T) : Nat := match q.1 with
  | 0 => q.2.2.toNat
  | 1 => (match vs[q.2.1]? with | some (.int x) => (q.2.2 - x.toInt).toNat | _ => 0)
  | _ => (match vs[q.2.1]? with | some (.int x) => (x.toInt - q.2.2).toNat | _ => 0)
def lx_lt : List Nat → List Nat → Prop
  | a :: s, b :: t => a < b ∨ (a = b ∧ lx_lt s t)
  | _, _ => False
theorem lx_ind : ∀ (K : Nat) (P : List Nat → Prop), (∀ v, v.length = K → (∀ w, w.length = K → lx_lt w v → P w) → P v) → ∀ v, v.length = K → P v
  | 0, P, h, v, hv => h v hv (fun w hw hl => by
      cases w with
      | nil => exact hl.elim
      | cons _ _ => cases hw)
  | K + 1, P, h, v, hv => by
    cases v with
    | nil => cases hv
    | cons a t =>
      have main : ∀ (n : Nat) (a : Nat), a < n → ∀ t : List Nat, t.length = K → P (a :: t) := by
        intro n
        induction n with
        | zero => intro a ha; omega
        | succ n ih =>
          intro a ha t ht
          refine lx_ind K (fun t => P (a :: t)) (fun t ht hlt => h (a :: t) (by rw [List.length_cons, ht]) (fun w hw hl => ?_)) t ht
          cases w with
          | nil => cases hw
          | cons b u =>
            have hu : u.length = K := by rw [List.length_cons] at hw; omega
            rcases hl with hl | ⟨e, hl⟩
            · exact ih b (by omega) u hu
            · subst e; exact hlt u hu hl
      exact main (a + 1) a (by omega) t (by rw [List.length_cons] at hv; omega)
/-- a distance that follows; a bound of 2^32 and more says nothing -/
def lo_le (lo l : Int) : Bool := decide (lo ≤ l) || decide (lo ≤ -4294967296)
def hi_le (h hi : Int) : Bool := decide (h ≤ hi) || decide (4294967296 ≤ hi)
def lo_sub (lo l : Int) : Int := if lo ≤ -4294967296 then -8589934592 else lo - l
def hi_sub (hi h : Int) : Int := if 4294967296 ≤ hi then 8589934592 else hi - h
theorem lo_le_ok {lo l : Int} {x z : Int32} (h : lo_le lo l = true) (k : z.toInt + l ≤ x.toInt) : z.toInt + lo ≤ x.toInt := by
  unfold lo_le at h
  simp only [Bool.or_eq_true, decide_eq_true_eq] at h
  have := x.le_toInt; have := z.toInt_lt
  omega
theorem hi_le_ok {hi h0 : Int} {x z : Int32} (h : hi_le h0 hi = true) (k : x.toInt ≤ z.toInt + h0) : x.toInt ≤ z.toInt + hi := by
  unfold hi_le at h
  simp only [Bool.or_eq_true, decide_eq_true_eq] at h
  have := z.le_toInt; have := x.toInt_lt
  omega
theorem lo_sub_ok {lo l : Int} {x z b : Int32} (k : b.toInt + l ≤ x.toInt) (h : z.toInt + lo_sub lo l ≤ b.toInt) : z.toInt + lo ≤ x.toInt := by
  unfold lo_sub at h
  have := x.le_toInt; have := z.toInt_lt
  split at h <;> omega
theorem hi_sub_ok {hi h0 : Int} {x z b : Int32} (k : x.toInt ≤ b.toInt + h0) (h : b.toInt ≤ z.toInt + hi_sub hi h0) : x.toInt ≤ z.toInt + hi := by
  unfold hi_sub at h
  have := z.le_toInt; have := x.toInt_lt
  split at h <;> omega
def rl_1 (y : sy_T) (n m : Nat) (lo hi : Int) : Bool := (n == m && decide (lo ≤ 0) && decide (0 ≤ hi)) || y.2.2.2.2.1.any (fun q => (q.1 == n && q.2.1 == m && lo_le lo q.2.2.1 && hi_le q.2.2.2 hi) || (q.1 == m && q.2.1 == n && lo_le lo (-q.2.2.2) && hi_le (-q.2.2.1) hi)) || (match y.1[n]?, y.1[m]? with
  | some t, some u => decide (t.1 = 0) && decide (u.1 = 0) && lo_le lo (t.2.1 - u.2.2.1) && hi_le (t.2.2.1 - u.2.1) hi
  | _, _ => false)
theorem rl_1_ok {ta : Nat → Option Nat} {ws : va_W} {vs : List Value} {ls : Array Slot} {nL : Nat} {st : List Value} {y : sy_T} (hy : sy_ok ta ws vs ls nL st y) {n m : Nat} {x z : Int32} (hn : vs[n]? = some (.int x)) (hm : vs[m]? = some (.int z)) {lo hi : Int} (h : rl_1 y n m lo hi = true) : z.toInt + lo ≤ x.toInt ∧ x.toInt ≤ z.toInt + hi := by
  unfold rl_1 at h
  rcases Bool.or_eq_true_iff.mp h with h | h
  · rcases Bool.or_eq_true_iff.mp h with h | h
    · simp only [Bool.and_eq_true, beq_iff_eq, decide_eq_true_eq] at h
      rw [h.1.1, hm] at hn
      obtain rfl := Value.int.inj (Option.some.inj hn)
      omega
    · obtain ⟨q, q1, q2⟩ := List.any_eq_true.mp h
      obtain ⟨a, b, c1, c2, c3, c4⟩ := hy.2.2.2.2.1 q q1
      rcases Bool.or_eq_true_iff.mp q2 with q2 | q2
      · simp only [Bool.and_eq_true, beq_iff_eq] at q2
        rw [q2.1.1.1, hn] at c1
        rw [q2.1.1.2, hm] at c2
        obtain rfl := Value.int.inj (Option.some.inj c1)
        obtain rfl := Value.int.inj (Option.some.inj c2)
        exact ⟨lo_le_ok q2.1.2 c3, hi_le_ok q2.2 c4⟩
      · simp only [Bool.and_eq_true, beq_iff_eq] at q2
        rw [q2.1.1.1, hm] at c1
        rw [q2.1.1.2, hn] at c2
        obtain rfl := Value.int.inj (Option.some.inj c1)
        obtain rfl := Value.int.inj (Option.some.inj c2)
        exact ⟨lo_le_ok q2.1.2 (by omega), hi_le_ok q2.2 (by omega)⟩
  · split at h
    · rename_i t u ht hu
      simp only [Bool.and_eq_true, decide_eq_true_eq] at h
      obtain ⟨x', e1, a1, a2⟩ := tv_int (hy.1.2 n t _ ht hn) h.1.1.1
      obtain ⟨z', e2, b1, b2⟩ := tv_int (hy.1.2 m u _ hu hm) h.1.1.2
      obtain rfl := Value.int.inj e1
      obtain rfl := Value.int.inj e2
      exact ⟨lo_le_ok h.1.2 (by omega), hi_le_ok h.2 (by omega)⟩
    · cases h
/-- in two steps: by a name between, or by one that both lie apart from -/
def rl_ok (y : sy_T) (n m : Nat) (lo hi : Int) : Bool := rl_1 y n m lo hi || y.2.2.2.2.1.any (fun q => q.1 == n && (rl_1 y q.2.1 m (lo_sub lo q.2.2.1) (hi_sub hi q.2.2.2) || y.2.2.2.2.1.any (fun w => w.1 == m && w.2.1 == q.2.1 && lo_le lo (q.2.2.1 - w.2.2.2) && hi_le (q.2.2.2 - w.2.2.1) hi)))
theorem rl_ok_ok {ta : Nat → Option Nat} {ws : va_W} {vs : List Value} {ls : Array Slot} {nL : Nat} {st : List Value} {y : sy_T} (hy : sy_ok ta ws vs ls nL st y) {n m : Nat} {x z : Int32} (hn : vs[n]? = some (.int x)) (hm : vs[m]? = some (.int z)) {lo hi : Int} (h : rl_ok y n m lo hi = true) : z.toInt + lo ≤ x.toInt ∧ x.toInt ≤ z.toInt + hi := by
  unfold rl_ok at h
  rcases Bool.or_eq_true_iff.mp h with h | h
  · exact rl_1_ok hy hn hm h
  · obtain ⟨q, q1, q2⟩ := List.any_eq_true.mp h
    rw [Bool.and_eq_true] at q2
    have e1 : q.1 = n := by simpa using q2.1
    obtain ⟨a, b, c1, c2, c3, c4⟩ := hy.2.2.2.2.1 q q1
    rw [e1, hn] at c1
    obtain rfl := Value.int.inj (Option.some.inj c1)
    rcases Bool.or_eq_true_iff.mp q2.2 with q3 | q3
    · have k := rl_1_ok hy c2 hm q3
      exact ⟨lo_sub_ok c3 k.1, hi_sub_ok c4 k.2⟩
    · obtain ⟨w, w1, w2⟩ := List.any_eq_true.mp q3
      simp only [Bool.and_eq_true, beq_iff_eq] at w2
      obtain ⟨a2, b2, d1, d2, d3, d4⟩ := hy.2.2.2.2.1 w w1
      rw [w2.1.1.1, hm] at d1
      rw [w2.1.1.2, c2] at d2
      obtain rfl := Value.int.inj (Option.some.inj d1)
      obtain rfl := Value.int.inj (Option.some.inj d2)
      exact ⟨lo_le_ok w2.1.2 (by omega), hi_le_ok w2.2 (by omega)⟩
def me_dn (y : sy_T) (o : me_T) (n : Nat) (t : tv_T) : Bool := if o.1 = 1 then decide (t.2.2.1 ≤ o.2.2) && rl_ok y n o.2.1 1 BIG else decide (o.2.2 ≤ t.2.1) && rl_ok y n o.2.1 (-BIG) (-1)
/-- 0: less, 1: the same, 2: not known -/
def me_one (y : sy_T) (an : an_T) (o w : me_T) : Nat :=
  if o.1 = 0 then (if w.1 = 0 then (if 0 ≤ w.2.2 ∧ w.2.2 < o.2.2 then 0 else if w.2.2 = o.2.2 then 1 else 2) else 2)
  else if o.1 = w.1 ∧ o.2.2 = w.2.2 ∧ o.1 ≤ 2 then (match nm_of y an w.2.1 with
    | some n => if n = o.2.1 then 1 else (match y.1[n]?, y.1[o.2.1]? with
      | some t, some u => if (decide (t.1 = 0) && decide (u.1 = 0) && me_dn y o n t) = true then 0 else if (decide (t.1 = 0) && decide (u.1 = 0) && rl_ok y n o.2.1 0 0) = true then 1 else 2
      | _, _ => 2)
    | none => 2)
  else 2
def me_chk (y : sy_T) (an : an_T) : List me_T → List me_T → Bool
  | o :: os, w :: ws => (match me_one y an o w with | 0 => true | 1 => me_chk y an os ws | _ => false)
  | _, _ => false
/-- the kinds and the distances of a note hold -/
def an_ty (y : sy_T) (an : an_T) : Nat → List tv_T → Bool
  | _, [] => true
  | k, t :: r => (match nm_of y an k with | some n => nm_le y n t | none => false) && an_ty y an (k + 1) r
def an_rl (y : sy_T) (an : an_T) (q : of_T) : Bool := match nm_of y an q.1, nm_of y an q.2.1 with
  | some n, some m => (match y.1[n]?, y.1[m]? with
    | some t, some u => decide (t.1 = 0) && decide (u.1 = 0) && rl_ok y n m q.2.2.1 q.2.2.2
    | _, _ => false)
  | _, _ => false
def an_sub (old : List me_T) (an : an_T) (y : sy_T) (ce sl : Nat) : Bool := decide (y.2.2.1.length = an.2.2.1.length) && an_ty y an 0 (an_ts an) && an.2.2.2.2.2.1.all (an_rl y an) && decide (ce ≤ an.2.2.2.1.1) && decide (sl ≤ an.2.2.2.1.2) && me_chk y an old an.2.2.2.2.1
def an_v (y : sy_T) (an : an_T) (vs : List Value) (k : Nat) : Value := ((nm_of y an k).bind (fun n => vs[n]?)).getD .null
def an_vs (y : sy_T) (an : an_T) (vs : List Value) : List Value := (List.range (an_ts an).length).map (an_v y an vs)
theorem an_vs_at {y : sy_T} {an : an_T} {vs : List Value} {k : Nat} (hk : k < (an_ts an).length) : (an_vs y an vs)[k]? = some (an_v y an vs k) := by
  unfold an_vs
  rw [List.getElem?_map, List.getElem?_range hk]; rfl
theorem an_ty_ok {y : sy_T} {an : an_T} : ∀ {L : List tv_T} {k : Nat}, an_ty y an k L = true → ∀ (i : Nat) (t : tv_T), L[i]? = some t → ∃ n, nm_of y an (k + i) = some n ∧ nm_le y n t = true
  | [], _, _, i, t, ht => by cases ht
  | t0 :: L, k, h, i, t, ht => by
    unfold an_ty at h
    rw [Bool.and_eq_true] at h
    cases i with
    | zero =>
      have e : t0 = t := Option.some.inj ht
      have h1 := h.1
      split at h1
      · rename_i n hn; exact ⟨n, hn, e ▸ h1⟩
      · cases h1
    | succ i =>
      obtain ⟨n, a, b⟩ := an_ty_ok h.2 i t ht
      exact ⟨n, by rw [← a]; congr 1; omega, b⟩
theorem sy_has {ta : Nat → Option Nat} {y : sy_T} {vs : List Value} {n : Nat} {t : tv_T} (h : sy_env ta y.1 vs) (hn : nm_le y n t = true) : ∃ v, vs[n]? = some v := by
  unfold nm_le at hn
  split at hn
  · rename_i u hu
    have := (List.getElem?_eq_some_iff.mp hu).1
    rw [← h.1] at this
    exact ⟨_, List.getElem?_eq_getElem this⟩
  · cases hn
/-- every place of a note that holds has its value -/
theorem an_at {ta : Nat → Option Nat} {ws : va_W} {vs : List Value} {ls : Array Slot} {nL : Nat} {st : List Value} {y : sy_T} {an : an_T} (hy : sy_ok ta ws vs ls nL st y) (h : an_ty y an 0 (an_ts an) = true) {k : Nat} {t : tv_T} (ht : (an_ts an)[k]? = some t) : ∃ n, nm_of y an k = some n ∧ vs[n]? = some (an_v y an vs k) ∧ tv_ok ta t (an_v y an vs k) := by
  obtain ⟨n, h1, h2⟩ := an_ty_ok h k t ht
  rw [Nat.zero_add] at h1
  obtain ⟨v, hv⟩ := sy_has hy.1 h2
  have e : an_v y an vs k = v := by unfold an_v; rw [h1]; show (vs[n]?).getD .null = v; rw [hv]; rfl
  rw [e]
  exact ⟨n, h1, hv, nm_le_ok hy hv h2⟩
theorem an_loc_mem : ∀ {L : List (Nat × tv_T)} {k : Nat} {q : Nat × Nat}, q ∈ an_loc L k → ∃ (i : Nat) (t : tv_T), L[i]? = some (q.1, t) ∧ q.2 = k + i
  | [], _, _, h => by cases h
  | z :: L, k, q, h => by
    unfold an_loc at h
    rcases List.mem_cons.mp h with rfl | h
    · exact ⟨0, z.2, rfl, by omega⟩
    · obtain ⟨i, t, h1, h2⟩ := an_loc_mem h
      exact ⟨i + 1, t, h1, by omega⟩
theorem an_mem_mem : ∀ {L : List ((Nat × Nat) × tv_T)} {s k : Nat} {q : (Nat × Nat) × Nat}, q ∈ an_mem s k L → ∃ (i o : Nat) (t : tv_T), L[i]? = some ((o, q.1.2), t) ∧ q.1.1 = s + o ∧ q.2 = k + i
  | [], _, _, _, h => by cases h
  | z :: L, s, k, q, h => by
    unfold an_mem at h
    rcases List.mem_cons.mp h with rfl | h
    · exact ⟨0, z.1.1, z.2, rfl, rfl, by omega⟩
    · obtain ⟨i, o, t, h1, h2, h3⟩ := an_mem_mem h
      exact ⟨i + 1, o, t, h1, h2, by omega⟩
theorem an_dv_mem : ∀ {L : List tv_T} {k : Nat} {q : Nat × Nat}, q ∈ an_dv L k → ∃ (i : Nat) (t : tv_T), L[i]? = some t ∧ t.1 = 5 ∧ q = (k + i, t.2.2.2.headD 1)
  | [], _, _, h => by cases h
  | t0 :: L, k, q, h => by
    unfold an_dv at h
    have tl : q ∈ an_dv L (k + 1) → ∃ (i : Nat) (t : tv_T), (t0 :: L)[i]? = some t ∧ t.1 = 5 ∧ q = (k + i, t.2.2.2.headD 1) := fun h => by
      obtain ⟨i, t, h1, h2, h3⟩ := an_dv_mem h
      exact ⟨i + 1, t, h1, h2, by rw [h3]; congr 1; omega⟩
    split at h
    · rename_i h5
      rcases List.mem_cons.mp h with rfl | h
      · exact ⟨0, t0, rfl, h5, rfl⟩
      · exact tl h
    · exact tl h
theorem sy_st_len {vs : List Value} : ∀ {r : List Nat} {st : List Value}, sy_st vs r st → r.length = st.length
  | [], [], _ => rfl
  | _ :: r, _ :: st, h => by rw [List.length_cons, List.length_cons, sy_st_len h.2]
  | [], _ :: _, h => h.elim
  | _ :: _, [], h => h.elim
theorem sy_st_at {vs : List Value} : ∀ {r : List Nat} {st : List Value}, sy_st vs r st → ∀ (i n : Nat), r[i]? = some n → vs[n]? = st[i]?
  | [], [], _, i, n, h => by cases h
  | m :: r, v :: st, h, i, n, hn => by
    cases i with
    | zero => rw [← Option.some.inj hn]; exact h.1
    | succ i => exact sy_st_at h.2 i n hn
  | [], _ :: _, h, _, _, _ => h.elim
  | _ :: _, [], h, _, _, _ => h.elim
theorem an_st_of {L : List Value} : ∀ {ts : List tv_T} {st : List Value} {n : Nat}, st.length = ts.length → (∀ i, i < ts.length → L[n + i]? = st[i]?) → sy_st L (an_st n ts) st
  | [], [], _, _, _ => trivial
  | t :: ts, v :: st, n, h, hl => by
    refine ⟨?_, an_st_of (by rw [List.length_cons, List.length_cons] at h; omega) (fun i hi => ?_)⟩
    · have := hl 0 (by rw [List.length_cons]; omega)
      rw [Nat.add_zero] at this
      exact this
    · have := hl (i + 1) (by rw [List.length_cons]; omega)
      rw [show n + (i + 1) = n + 1 + i by omega] at this
      exact this
  | [], _ :: _, _, h, _ => by cases h
  | _ :: _, [], _, h, _ => by cases h
theorem an_l0 (an : an_T) : (an_t0 an).length = an_n0 an := by
  unfold an_t0 an_n0
  rw [List.length_append, List.length_append, List.length_map, List.length_map]
theorem an_len (an : an_T) : (an_ts an).length = an_R an + an_n0 an + an.2.2.2.2.2.2.2.2.2.1.length := by
  unfold an_ts an_R
  rw [List.length_append, List.length_append, an_l0]; omega
theorem an_ts0 {an : an_T} {i : Nat} {t : tv_T} (h : (an_t0 an)[i]? = some t) : (an_ts an)[an_R an + i]? = some t := by
  have hi := (List.getElem?_eq_some_iff.mp h).1
  unfold an_ts an_R
  rw [List.getElem?_append_right (by omega), show an.2.2.2.2.2.2.2.1.length + i - an.2.2.2.2.2.2.2.1.length = i by omega, List.getElem?_append_left hi]; exact h
theorem an_ts_loc {an : an_T} {i : Nat} {q : Nat × tv_T} (h : an.2.1[i]? = some q) : (an_ts an)[an_R an + i]? = some q.2 := by
  have hi := (List.getElem?_eq_some_iff.mp h).1
  refine an_ts0 ?_
  unfold an_t0
  rw [List.append_assoc, List.getElem?_append_left (by rw [List.length_map]; exact hi), List.getElem?_map, h]; rfl
theorem an_ts_mem {an : an_T} {i : Nat} {q : (Nat × Nat) × tv_T} (h : an.2.2.2.2.2.2.1[i]? = some q) : (an_ts an)[an_R an + (an.2.1.length + an.2.2.1.length + i)]? = some q.2 := by
  refine an_ts0 ?_
  unfold an_t0
  rw [List.getElem?_append_right (by rw [List.length_append, List.length_map]; omega), List.length_append, List.length_map, List.getElem?_map, show an.2.1.length + an.2.2.1.length + i - (an.2.1.length + an.2.2.1.length) = i by omega, h]; rfl
theorem nm_of_lt {y : sy_T} {an : an_T} {k n : Nat} (h : nm_of y an k = some n) : k < (an_ts an).length := by
  rw [an_len]
  unfold nm_of at h
  split at h
  · omega
  · split at h
    · omega
    · split at h
      · omega
      · cases h
/-- what fits a note has its picture -/
theorem an_in {ta : Nat → Option Nat} {ws : va_W} {vs : List Value} {ls : Array Slot} {nL : Nat} {st : List Value} {y : sy_T} {an : an_T} (hy : sy_ok ta ws vs ls nL st y) (h0 : y.2.2.1.length = an.2.2.1.length) (h1 : an_ty y an 0 (an_ts an) = true) (h2 : an.2.2.2.2.2.1.all (an_rl y an) = true) : sy_ok ta ws (an_vs y an vs) ls nL st (an_y an) := by
  have hN := an_len an
  have hvl : (an_vs y an vs).length = (an_ts an).length := by unfold an_vs; rw [List.length_map, List.length_range]
  refine ⟨⟨?_, fun i t v e1 e2 => ?_⟩, ⟨hy.2.1.1, hy.2.1.2.1, fun q hq => ?_⟩, ?_, fun q hq => ?_, fun q hq => ?_, fun q hq => ?_⟩
  · show _ = ((an_ts an).map nrm).length
    rw [hvl, List.length_map]
  · have e1' : ((an_ts an).map nrm)[i]? = some t := e1
    rw [List.getElem?_map] at e1'
    obtain ⟨t0, e3, e4⟩ := Option.map_eq_some_iff.mp e1'
    obtain ⟨n, _, _, b3⟩ := an_at hy h1 e3
    rw [an_vs_at (List.getElem?_eq_some_iff.mp e3).1] at e2
    rw [← e4, ← Option.some.inj e2]
    exact nrm_ok b3
  · obtain ⟨i, t, e1, e2⟩ := an_loc_mem hq
    have hi := (List.getElem?_eq_some_iff.mp e1).1
    have e3 := an_ts_loc e1
    obtain ⟨n, b1, b2, b3⟩ := an_at hy h1 e3
    rw [nm_mid (by unfold an_n0; omega)] at b1
    unfold nm_o0 at b1
    rw [if_pos hi, e1] at b1
    obtain ⟨v, c1, c2⟩ := hy.2.1.2.2 (q.1, n) (sy_find_ok b1)
    refine ⟨an_v y an vs (an_R an + i), by rw [e2]; exact an_vs_at (List.getElem?_eq_some_iff.mp e3).1, ?_⟩
    have c1' : vs[n]? = some v := c1
    rw [b2] at c1'
    rw [Option.some.inj c1']; exact c2
  · have hl := sy_st_len hy.2.2.1
    refine an_st_of (by omega) (fun i hi => ?_)
    have hk : an_R an + (an.2.1.length + i) < (an_ts an).length := by rw [hN]; unfold an_n0; omega
    obtain ⟨n, b1, b2, b3⟩ := an_at hy h1 (List.getElem?_eq_getElem hk)
    rw [Nat.add_assoc, an_vs_at hk]
    rw [nm_mid (by unfold an_n0; omega)] at b1
    unfold nm_o0 at b1
    rw [if_neg (by omega), if_pos (by omega), show an.2.1.length + i - an.2.1.length = i by omega] at b1
    rw [← sy_st_at hy.2.2.1 i n b1, b2]
  · obtain ⟨i, lo, t, e1, e0, e2⟩ := an_mem_mem hq
    have hi := (List.getElem?_eq_some_iff.mp e1).1
    have e3 := an_ts_mem e1
    obtain ⟨n, b1, b2, b3⟩ := an_at hy h1 e3
    rw [nm_mid (by unfold an_n0; omega)] at b1
    unfold nm_o0 at b1
    rw [if_neg (by omega), if_neg (by omega), show an.2.1.length + an.2.2.1.length + i - (an.2.1.length + an.2.2.1.length) = i by omega, e1] at b1
    have b1' : ((an.2.1[lo]?).bind (fun z => sy_find y.2.1 z.1)).bind (fun o => sy_mfind y o q.1.2) = some n := b1
    obtain ⟨o, o1, o2⟩ := Option.bind_eq_some_iff.mp b1'
    obtain ⟨z, z1, z2⟩ := Option.bind_eq_some_iff.mp o1
    have hz := (List.getElem?_eq_some_iff.mp z1).1
    have e4 := an_ts_loc z1
    obtain ⟨n2, d1, d2, d3⟩ := an_at hy h1 e4
    rw [nm_mid (by unfold an_n0; omega)] at d1
    unfold nm_o0 at d1
    rw [if_pos hz, z1] at d1
    have d1' : sy_find y.2.1 z.1 = some n2 := d1
    rw [z2] at d1'
    obtain rfl := Option.some.inj d1'
    obtain ⟨a, ci, fs, v, m1, m2, m3, m4⟩ := hy.2.2.2.1 _ (sy_mfind_ok o2)
    have m1' : vs[o]? = some (.ref a) := m1
    have m4' : vs[n]? = some v := m4
    rw [d2] at m1'
    rw [b2] at m4'
    refine ⟨a, ci, fs, v, ?_, m2, m3, ?_⟩
    · rw [e0, an_vs_at (List.getElem?_eq_some_iff.mp e4).1, Option.some.inj m1']
    · rw [e2, Nat.add_assoc, an_vs_at (List.getElem?_eq_some_iff.mp e3).1, Option.some.inj m4']
  · have hr := List.all_eq_true.mp h2 q hq
    unfold an_rl at hr
    split at hr
    · rename_i n m hn hm
      split at hr
      · rename_i t u ht hu
        simp only [Bool.and_eq_true, decide_eq_true_eq] at hr
        have ln := (List.getElem?_eq_some_iff.mp ht).1
        have lm := (List.getElem?_eq_some_iff.mp hu).1
        rw [← hy.1.1] at ln lm
        obtain ⟨x, ex, _, _⟩ := tv_int (hy.1.2 n t _ ht (List.getElem?_eq_getElem ln)) hr.1.1
        obtain ⟨z, ez, _, _⟩ := tv_int (hy.1.2 m u _ hu (List.getElem?_eq_getElem lm)) hr.1.2
        have vn : vs[n]? = some (.int x) := by rw [List.getElem?_eq_getElem ln, ex]
        have vm : vs[m]? = some (.int z) := by rw [List.getElem?_eq_getElem lm, ez]
        have key := rl_ok_ok hy vn vm hr.2
        have an1 : an_v y an vs q.1 = .int x := by unfold an_v; rw [hn]; show (vs[n]?).getD .null = _; rw [vn]; rfl
        have an2 : an_v y an vs q.2.1 = .int z := by unfold an_v; rw [hm]; show (vs[m]?).getD .null = _; rw [vm]; rfl
        have k1 : q.1 < (an_ts an).length := nm_of_lt hn
        have k2 : q.2.1 < (an_ts an).length := nm_of_lt hm
        exact ⟨x, z, by rw [an_vs_at k1, an1], by rw [an_vs_at k2, an2], key.1, key.2⟩
      · cases hr
    · cases hr
  · obtain ⟨i, t, e1, e2, e3⟩ := an_dv_mem hq
    obtain ⟨n, b1, b2, b3⟩ := an_at hy h1 e1
    obtain ⟨x, ex, _, _, k, hk⟩ := tv_div b3 e2
    refine ⟨x, k, ?_, ?_⟩
    · rw [e3]
      show (an_vs y an vs)[0 + i]? = _
      rw [Nat.zero_add, an_vs_at (List.getElem?_eq_some_iff.mp e1).1, ex]
    · rw [e3]; exact hk
theorem pre_at {v0 vs : List Value} (h : v0 <+: vs) {i : Nat} {v : Value} (hv : v0[i]? = some v) : vs[i]? = some v := by
  obtain ⟨t, rfl⟩ := h
  rw [List.getElem?_append_left (List.getElem?_eq_some_iff.mp hv).1]; exact hv
/-- what falls, falls -/
theorem me_one_ok {ta : Nat → Option Nat} {ws : va_W} {vs v0 : List Value} {ls : Array Slot} {nL : Nat} {st : List Value} {y : sy_T} {an : an_T} (hy : sy_ok ta ws vs ls nL st y) (h1 : an_ty y an 0 (an_ts an) = true) (hp : v0 <+: vs) {o w : me_T} (ho : o.1 = 0 ∨ o.2.1 < v0.length) : (me_one y an o w = 0 → me_val (an_vs y an vs) w < me_val v0 o) ∧ (me_one y an o w = 1 → me_val (an_vs y an vs) w = me_val v0 o) := by
  unfold me_one
  by_cases h0 : o.1 = 0
  · rw [if_pos h0]
    by_cases hw : w.1 = 0
    · rw [if_pos hw]
      have e1 : me_val v0 o = o.2.2.toNat := by unfold me_val; rw [h0]; rfl
      have e2 : me_val (an_vs y an vs) w = w.2.2.toNat := by unfold me_val; rw [hw]; rfl
      rw [e1, e2]
      refine ⟨fun h => ?_, fun h => ?_⟩
      · split at h
        · omega
        · split at h <;> cases h
      · split at h
        · cases h
        · split at h
          · rename_i e; rw [e]
          · cases h
    · rw [if_neg hw]; exact ⟨fun h => absurd h (by decide), fun h => absurd h (by decide)⟩
  · rw [if_neg h0]
    have ho2 := ho.resolve_left h0
    by_cases hk : o.1 = w.1 ∧ o.2.2 = w.2.2 ∧ o.1 ≤ 2
    · rw [if_pos hk]
      split
      · rename_i n hn
        have hk1 : w.2.1 < (an_ts an).length := nm_of_lt hn
        obtain ⟨n', b1, b2, _⟩ := an_at hy h1 (List.getElem?_eq_getElem hk1)
        rw [hn] at b1
        obtain rfl := Option.some.inj b1
        have hnew : (an_vs y an vs)[w.2.1]? = some (an_v y an vs w.2.1) := an_vs_at hk1
        have hold : v0[o.2.1]? = some v0[o.2.1] := List.getElem?_eq_getElem ho2
        have hold2 := pre_at hp hold
        split
        · rename_i en
          subst en
          refine ⟨fun h => absurd h (by decide), fun _ => ?_⟩
          rw [hold2] at b2
          have e5 := Option.some.inj b2
          unfold me_val
          rw [← hk.1, hnew, hold, e5, hk.2.1]
        · split
          · rename_i t u ht hu
            have kinds : t.1 = 0 → u.1 = 0 → ∃ x z : Int32, vs[n]? = some (.int x) ∧ vs[o.2.1]? = some (.int z) ∧ t.2.1 ≤ x.toInt ∧ x.toInt ≤ t.2.2.1 ∧ an_v y an vs w.2.1 = .int x ∧ v0[o.2.1] = .int z := fun k1 k2 => by
              obtain ⟨x, ex, x1, x2⟩ := tv_int (hy.1.2 n t _ ht b2) k1
              obtain ⟨z, ez, _, _⟩ := tv_int (hy.1.2 o.2.1 u _ hu hold2) k2
              exact ⟨x, z, by rw [b2, ex], by rw [hold2, ez], x1, x2, ex, ez⟩
            split
            · rename_i hc
              refine ⟨fun _ => ?_, fun h => absurd h (by decide)⟩
              rw [Bool.and_eq_true, Bool.and_eq_true] at hc
              obtain ⟨⟨c1, c2⟩, c3⟩ := hc
              obtain ⟨x, z, vx, vz, x1, x2, ax, az⟩ := kinds (by simpa using c1) (by simpa using c2)
              unfold me_dn at c3
              unfold me_val
              rw [← hk.1, hnew, hold, ax, az, ← hk.2.1]
              have ok : o.1 = 1 ∨ o.1 = 2 := by have := hk.2.2; omega
              rcases ok with ok | ok
              · rw [if_pos ok, Bool.and_eq_true] at c3
                have c4 : t.2.2.1 ≤ o.2.2 := by simpa using c3.1
                have c5 := rl_ok_ok hy vx vz c3.2
                rw [ok]
                show (o.2.2 - x.toInt).toNat < (o.2.2 - z.toInt).toNat
                omega
              · rw [if_neg (by omega), Bool.and_eq_true] at c3
                have c4 : o.2.2 ≤ t.2.1 := by simpa using c3.1
                have c5 := rl_ok_ok hy vx vz c3.2
                rw [ok]
                show (x.toInt - o.2.2).toNat < (z.toInt - o.2.2).toNat
                omega
            · split
              · rename_i hc
                refine ⟨fun h => absurd h (by decide), fun _ => ?_⟩
                rw [Bool.and_eq_true, Bool.and_eq_true] at hc
                obtain ⟨⟨c1, c2⟩, c3⟩ := hc
                obtain ⟨x, z, vx, vz, x1, x2, ax, az⟩ := kinds (by simpa using c1) (by simpa using c2)
                have c5 := rl_ok_ok hy vx vz c3
                have c6 : x.toInt = z.toInt := by omega
                unfold me_val
                rw [← hk.1, hnew, hold, ax, az, ← hk.2.1]
                simp only [c6]
              · exact ⟨fun h => absurd h (by decide), fun h => absurd h (by decide)⟩
          · exact ⟨fun h => absurd h (by decide), fun h => absurd h (by decide)⟩
      · exact ⟨fun h => absurd h (by decide), fun h => absurd h (by decide)⟩
    · rw [if_neg hk]; exact ⟨fun h => absurd h (by decide), fun h => absurd h (by decide)⟩
theorem me_chk_ok {ta : Nat → Option Nat} {ws : va_W} {vs v0 : List Value} {ls : Array Slot} {nL : Nat} {st : List Value} {y : sy_T} {an : an_T} (hy : sy_ok ta ws vs ls nL st y) (h1 : an_ty y an 0 (an_ts an) = true) (hp : v0 <+: vs) : ∀ {os ws' : List me_T}, (∀ o ∈ os, o.1 = 0 ∨ o.2.1 < v0.length) → me_chk y an os ws' = true → lx_lt (ws'.map (me_val (an_vs y an vs))) (os.map (me_val v0))
  | [], _, _, h => by cases h
  | _ :: _, [], _, h => by cases h
  | o :: os, w :: ws', ho, h => by
    have key := me_one_ok (an := an) hy h1 hp (o := o) (w := w) (ho o List.mem_cons_self)
    unfold me_chk at h
    rw [List.map_cons, List.map_cons]
    split at h
    · rename_i e; exact Or.inl (key.1 e)
    · rename_i e; exact Or.inr ⟨key.2 e, me_chk_ok hy h1 hp (fun o ho' => ho o (List.mem_cons_of_mem _ ho')) h⟩
    · cases h
theorem ag_at {ta : Nat → Option Nat} : ∀ {ts : List tv_T} {vs : List Value}, ag_ok ta ts vs → ∀ (i : Nat) (t : tv_T) (v : Value), ts[i]? = some t → vs[i]? = some v → tv_ok ta t v
  | [], [], _, i, t, v, h1, _ => by cases h1
  | t0 :: ts, v0 :: vs, h, i, t, v, h1, h2 => by
    cases i with
    | zero => rw [← Option.some.inj h1, ← Option.some.inj h2]; exact h.1
    | succ i => exact ag_at h.2 i t v h1 h2
  | [], _ :: _, h, _, _, _, _, _ => h.elim
  | _ :: _, [], h, _, _, _, _, _ => h.elim
/-- the note, with the first of the names that are no locals -/
def an_gb (an : an_T) (b : Nat) : an_T := (an.1, an.2.1, an.2.2.1, an.2.2.2.1, an.2.2.2.2.1, an.2.2.2.2.2.1, an.2.2.2.2.2.2.1, an.2.2.2.2.2.2.2.1, b, an.2.2.2.2.2.2.2.2.2)
theorem an_pre {ta : Nat → Option Nat} {ws : va_W} {vs bv : List Value} {ls : Array Slot} {nL : Nat} {st : List Value} {y : sy_T} {an : an_T} (hy : sy_ok ta ws vs ls nL st y) (h1 : an_ty y an 0 (an_ts an) = true) (hp : bv <+: vs) (hl : bv.length = an_R an) : bv <+: an_vs y an vs := by
  refine List.prefix_iff_getElem?.mpr (fun i hi => ?_)
  have hk : i < (an_ts an).length := by rw [an_len]; omega
  rw [an_vs_at hk]
  obtain ⟨n, b1, b2, _⟩ := an_at hy h1 (List.getElem?_eq_getElem hk)
  unfold nm_of at b1
  rw [if_pos (by omega)] at b1
  obtain rfl := Option.some.inj b1
  have h3 := pre_at hp (List.getElem?_eq_getElem hi)
  rw [← b2, h3]
