/-! two longs compared, and the jump behind it: one step -/
def LBIG : Int := 1000000000000000000000000
def cl_lo (q : ClassFile.Cond) (t u : tv_T) : Int := match q with
  | .eq => u.2.1
  | .ne => if t.2.1 = u.2.1 ∧ u.2.1 = u.2.2.1 then t.2.1 + 1 else -LBIG
  | .ge => u.2.1
  | .gt => u.2.1 + 1
  | _ => -LBIG
def cl_hi (q : ClassFile.Cond) (t u : tv_T) : Int := match q with
  | .eq => u.2.2.1
  | .ne => if t.2.2.1 = u.2.1 ∧ u.2.1 = u.2.2.1 then t.2.2.1 - 1 else LBIG
  | .lt => u.2.2.1 - 1
  | .le => u.2.2.1
  | _ => LBIG
theorem cl_ok2 {q : ClassFile.Cond} {t u : tv_T} {x y : Int64} (h : cn_ok q x.toInt y.toInt) (h1 : t.2.1 ≤ x.toInt) (h2 : x.toInt ≤ t.2.2.1) (h3 : u.2.1 ≤ y.toInt) (h4 : y.toInt ≤ u.2.2.1) : cl_lo q t u ≤ x.toInt ∧ x.toInt ≤ cl_hi q t u := by
  have a := x.le_toInt
  have b := x.toInt_lt
  cases q <;> simp only [cn_ok, cl_lo, cl_hi, LBIG] at h ⊢
  · omega
  · constructor <;> split <;> omega
  · omega
  · omega
  · omega
  · omega
def sy_cutL (y : sy_T) (i : Nat) (lo hi : Int) : sy_T := match y.1[i]? with
  | some t => if t.1 = 1 then (y.1.set i (1, mx2 t.2.1 lo, mn2 t.2.2.1 hi, []), y.2) else y
  | none => y
theorem sy_cutL_ok {ta : Nat → Option Nat} {ws : va_W} {vs : List Value} {ls : Array Slot} {nL : Nat} {st : List Value} {y : sy_T} (h : sy_ok ta ws vs ls nL st y) {i : Nat} {x : Int64} (hv : vs[i]? = some (.long x)) {lo hi : Int} (h1 : lo ≤ x.toInt) (h2 : x.toInt ≤ hi) : sy_ok ta ws vs ls nL st (sy_cutL y i lo hi) := by
  unfold sy_cutL
  split
  · rename_i t ht
    split
    · rename_i hk
      obtain ⟨z, e, z1, z2⟩ := tv_long (h.1.2 i t _ ht hv) hk
      obtain rfl := Value.long.inj e
      exact ⟨en_set_ok h.1 hv (Or.inr (Or.inl ⟨rfl, x, rfl, mx2_le z1 h1, mn2_ge z2 h2⟩)), h.2⟩
    · exact h
  · exact h
def sy_botL (y : sy_T) (i : Nat) : Bool := match y.1[i]? with
  | some t => decide (t.1 = 1) && decide (t.2.2.1 < t.2.1)
  | none => false
theorem sy_botL_ok {ta : Nat → Option Nat} {ws : va_W} {vs : List Value} {ls : Array Slot} {nL : Nat} {st : List Value} {y : sy_T} (h : sy_ok ta ws vs ls nL st y) {i : Nat} (hb : sy_botL y i = true) : False := by
  unfold sy_botL at hb
  split at hb
  · rename_i t ht
    simp only [Bool.and_eq_true, decide_eq_true_eq] at hb
    have hlt := (List.getElem?_eq_some_iff.mp ht).1
    rw [← h.1.1] at hlt
    obtain ⟨x, _, a, b⟩ := tv_long (h.1.2 i t _ ht (List.getElem?_eq_getElem hlt)) hb.1
    omega
  · cases hb
def sy_cmpL (q : ClassFile.Cond) (y : sy_T) (a b : Nat) (t u : tv_T) : sy_T := sy_cutL (sy_cutL y a (cl_lo q t u) (cl_hi q t u)) b (cl_lo (cn_flip q) u t) (cl_hi (cn_flip q) u t)
def lc_next (pc : Nat) (q : ClassFile.Cond) (off : Int) (y : sy_T) : Option (List (Nat × sy_T × List fc_T)) := match y.2.2.1 with
  | b :: a :: r => (match y.1[a]?, y.1[b]? with
    | some t, some u => if t.1 = 1 ∧ u.1 = 1 ∧ 0 ≤ ((pc + 1 : Nat) : Int) + off then
        (let y1 := sy_cmpL q (sy_at y r) a b t u
         let y2 := sy_cmpL (cn_neg q) (sy_at y r) a b t u
         some ((if sy_botL y1 a || sy_botL y1 b then [] else [((((pc + 1 : Nat) : Int) + off).toNat, y1, [(7, [a, b], [cn_c q])])]) ++ (if sy_botL y2 a || sy_botL y2 b then [] else [(pc + 1 + 3, y2, [(7, [a, b], [cn_c (cn_neg q)])])]))) else none
    | _, _ => none)
  | _ => none
theorem lg_cases (x y : Int64) : (x.toInt < y.toInt ∧ (lg_cmp x y).toInt = -1) ∨ (x.toInt = y.toInt ∧ (lg_cmp x y).toInt = 0) ∨ (y.toInt < x.toInt ∧ (lg_cmp x y).toInt = 1) := by
  have e1 : x < y ↔ x.toInt < y.toInt := Int64.lt_iff_toInt_lt
  have e2 : y < x ↔ y.toInt < x.toInt := Int64.lt_iff_toInt_lt
  have e3 : x = y ↔ x.toInt = y.toInt := Int64.toInt_inj.symm
  unfold lg_cmp
  rcases Int.lt_trichotomy x.toInt y.toInt with h | h | h
  · refine Or.inl ⟨h, ?_⟩
    have a1 := e1.mpr h
    have a2 : ¬ x = y := fun q => by have := e3.mp q; omega
    have a3 : ¬ y < x := fun q => by have := e2.mp q; omega
    simp [a1, a2, a3]
  · refine Or.inr (Or.inl ⟨h, ?_⟩)
    have a1 : x = y := e3.mpr h
    have a2 : ¬ x < y := fun q => by have := e1.mp q; omega
    have a3 : ¬ y < x := fun q => by have := e2.mp q; omega
    simp [a1, a2, a3]
  · refine Or.inr (Or.inr ⟨h, ?_⟩)
    have a1 := e2.mpr h
    have a2 : ¬ x = y := fun q => by have := e3.mp q; omega
    have a3 : ¬ x < y := fun q => by have := e1.mp q; omega
    simp [a1, a2, a3]
theorem lg_ok {q : ClassFile.Cond} {x y : Int64} (h : cn_ok q (lg_cmp x y).toInt 0) : cn_ok q x.toInt y.toInt := by
  have := lg_cases x y
  cases q <;> simp only [cn_ok] at h ⊢ <;> omega
theorem n_iv_ofL {vs : List Value} {n : Nat} {x : Int64} (h : vs[n]? = some (.long x)) : n_iv vs n = x.toInt := by unfold n_iv; rw [n_v_of h]; rfl
theorem br_7L {vs : List Value} {a b : Nat} {x z : Int64} {q : ClassFile.Cond} (ha : vs[a]? = some (.long x)) (hb : vs[b]? = some (.long z)) (h : cn_ok q x.toInt z.toInt) : br_X [(7, [a, b], [cn_c q])] vs := fun f hf => by
  obtain rfl := List.mem_singleton.mp hf
  refine ⟨by simp, fun ws => ⟨fun n hn => ?_, ?_⟩⟩
  · rcases List.mem_cons.mp hn with rfl | hn
    · exact n_lt ha
    · obtain rfl := List.mem_singleton.mp hn; exact n_lt hb
  · show cq (cn_c q) (n_iv vs a) (n_iv vs b)
    rw [n_iv_ofL ha, n_iv_ofL hb]; exact cq_of h
section M12c
variable {p : Program} {l : Launch} {e : Env} {R : Room} {s : State} {m : MethodId} {args : Array Value} {below : List Frame} {meth : Method} {c : Code} {H : Heap} {locs : List Loc} {cells slots : Nat} {Q : State → Prop} {cc : ByteArray} {pc : Nat} {nL : Nat} {v0 : List Value} {ta : Nat → Option Nat} {ws : va_W} {y : sy_T}
theorem lc_next_ok (hx : p.tables.exec = Jvm.exec) (hb : c.code = cc) {q : ClassFile.Cond} {off : Int} (hd : decode cc pc = .ok (.lcmp, 1)) (hd2 : decode cc (pc + 1) = .ok (.ifCond q off, 3)) {L : List (Nat × sy_T × List fc_T)} (h : lc_next pc q off y = some L) (k : ∀ z ∈ L, sy_goX p l e R s m args below meth c H locs cells slots Q nL v0 ta ws (br_X z.2.2) z.1 z.2.1) : sy_go p l e R s m args below meth c H locs cells slots Q nL v0 ta ws pc y := by
  intro vs ls st hp0 hy
  unfold lc_next at h
  have hs := hy.2.2.1
  split at h
  · rename_i b a r hst
    rw [hst] at hs
    split at h
    · rename_i t u hta hub
      obtain ⟨va, vb, rest, rfl, ha, hb2, oa, ob, hr⟩ := sy_two hy.1 hs hta hub
      split at h
      · rename_i hk
        obtain rfl := Option.some.inj h
        obtain ⟨x, rfl, x1, x2⟩ := tv_long oa hk.1
        obtain ⟨z, rfl, z1, z2⟩ := tv_long ob hk.2.1
        have hy0 : sy_ok ta ws vs ls nL rest (sy_at y r) := sy_stack hy hr
        have cut : ∀ {q' : ClassFile.Cond}, cn_ok q' x.toInt z.toInt → sy_ok ta ws vs ls nL rest (sy_cmpL q' (sy_at y r) a b t u) := fun hc => by
          have e1 := cl_ok2 hc x1 x2 z1 z2
          have e2 := cl_ok2 (cn_flip_ok hc) z1 z2 x1 x2
          exact sy_cutL_ok (sy_cutL_ok hy0 ha e1.1 e1.2) hb2 e2.1 e2.2
        refine W.lcmp hx hb hd (br1_go hx hb hd2 hk.2.2 (fun hc => ?_) (fun hc => ?_))
        · have hc' := lg_ok hc
          have h1 := cut hc'
          refine k (_, _, _) (List.mem_append_left _ ?_) _ _ _ hp0 (br_7L ha hb2 hc') h1
          split
          · rename_i hbt
            rcases Bool.or_eq_true_iff.mp hbt with hbt | hbt
            · exact (sy_botL_ok h1 hbt).elim
            · exact (sy_botL_ok h1 hbt).elim
          · exact List.mem_cons_self
        · have hc' := lg_ok hc
          have h1 := cut hc'
          refine k (_, _, _) (List.mem_append_right _ ?_) _ _ _ hp0 (br_7L ha hb2 hc') h1
          split
          · rename_i hbt
            rcases Bool.or_eq_true_iff.mp hbt with hbt | hbt
            · exact (sy_botL_ok h1 hbt).elim
            · exact (sy_botL_ok h1 hbt).elim
          · exact List.mem_cons_self
      · cases h
    · cases h
  · cases h
end M12c
