/-! what a branch tells -/
def tv_cut (t : tv_T) (lo hi : Int) : tv_T := (t.1, mx2 t.2.1 lo, mn2 t.2.2.1 hi, t.2.2.2)
def en_cut (env : List tv_T) (i : Nat) (lo hi : Int) : List tv_T := match env[i]? with
  | some t => if t.1 = 0 then env.set i (tv_cut t lo hi) else env
  | none => env
theorem mx2_le {a b x : Int} (h1 : a ≤ x) (h2 : b ≤ x) : mx2 a b ≤ x := by unfold mx2; split <;> omega
theorem mn2_ge {a b x : Int} (h1 : x ≤ a) (h2 : x ≤ b) : x ≤ mn2 a b := by unfold mn2; split <;> omega
theorem en_set_ok {ta : Nat → Option Nat} {env : List tv_T} {vs : List Value} (h : sy_env ta env vs) {i : Nat} {v : Value} (hv : vs[i]? = some v) {t : tv_T} (ht : tv_ok ta t v) : sy_env ta (env.set i t) vs := by
  refine ⟨by rw [List.length_set]; exact h.1, fun j t' v' h1 h2 => ?_⟩
  by_cases e : i = j
  · subst e
    have hlt := (List.getElem?_eq_some_iff.mp hv).1
    rw [List.getElem?_set_self (by rw [← h.1]; exact hlt)] at h1
    rw [hv] at h2
    have e1 : t = t' := Option.some.inj h1
    have e2 : v = v' := Option.some.inj h2
    rw [← e1, ← e2]; exact ht
  · rw [List.getElem?_set_ne e] at h1
    exact h.2 j t' v' h1 h2
theorem en_cut_ok {ta : Nat → Option Nat} {env : List tv_T} {vs : List Value} (h : sy_env ta env vs) {i : Nat} {x : Int32} (hv : vs[i]? = some (.int x)) {lo hi : Int} (h1 : lo ≤ x.toInt) (h2 : x.toInt ≤ hi) : sy_env ta (en_cut env i lo hi) vs := by
  unfold en_cut
  split
  · rename_i t ht
    split
    · rename_i hk
      obtain ⟨z, e, z1, z2⟩ := tv_int (h.2 i t _ ht hv) hk
      obtain rfl := Value.int.inj e
      exact en_set_ok h hv (Or.inl ⟨hk, x, rfl, mx2_le z1 h1, mn2_ge z2 h2⟩)
    · exact h
  · exact h
def of_cut (i : Nat) (lo hi : Int) (env : List tv_T) (q : of_T) : List tv_T := if q.1 = i then en_cut env q.2.1 (lo - q.2.2.2) (hi - q.2.2.1) else if q.2.1 = i then en_cut env q.1 (lo + q.2.2.1) (hi + q.2.2.2) else env
theorem of_cut_ok {ta : Nat → Option Nat} {env : List tv_T} {vs : List Value} (h : sy_env ta env vs) {i : Nat} {x : Int32} (hv : vs[i]? = some (.int x)) {lo hi : Int} (h1 : lo ≤ x.toInt) (h2 : x.toInt ≤ hi) {q : of_T} (hq : sy_ofs vs q) : sy_env ta (of_cut i lo hi env q) vs := by
  obtain ⟨a, b, e1, e2, e3, e4⟩ := hq
  unfold of_cut
  split
  · rename_i e
    rw [e, hv] at e1
    obtain rfl := Value.int.inj (Option.some.inj e1)
    exact en_cut_ok h e2 (by omega) (by omega)
  · split
    · rename_i e
      rw [e, hv] at e2
      obtain rfl := Value.int.inj (Option.some.inj e2)
      exact en_cut_ok h e1 (by omega) (by omega)
    · exact h
theorem of_cuts_ok {ta : Nat → Option Nat} {vs : List Value} {i : Nat} {x : Int32} (hv : vs[i]? = some (.int x)) {lo hi : Int} (h1 : lo ≤ x.toInt) (h2 : x.toInt ≤ hi) : ∀ (os : List of_T) (env : List tv_T), sy_env ta env vs → (∀ q ∈ os, sy_ofs vs q) → sy_env ta (os.foldl (of_cut i lo hi) env) vs
  | [], _, h, _ => h
  | q :: os, env, h, ho => of_cuts_ok hv h1 h2 os _ (of_cut_ok h hv h1 h2 (ho q List.mem_cons_self)) (fun q hq => ho q (List.mem_cons_of_mem _ hq))
def sy_cut (y : sy_T) (i : Nat) (lo hi : Int) : sy_T := match y.1[i]? with
  | some t => if t.1 = 0 then (y.2.2.2.2.1.foldl (of_cut i (mx2 t.2.1 lo) (mn2 t.2.2.1 hi)) (en_cut y.1 i lo hi), y.2) else y
  | none => y
theorem sy_cut_ok {ta : Nat → Option Nat} {ws : va_W} {vs : List Value} {ls : Array Slot} {nL : Nat} {st : List Value} {y : sy_T} (h : sy_ok ta ws vs ls nL st y) {i : Nat} {x : Int32} (hv : vs[i]? = some (.int x)) {lo hi : Int} (h1 : lo ≤ x.toInt) (h2 : x.toInt ≤ hi) : sy_ok ta ws vs ls nL st (sy_cut y i lo hi) := by
  unfold sy_cut
  split
  · rename_i t ht
    split
    · rename_i hk
      obtain ⟨z, e, z1, z2⟩ := tv_int (h.1.2 i t _ ht hv) hk
      obtain rfl := Value.int.inj e
      exact ⟨of_cuts_ok hv (mx2_le z1 h1) (mn2_ge z2 h2) _ _ (en_cut_ok h.1 hv h1 h2) h.2.2.2.2.1, h.2⟩
    · exact h
  · exact h
/-- a name with no value -/
def sy_bot (y : sy_T) (i : Nat) : Bool := match y.1[i]? with
  | some t => decide (t.1 = 0) && decide (t.2.2.1 < t.2.1)
  | none => false
theorem sy_bot_ok {ta : Nat → Option Nat} {ws : va_W} {vs : List Value} {ls : Array Slot} {nL : Nat} {st : List Value} {y : sy_T} (h : sy_ok ta ws vs ls nL st y) {i : Nat} (hb : sy_bot y i = true) : False := by
  unfold sy_bot at hb
  split at hb
  · rename_i t ht
    simp only [Bool.and_eq_true, decide_eq_true_eq] at hb
    have hlt := (List.getElem?_eq_some_iff.mp ht).1
    rw [← h.1.1] at hlt
    obtain ⟨x, _, a, b⟩ := tv_int (h.1.2 i t _ ht (List.getElem?_eq_getElem hlt)) hb.1
    omega
  · cases hb
def cn_ok (q : ClassFile.Cond) (x y : Int) : Prop := match q with
  | .eq => x = y
  | .ne => x ≠ y
  | .lt => x < y
  | .ge => y ≤ x
  | .gt => y < x
  | .le => x ≤ y
def cn_neg (q : ClassFile.Cond) : ClassFile.Cond := match q with
  | .eq => .ne
  | .ne => .eq
  | .lt => .ge
  | .ge => .lt
  | .gt => .le
  | .le => .gt
def BIG : Int := 1000000000000
/-- bounds of the left one, then of the right one -/
def cn_lo (q : ClassFile.Cond) (t u : tv_T) : Int := match q with
  | .eq => u.2.1
  | .ne => if t.2.1 = u.2.1 ∧ u.2.1 = u.2.2.1 then t.2.1 + 1 else -BIG
  | .ge => u.2.1
  | .gt => u.2.1 + 1
  | _ => -BIG
def cn_hi (q : ClassFile.Cond) (t u : tv_T) : Int := match q with
  | .eq => u.2.2.1
  | .ne => if t.2.2.1 = u.2.1 ∧ u.2.1 = u.2.2.1 then t.2.2.1 - 1 else BIG
  | .lt => u.2.2.1 - 1
  | .le => u.2.2.1
  | _ => BIG
def cn_flip (q : ClassFile.Cond) : ClassFile.Cond := match q with
  | .eq => .eq
  | .ne => .ne
  | .lt => .gt
  | .ge => .le
  | .gt => .lt
  | .le => .ge
theorem cn_flip_ok {q : ClassFile.Cond} {x y : Int} (h : cn_ok q x y) : cn_ok (cn_flip q) y x := by
  cases q <;> simp only [cn_ok, cn_flip] at h ⊢ <;> omega
theorem cn_lo_ok {q : ClassFile.Cond} {t u : tv_T} {x y : Int32} (h : cn_ok q x.toInt y.toInt) (h1 : t.2.1 ≤ x.toInt) (h2 : x.toInt ≤ t.2.2.1) (h3 : u.2.1 ≤ y.toInt) (h4 : y.toInt ≤ u.2.2.1) : cn_lo q t u ≤ x.toInt ∧ x.toInt ≤ cn_hi q t u := by
  have a := x.le_toInt
  have b := x.toInt_lt
  cases q <;> simp only [cn_ok, cn_lo, cn_hi, BIG] at h ⊢
  · omega
  · constructor <;> split <;> omega
  · omega
  · omega
  · omega
  · omega
def cn_d (q : ClassFile.Cond) : Int × Int := match q with
  | .eq => (0, 0)
  | .ne => (-BIG, BIG)
  | .lt => (-BIG, -1)
  | .ge => (0, BIG)
  | .gt => (1, BIG)
  | .le => (-BIG, 0)
def sy_rel (q : ClassFile.Cond) (y : sy_T) (a b : Nat) (t u : tv_T) : sy_T := match q with
  | .ne => y
  | q => if isK t || isK u then y else (y.1, y.2.1, y.2.2.1, y.2.2.2.1, (a, b, (cn_d q).1, (cn_d q).2) :: y.2.2.2.2.1, y.2.2.2.2.2)
theorem sy_rel_ok {ta : Nat → Option Nat} {ws : va_W} {vs : List Value} {ls : Array Slot} {nL : Nat} {st : List Value} {y : sy_T} (h : sy_ok ta ws vs ls nL st y) {a b : Nat} {x z : Int32} {t u : tv_T} {q : ClassFile.Cond} (ha : vs[a]? = some (.int x)) (hb : vs[b]? = some (.int z)) (hq : cn_ok q x.toInt z.toInt) : sy_ok ta ws vs ls nL st (sy_rel q y a b t u) := by
  have a1 := x.le_toInt
  have a2 := x.toInt_lt
  have a3 := z.le_toInt
  have a4 := z.toInt_lt
  have key : z.toInt + (cn_d q).1 ≤ x.toInt ∧ x.toInt ≤ z.toInt + (cn_d q).2 := by
    cases q <;> simp only [cn_ok, cn_d, BIG] at hq ⊢ <;> omega
  unfold sy_rel
  split
  · exact h
  · split
    · exact h
    · refine ⟨h.1, h.2.1, h.2.2.1, h.2.2.2.1, fun w hw => ?_, h.2.2.2.2.2⟩
      rcases List.mem_cons.mp hw with rfl | hw
      · exact ⟨x, z, ha, hb, key.1, key.2⟩
      · exact h.2.2.2.2.1 w hw
def sy_cmp (q : ClassFile.Cond) (y : sy_T) (a b : Nat) (t u : tv_T) : sy_T := sy_rel q (sy_cut (sy_cut y a (cn_lo q t u) (cn_hi q t u)) b (cn_lo (cn_flip q) u t) (cn_hi (cn_flip q) u t)) a b t u
theorem sy_cmp_ok {ta : Nat → Option Nat} {ws : va_W} {vs : List Value} {ls : Array Slot} {nL : Nat} {st : List Value} {y : sy_T} (h : sy_ok ta ws vs ls nL st y) {a b : Nat} {x z : Int32} {t u : tv_T} {q : ClassFile.Cond} (ha : vs[a]? = some (.int x)) (hb : vs[b]? = some (.int z)) (hq : cn_ok q x.toInt z.toInt) (h1 : t.2.1 ≤ x.toInt) (h2 : x.toInt ≤ t.2.2.1) (h3 : u.2.1 ≤ z.toInt) (h4 : z.toInt ≤ u.2.2.1) : sy_ok ta ws vs ls nL st (sy_cmp q y a b t u) := by
  have e1 := cn_lo_ok hq h1 h2 h3 h4
  have e2 := cn_lo_ok (cn_flip_ok hq) h3 h4 h1 h2
  exact sy_rel_ok (sy_cut_ok (sy_cut_ok h ha e1.1 e1.2) hb e2.1 e2.2) ha hb hq
def sy_at (y : sy_T) (r : List Nat) : sy_T := (y.1, y.2.1, r, y.2.2.2.1, y.2.2.2.2)
def zr_T : tv_T := (0, 0, 0, [])
/-- the number of a condition -/
def cn_c (q : ClassFile.Cond) : Int := match q with
  | .eq => 0
  | .ne => 1
  | .lt => 2
  | .ge => 3
  | .gt => 4
  | .le => 5
theorem cq_of {q : ClassFile.Cond} {x y : Int} (h : cn_ok q x y) : cq (cn_c q) x y := by cases q <;> exact h
def br_X (L : List fc_T) (vs : List Value) : Prop := ∀ f ∈ L, f.1 < 100 ∧ ∀ ws, fc_1 f ws vs
theorem br_nil {vs : List Value} : br_X [] vs := fun f hf => by cases hf
theorem n_v_of {vs : List Value} {n : Nat} {v : Value} (h : vs[n]? = some v) : n_v vs n = v := by unfold n_v; rw [h]; rfl
theorem n_iv_of {vs : List Value} {n : Nat} {x : Int32} (h : vs[n]? = some (.int x)) : n_iv vs n = x.toInt := by unfold n_iv; rw [n_v_of h]; rfl
theorem n_lt {vs : List Value} {n : Nat} {v : Value} (h : vs[n]? = some v) : n < vs.length := (List.getElem?_eq_some_iff.mp h).1
theorem br_7 {vs : List Value} {a b : Nat} {x z : Int32} {q : ClassFile.Cond} (ha : vs[a]? = some (.int x)) (hb : vs[b]? = some (.int z)) (h : cn_ok q x.toInt z.toInt) : br_X [(7, [a, b], [cn_c q])] vs := fun f hf => by
  obtain rfl := List.mem_singleton.mp hf
  refine ⟨by simp, fun ws => ⟨fun n hn => ?_, ?_⟩⟩
  · rcases List.mem_cons.mp hn with rfl | hn
    · exact n_lt ha
    · obtain rfl := List.mem_singleton.mp hn; exact n_lt hb
  · show cq (cn_c q) (n_iv vs a) (n_iv vs b)
    rw [n_iv_of ha, n_iv_of hb]; exact cq_of h
theorem br_8 {vs : List Value} {a : Nat} {x : Int32} {q : ClassFile.Cond} (ha : vs[a]? = some (.int x)) (h : cn_ok q x.toInt 0) : br_X [(8, [a], [cn_c q])] vs := fun f hf => by
  obtain rfl := List.mem_singleton.mp hf
  refine ⟨by simp, fun ws => ⟨fun n hn => ?_, ?_⟩⟩
  · obtain rfl := List.mem_singleton.mp hn; exact n_lt ha
  · show cq (cn_c q) (n_iv vs a) 0
    rw [n_iv_of ha]; exact cq_of h
/-- the ways on from a jump -/
def br_next (pc : Nat) (i : ClassFile.Instr) (len : Nat) (y : sy_T) : Option (List (Nat × sy_T × List fc_T)) := match i with
  | .goto off => if len = 3 ∧ 0 ≤ (pc : Int) + off then some [(((pc : Int) + off).toNat, y, [])] else none
  | .if_icmp q off => match y.2.2.1 with
    | b :: a :: r => match y.1[a]?, y.1[b]? with
      | some t, some u => if t.1 = 0 ∧ u.1 = 0 ∧ len = 3 ∧ 0 ≤ (pc : Int) + off then
          (let y1 := sy_cmp q (sy_at y r) a b t u
           let y2 := sy_cmp (cn_neg q) (sy_at y r) a b t u
           some ((if sy_bot y1 a || sy_bot y1 b then [] else [(((pc : Int) + off).toNat, y1, [(7, [a, b], [cn_c q])])]) ++ (if sy_bot y2 a || sy_bot y2 b then [] else [(pc + 3, y2, [(7, [a, b], [cn_c (cn_neg q)])])]))) else none
      | _, _ => none
    | _ => none
  | .ifCond q off => match y.2.2.1 with
    | a :: r => match y.1[a]? with
      | some t => if t.1 = 0 ∧ len = 3 ∧ 0 ≤ (pc : Int) + off then
          (let y1 := sy_cut (sy_at y r) a (cn_lo q t zr_T) (cn_hi q t zr_T)
           let y2 := sy_cut (sy_at y r) a (cn_lo (cn_neg q) t zr_T) (cn_hi (cn_neg q) t zr_T)
           some ((if sy_bot y1 a then [] else [(((pc : Int) + off).toNat, y1, [(8, [a], [cn_c q])])]) ++ (if sy_bot y2 a then [] else [(pc + 3, y2, [(8, [a], [cn_c (cn_neg q)])])]))) else none
      | none => none
    | _ => none
  | .ifnull off => match y.2.2.1 with
    | a :: r => match y.1[a]? with
      | some t => if t.1 = 2 ∧ len = 3 then some [(pc + 3, sy_at y r, [])] else if t.1 = 3 ∧ len = 3 ∧ 0 ≤ (pc : Int) + off then some [(((pc : Int) + off).toNat, sy_at y r, []), (pc + 3, (y.1.set a (2, t.2), y.2.1, r, y.2.2.2), [])] else none
      | none => none
    | _ => none
  | .ifnonnull off => match y.2.2.1 with
    | a :: r => match y.1[a]? with
      | some t => if t.1 = 2 ∧ len = 3 ∧ 0 ≤ (pc : Int) + off then some [(((pc : Int) + off).toNat, sy_at y r, [])] else if t.1 = 3 ∧ len = 3 ∧ 0 ≤ (pc : Int) + off then some [(pc + 3, sy_at y r, []), (((pc : Int) + off).toNat, (y.1.set a (2, t.2), y.2.1, r, y.2.2.2), [])] else none
      | none => none
    | _ => none
  | _ => none
section M8
variable {p : Program} {l : Launch} {e : Env} {R : Room} {s : State} {m : MethodId} {args : Array Value} {below : List Frame} {meth : Method} {c : Code} {H : Heap} {locs : List Loc} {cells slots : Nat} {Q : State → Prop} {cc : ByteArray} {pc : Nat} {i : ClassFile.Instr} {len nL : Nat} {v0 : List Value} {ta : Nat → Option Nat} {ws : va_W} {y : sy_T} {ls : Array Slot} {rest : List Value}
theorem i32_lt {x y : Int32} : x < y ↔ x.toInt < y.toInt := Int32.lt_iff_toInt_lt
theorem i32_le {x y : Int32} : x ≤ y ↔ x.toInt ≤ y.toInt := Int32.le_iff_toInt_le
theorem i32_eq {x y : Int32} : x = y ↔ x.toInt = y.toInt := Int32.toInt_inj.symm
theorem br2_go (hx : p.tables.exec = Jvm.exec) (hb : c.code = cc) {q : ClassFile.Cond} {off : Int} (hd : decode cc pc = .ok (.if_icmp q off, 3)) (ht : 0 ≤ (pc : Int) + off) {x y : Int32} (k1 : cn_ok q x.toInt y.toInt → W p l e R s m args below meth c H locs cells slots Q (F0 m ((pc : Int) + off).toNat ls rest)) (k2 : cn_ok (cn_neg q) x.toInt y.toInt → W p l e R s m args below meth c H locs cells slots Q (F0 m (pc + 3) ls rest)) : W p l e R s m args below meth c H locs cells slots Q (F0 m pc ls (.int y :: .int x :: rest)) := by
  have ht2 : (pc : Int) + off = ((((pc : Int) + off).toNat : Nat) : Int) := by omega
  cases q <;> simp only [cn_ok, cn_neg] at k1 k2
  · exact lv_icmp_eq hx hb hd ht2 (fun h => k1 (i32_eq.mp h)) (fun h => k2 (fun h2 => h (i32_eq.mpr h2)))
  · exact lv_icmp_ne hx hb hd ht2 (fun h => k1 (fun h2 => h (i32_eq.mpr h2))) (fun h => k2 (i32_eq.mp h))
  · exact lv_icmp_lt hx hb hd ht2 (fun h => k1 (i32_lt.mp h)) (fun h => k2 (by have := (not_congr i32_lt).mp h; omega))
  · exact lv_icmp_ge hx hb hd ht2 (fun h => k1 (i32_le.mp h)) (fun h => k2 (by have := (not_congr i32_le).mp h; omega))
  · exact lv_icmp_gt hx hb hd ht2 (fun h => k1 (i32_lt.mp h)) (fun h => k2 (by have := (not_congr i32_lt).mp h; omega))
  · exact lv_icmp_le hx hb hd ht2 (fun h => k1 (i32_le.mp h)) (fun h => k2 (by have := (not_congr i32_le).mp h; omega))
theorem br1_go (hx : p.tables.exec = Jvm.exec) (hb : c.code = cc) {q : ClassFile.Cond} {off : Int} (hd : decode cc pc = .ok (.ifCond q off, 3)) (ht : 0 ≤ (pc : Int) + off) {x : Int32} (k1 : cn_ok q x.toInt 0 → W p l e R s m args below meth c H locs cells slots Q (F0 m ((pc : Int) + off).toNat ls rest)) (k2 : cn_ok (cn_neg q) x.toInt 0 → W p l e R s m args below meth c H locs cells slots Q (F0 m (pc + 3) ls rest)) : W p l e R s m args below meth c H locs cells slots Q (F0 m pc ls (.int x :: rest)) := by
  have ht2 : (pc : Int) + off = ((((pc : Int) + off).toNat : Nat) : Int) := by omega
  have z : (0 : Int32).toInt = 0 := by decide
  cases q <;> simp only [cn_ok, cn_neg] at k1 k2
  · exact lv_if_eq hx hb hd ht2 (fun h => k1 (by rw [h]; exact z)) (fun h => k2 (fun h2 => h (i32_eq.mpr (h2.trans z.symm))))
  · exact lv_if_ne hx hb hd ht2 (fun h => k1 (fun h2 => h (i32_eq.mpr (h2.trans z.symm)))) (fun h => k2 ((i32_eq.mp h).trans z))
  · exact lv_if_lt hx hb hd ht2 (fun h => k1 (by have := i32_lt.mp h; omega)) (fun h => k2 (by have := (not_congr i32_lt).mp h; omega))
  · exact lv_if_ge hx hb hd ht2 (fun h => k1 (by have := i32_le.mp h; omega)) (fun h => k2 (by have := (not_congr i32_le).mp h; omega))
  · exact lv_if_gt hx hb hd ht2 (fun h => k1 (by have := i32_lt.mp h; omega)) (fun h => k2 (by have := (not_congr i32_lt).mp h; omega))
  · exact lv_if_le hx hb hd ht2 (fun h => k1 (by have := i32_le.mp h; omega)) (fun h => k2 (by have := (not_congr i32_le).mp h; omega))
theorem sy_refd {vs : List Value} {st : List Value} {a : Nat} {t : tv_T} {r : List Nat} (hy : sy_ok ta ws vs ls nL st y) (hs : sy_st vs r rest) {v : Value} (ha : vs[a]? = some v) (hv : tv_ok ta (2, t.2) v) : sy_ok ta ws vs ls nL rest (y.1.set a (2, t.2), y.2.1, r, y.2.2.2) := ⟨en_set_ok hy.1 ha hv, hy.2.1, hs, hy.2.2.2⟩
theorem br_next_ok (hx : p.tables.exec = Jvm.exec) (hb : c.code = cc) (hd : decode cc pc = .ok (i, len)) {L : List (Nat × sy_T × List fc_T)} (h : br_next pc i len y = some L) (k : ∀ q ∈ L, sy_goX p l e R s m args below meth c H locs cells slots Q nL v0 ta ws (br_X q.2.2) q.1 q.2.1) : sy_go p l e R s m args below meth c H locs cells slots Q nL v0 ta ws pc y := by
  intro vs ls st hp0 hy
  unfold br_next at h
  have hs := hy.2.2.1
  split at h
  · split at h
    · rename_i hk
      obtain rfl := Option.some.inj h
      obtain rfl := hk.1
      exact lv_goto hx hb hd (by omega) (k _ List.mem_cons_self _ _ _ hp0 br_nil hy)
    · cases h
  · split at h
    · rename_i b a r hst
      rw [hst] at hs
      split at h
      · rename_i t u hta hub
        obtain ⟨va, vb, rest, rfl, ha, hb2, oa, ob, hr⟩ := sy_two hy.1 hs hta hub
        split at h
        · rename_i hk
          obtain rfl := Option.some.inj h
          obtain rfl := hk.2.2.1
          obtain ⟨x, rfl, x1, x2⟩ := tv_int oa hk.1
          obtain ⟨z, rfl, z1, z2⟩ := tv_int ob hk.2.1
          have hy0 : sy_ok ta ws vs ls nL rest (sy_at y r) := sy_stack hy hr
          refine br2_go hx hb hd hk.2.2.2 (fun hc => ?_) (fun hc => ?_)
          · have h1 := sy_cmp_ok hy0 ha hb2 hc x1 x2 z1 z2
            refine k (_, _, _) (List.mem_append_left _ ?_) _ _ _ hp0 (br_7 ha hb2 hc) h1
            split
            · rename_i hbt
              rcases Bool.or_eq_true_iff.mp hbt with hbt | hbt
              · exact (sy_bot_ok h1 hbt).elim
              · exact (sy_bot_ok h1 hbt).elim
            · exact List.mem_cons_self
          · have h1 := sy_cmp_ok hy0 ha hb2 hc x1 x2 z1 z2
            refine k (_, _, _) (List.mem_append_right _ ?_) _ _ _ hp0 (br_7 ha hb2 hc) h1
            split
            · rename_i hbt
              rcases Bool.or_eq_true_iff.mp hbt with hbt | hbt
              · exact (sy_bot_ok h1 hbt).elim
              · exact (sy_bot_ok h1 hbt).elim
            · exact List.mem_cons_self
        · cases h
      · cases h
    · cases h
  · split at h
    · rename_i a r hst
      rw [hst] at hs
      split at h
      · rename_i t hta
        obtain ⟨va, rest, rfl, ha, oa, hr⟩ := sy_one hy.1 hs hta
        split at h
        · rename_i hk
          obtain rfl := Option.some.inj h
          obtain rfl := hk.2.1
          obtain ⟨x, rfl, x1, x2⟩ := tv_int oa hk.1
          have hy0 : sy_ok ta ws vs ls nL rest (sy_at y r) := sy_stack hy hr
          have z0 : (0 : Int32).toInt = 0 := by decide
          refine br1_go hx hb hd hk.2.2 (fun hc => ?_) (fun hc => ?_)
          · have e1 := cn_lo_ok (u := zr_T) (y := 0) (by rw [z0]; exact hc) x1 x2 (by decide) (by decide)
            have h1 := sy_cut_ok hy0 ha e1.1 e1.2
            refine k (_, _, _) (List.mem_append_left _ ?_) _ _ _ hp0 (br_8 ha hc) h1
            split
            · rename_i hbt; exact (sy_bot_ok h1 hbt).elim
            · exact List.mem_cons_self
          · have e1 := cn_lo_ok (u := zr_T) (y := 0) (by rw [z0]; exact hc) x1 x2 (by decide) (by decide)
            have h1 := sy_cut_ok hy0 ha e1.1 e1.2
            refine k (_, _, _) (List.mem_append_right _ ?_) _ _ _ hp0 (br_8 ha hc) h1
            split
            · rename_i hbt; exact (sy_bot_ok h1 hbt).elim
            · exact List.mem_cons_self
        · cases h
      · cases h
    · cases h
  · split at h
    · rename_i a r hst
      rw [hst] at hs
      split at h
      · rename_i t hta
        obtain ⟨va, rest, rfl, ha, oa, hr⟩ := sy_one hy.1 hs hta
        split at h
        · rename_i hk
          obtain rfl := Option.some.inj h
          obtain rfl := hk.2
          obtain ⟨x, _, rfl, _⟩ := tv_ref oa hk.1
          exact lv_ifnull hx hb hd (k _ List.mem_cons_self _ _ _ hp0 br_nil (sy_stack hy hr))
        · split at h
          · rename_i hk
            obtain rfl := Option.some.inj h
            obtain rfl := hk.2.1
            rcases tv_nref oa hk.1 with rfl | ⟨x, r1, rfl, h1, h2⟩
            · exact lv_ifnullN hx hb hd (by omega) (k _ List.mem_cons_self _ _ _ hp0 br_nil (sy_stack hy hr))
            · exact lv_ifnull hx hb hd (k _ (List.mem_cons_of_mem _ List.mem_cons_self) _ _ _ hp0 br_nil (sy_refd hy hr ha (Or.inr (Or.inr (Or.inl ⟨rfl, x, r1, rfl, h1, h2⟩)))))
          · cases h
      · cases h
    · cases h
  · split at h
    · rename_i a r hst
      rw [hst] at hs
      split at h
      · rename_i t hta
        obtain ⟨va, rest, rfl, ha, oa, hr⟩ := sy_one hy.1 hs hta
        split at h
        · rename_i hk
          obtain rfl := Option.some.inj h
          obtain rfl := hk.2.1
          obtain ⟨x, _, rfl, _⟩ := tv_ref oa hk.1
          exact lv_ifnonnull hx hb hd (by omega) (k _ List.mem_cons_self _ _ _ hp0 br_nil (sy_stack hy hr))
        · split at h
          · rename_i hk
            obtain rfl := Option.some.inj h
            obtain rfl := hk.2.1
            rcases tv_nref oa hk.1 with rfl | ⟨x, r1, rfl, h1, h2⟩
            · exact lv_ifnonnullN hx hb hd (k _ List.mem_cons_self _ _ _ hp0 br_nil (sy_stack hy hr))
            · exact lv_ifnonnull hx hb hd (by omega) (k _ (List.mem_cons_of_mem _ List.mem_cons_self) _ _ _ hp0 br_nil (sy_refd hy hr ha (Or.inr (Or.inr (Or.inl ⟨rfl, x, r1, rfl, h1, h2⟩)))))
          · cases h
      · cases h
    · cases h
  · cases h
end M8
