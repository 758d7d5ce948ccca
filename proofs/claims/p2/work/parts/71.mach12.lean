/-! calls, answers, switches, constants of the pool -/
def ag_chk (y : sy_T) : List tv_T → List Nat → Bool
  | [], [] => true
  | t :: ts, n :: ns => nm_le y n t && ag_chk y ts ns
  | _, _ => false
theorem ag_chk_ok {ta : Nat → Option Nat} {ws : va_W} {vs : List Value} {ls : Array Slot} {nL : Nat} {st : List Value} {y : sy_T} (hy : sy_ok ta ws vs ls nL st y) : ∀ {ts : List tv_T} {ns : List Nat} {av : List Value}, ag_chk y ts ns = true → sy_st vs ns av → ag_ok ta ts av
  | [], [], [], _, _ => trivial
  | t :: ts, n :: ns, v :: av, h, hs => by
    unfold ag_chk at h
    simp only [Bool.and_eq_true] at h
    exact ⟨nm_le_ok hy hs.1 h.1, ag_chk_ok hy h.2 hs.2⟩
  | [], [], _ :: _, _, hs => hs.elim
  | _ :: _, _ :: _, [], _, hs => hs.elim
  | [], _ :: _, _, h, _ => by cases h
  | _ :: _, [], _, h, _ => by cases h
theorem sy_st_split {vs : List Value} : ∀ {a r : List Nat} {st : List Value}, sy_st vs (a ++ r) st → ∃ sa rest, st = sa ++ rest ∧ sy_st vs a sa ∧ sy_st vs r rest
  | [], r, st, h => ⟨[], st, rfl, trivial, h⟩
  | n :: a, r, [], h => h.elim
  | n :: a, r, v :: st, h => by
    obtain ⟨sa, rest, e, h1, h2⟩ := sy_st_split h.2
    exact ⟨v :: sa, rest, by rw [e]; rfl, ⟨h.1, h1⟩, h2⟩
theorem sy_st_join {vs : List Value} : ∀ {a r : List Nat} {sa rest : List Value}, sy_st vs a sa → sy_st vs r rest → sy_st vs (a ++ r) (sa ++ rest)
  | [], _, [], _, _, h => h
  | _ :: _, _, _ :: _, _, h1, h => ⟨h1.1, sy_st_join h1.2 h⟩
  | [], _, _ :: _, _, h, _ => h.elim
  | _ :: _, _, [], _, h, _ => h.elim
theorem sy_st_rev {vs : List Value} : ∀ {a : List Nat} {sa : List Value}, sy_st vs a sa → sy_st vs a.reverse sa.reverse
  | [], [], _ => trivial
  | n :: a, v :: sa, h => by
    rw [List.reverse_cons, List.reverse_cons]
    exact sy_st_join (sy_st_rev h.2) ⟨h.1, trivial⟩
  | [], _ :: _, h => h.elim
  | _ :: _, [], h => h.elim
def kd_w (env : List tv_T) (n : Nat) : Nat := if sy_kd env n = 1 then 2 else 1
theorem sy_w {ta : Nat → Option Nat} {env : List tv_T} {vs : List Value} (he : sy_env ta env vs) : ∀ {r : List Nat} {st : List Value}, sy_st vs r st → (st.map fun v => v.category).sum = (r.map (kd_w env)).sum
  | [], [], _ => rfl
  | n :: r, v :: st, h => by
    rw [List.map_cons, List.map_cons, List.sum_cons, List.sum_cons, sy_w he h.2]
    obtain ⟨t, h1, h2⟩ := sy_name he h.1
    have e : v.category = kd_w env n := by
      unfold kd_w sy_kd
      rw [h1]
      simp only
      split
      · rename_i q; exact (tv_cat h2).1 q
      · rename_i q; exact (tv_cat h2).2 q
    rw [e]
  | [], _ :: _, h => h.elim
  | _ :: _, [], h => h.elim
/-- behind a call -/
def sy_back (y : sy_T) (pu : Bool) (r : List Nat) (rt : Option tv_T) : sy_T := match rt with
  | none => (y.1, y.2.1, r, if pu then y.2.2.2.1 else [], y.2.2.2.2)
  | some t => sy_pushT (y.1, y.2.1, r, if pu then y.2.2.2.1 else [], y.2.2.2.2) t r
def tr_call (en : en_T) (y : sy_T) : Option sy_T :=
  let n := en.1.length
  let r := y.2.2.1.drop n
  if ag_chk y en.1 (y.2.2.1.take n).reverse && decide ((r.map (kd_w y.1)).sum ≤ 8) then some (sy_back y en.2.2.1 r en.2.1) else none
theorem sy_env_mono {ta tb : Nat → Option Nat} {env : List tv_T} {vs : List Value} (h : ta_le ta tb) (he : sy_env ta env vs) : sy_env tb env vs := ⟨he.1, fun i t v h1 h2 => tv_mono h (he.2 i t v h1 h2)⟩
theorem sy_backed {ta tb : Nat → Option Nat} {ws w1 : va_W} {vs : List Value} {ls : Array Slot} {nL : Nat} {st rest : List Value} {y : sy_T} {r : List Nat} {rt : Option tv_T} {rv : Option Value} {pu : Bool} (hy : sy_ok ta ws vs ls nL st y) (hr : sy_st vs r rest) (hle : ta_le ta tb) (hrt : rt_ok tb rt rv) (hpu : pu = true → (tb, w1) = (ta, ws)) : ∃ vs', (vs' = vs ∨ ∃ v, vs' = vs ++ [v]) ∧ sy_ok tb w1 vs' ls nL (push_r rv rest) (sy_back y pu r rt) := by
  have hz : sy_ok tb w1 vs ls nL rest (y.1, y.2.1, r, if pu then y.2.2.2.1 else [], y.2.2.2.2) := by
    refine ⟨sy_env_mono hle hy.1, hy.2.1, hr, fun q hq => ?_, hy.2.2.2.2⟩
    cases pu with
    | true =>
      have e := hpu rfl
      have e2 : w1 = ws := (Prod.mk.inj e).2
      rw [e2]; exact hy.2.2.2.1 q hq
    | false => cases hq
  unfold sy_back
  cases rt with
  | none =>
    cases rv with
    | none => exact ⟨vs, Or.inl rfl, hz⟩
    | some v => exact hrt.elim
  | some t =>
    cases rv with
    | none => exact hrt.elim
    | some v => exact ⟨vs ++ [v], Or.inr ⟨v, rfl⟩, sy_pushedT hz hr hrt⟩
/-- constants of the pool -/
def kt_rule (own : String) (op : ClassFile.Instr) (len : Nat) (v : Value) : Prop := ∀ (p : Program) (l : Launch) (e : Env) (R : Room) (s : State) (m : MethodId) (args : Array Value) (below : List Frame) (meth : Method) (c : Code) (H : Heap) (locs : List Loc) (cells slots : Nat) (Q : State → Prop) (cc : ByteArray) (pc nL : Nat) (ret : Option FieldType) (nm : String) (ls : Array Slot) (rest : List Value),
  cx p s m args meth c cc nL ret own nm → decode cc pc = .ok (op, len) → W p l e R s m args below meth c H locs cells slots Q (F0 m (pc + len) ls (v :: rest)) → W p l e R s m args below meth c H locs cells slots Q (F0 m pc ls rest)
/-- the ways on from a switch -/
def sw_list (pc : Nat) (y : sy_T) (a : Nat) : Int → List Int → Option (List (Nat × sy_T))
  | _, [] => some []
  | k, off :: r => if 0 ≤ (pc : Int) + off then (sw_list pc y a (k + 1) r).map (fun l => (((pc : Int) + off).toNat, sy_cut y a k k) :: l) else none
def tr_sw (pc : Nat) (i : ClassFile.Instr) (y : sy_T) : Option (List (Nat × sy_T)) := match i with
  | .tableswitch d lo hi offs => match y.2.2.1 with
    | a :: r => if sy_kd y.1 a = 0 ∧ 0 ≤ (pc : Int) + d ∧ hi = lo + (offs.size : Int) - 1 then (sw_list pc (sy_at y r) a lo offs.toList).map (fun l => (((pc : Int) + d).toNat, sy_at y r) :: l) else none
    | [] => none
  | _ => none
theorem sw_list_ok {pc : Nat} {y : sy_T} {a : Nat} : ∀ {offs : List Int} {k : Int} {L : List (Nat × sy_T)}, sw_list pc y a k offs = some L → ∀ (j : Nat) (off : Int), offs[j]? = some off → 0 ≤ (pc : Int) + off ∧ (((pc : Int) + off).toNat, sy_cut y a (k + j) (k + j)) ∈ L
  | [], _, _, _, j, _, hj => by cases hj
  | o :: offs, k, L, h, j, off, hj => by
    unfold sw_list at h
    split at h
    · rename_i h0
      obtain ⟨L', h1, rfl⟩ := Option.map_eq_some_iff.mp h
      cases j with
      | zero =>
        have e : o = off := Option.some.inj hj
        subst e
        refine ⟨h0, ?_⟩
        have e2 : k + ((0 : Nat) : Int) = k := by omega
        rw [e2]; exact List.mem_cons_self
      | succ j =>
        have := sw_list_ok h1 j off hj
        refine ⟨this.1, List.mem_cons_of_mem _ ?_⟩
        have e2 : k + 1 + (j : Int) = k + ((j + 1 : Nat) : Int) := by omega
        rw [e2] at this; exact this.2
    · cases h
section M12
variable {p : Program} {l : Launch} {e : Env} {R : Room} {s : State} {m : MethodId} {args : Array Value} {below : List Frame} {meth : Method} {c : Code} {H : Heap} {locs : List Loc} {cells slots : Nat} {Q : State → Prop} {cc : ByteArray} {pc : Nat} {i : ClassFile.Instr} {len nL : Nat} {v0 : List Value} {ta : Nat → Option Nat} {ws : va_W} {y y' : sy_T} {D : va_G} {kA : Nat → ClassId} {G : List rg_T} {A : Nat → Prop} {ret : Option FieldType} {own nm : String}
theorem tr_sw_ok (hx : p.tables.exec = Jvm.exec) (hb : c.code = cc) (hd : decode cc pc = .ok (i, len)) {L : List (Nat × sy_T)} (h : tr_sw pc i y = some L) (k : ∀ q ∈ L, sy_go p l e R s m args below meth c H locs cells slots Q nL v0 ta ws q.1 q.2) : sy_go p l e R s m args below meth c H locs cells slots Q nL v0 ta ws pc y := by
  intro vs ls st hp0 hy
  unfold tr_sw at h
  have hs := hy.2.2.1
  split at h
  · rename_i d lo hi offs
    split at h
    · rename_i a r hst
      rw [hst] at hs
      split at h
      · rename_i hk
        obtain ⟨L', h1, rfl⟩ := Option.map_eq_some_iff.mp h
        cases st with
        | nil => exact hs.elim
        | cons v rest =>
          obtain ⟨t, _, k1, k2⟩ := sy_kd_ok hy.1 hs.1 hk.1
          obtain ⟨x, rfl, _, _⟩ := tv_int k2 k1
          have hy0 : sy_ok ta ws vs ls nL rest (sy_at y r) := sy_stack hy hs.2
          by_cases hin : x.toInt < lo ∨ hi < x.toInt
          · exact lv_tableOut hx hb hd hin (by have := hk.2.1; omega) (k _ List.mem_cons_self _ _ _ hp0 hy0)
          · have j1 : ¬ x.toInt < lo := fun q => hin (Or.inl q)
            have j2 : ¬ hi < x.toInt := fun q => hin (Or.inr q)
            have j3 : (x.toInt - lo).toNat < offs.toList.length := by
              have := hk.2.2
              rw [Array.length_toList]
              omega
            have ho := List.getElem?_eq_getElem j3
            obtain ⟨m1, m2⟩ := sw_list_ok h1 _ _ ho
            have e2 : lo + ((x.toInt - lo).toNat : Int) = x.toInt := by omega
            rw [e2] at m2
            refine lv_tableIn hx hb hd j1 j2 (by rw [← Array.getElem?_toList]; exact ho) (show (pc : Int) + _ = _ by omega) (k _ (List.mem_cons_of_mem _ m2) _ _ _ hp0 (sy_cut_ok hy0 hs.1 (Int.le_refl _) (Int.le_refl _)))
      · cases h
    · cases h
  · cases h
theorem tr_call_ok {en : en_T} {op : ClassFile.Instr} (hcl : cl_ok l D kA G own op en) (X : cx p s m args meth c cc nL ret own nm) (hK : va_K D classes (TY kA) s) (hN : nst s) (hA : ∀ q, s.heap.size ≤ q → A q) (hP : va_P D classes ws H) (hD : va_D A ws) (hS : va_S A s.heap H locs) (hth : th_ok kA G ta ws) (hfr : en.2.2.2.1 + 1 ≤ R.frames) (hlo : 64 * (en.2.2.2.1 + 1) ≤ R.locals) (hce : cells + en.2.2.2.2.1 ≤ R.cells) (hsl : slots + en.2.2.2.2.2 ≤ R.slots) (hd : decode cc pc = .ok (op, 3)) (h : tr_call en y = some y')
    (kk : ∀ (tb : Nat → Option Nat) (w1 : va_W) (H1 : Heap) (locs1 : List Loc), ta_le ta tb → th_ok kA G tb w1 → va_P D classes w1 H1 → va_D A w1 → va_S A s.heap H1 locs1 → (en.2.2.1 = true → (tb, w1) = (ta, ws)) → sy_go p l e R s m args below meth c H1 locs1 (cells + en.2.2.2.2.1) (slots + en.2.2.2.2.2) Q nL v0 tb w1 (pc + 3) y') : sy_go p l e R s m args below meth c H locs cells slots Q nL v0 ta ws pc y := by
  intro vs ls st hp0 hy
  unfold tr_call at h
  simp only at h
  split at h
  · rename_i hk
    simp only [Bool.and_eq_true, decide_eq_true_eq] at hk
    obtain rfl := Option.some.inj h
    have hs := hy.2.2.1
    rw [← List.take_append_drop en.1.length y.2.2.1] at hs
    obtain ⟨sa, rest, rfl, s1, s2⟩ := sy_st_split hs
    have hag := ag_chk_ok hy hk.1 (sy_st_rev s1)
    have hst : sa ++ rest = sa.reverse.reverse ++ rest := by rw [List.reverse_reverse]
    rw [hst]
    refine hcl p e R s m args below meth c H locs cells slots Q cc pc nL ret nm A ws ta ls sa.reverse rest X hK hN hA hP hD hS hth hag (by rw [sy_w hy.1 s2]; exact hk.2) hfr hlo hce hsl hy.2.1.1 hd (fun tb w1 H1 locs1 r b1 b2 b3 b4 b5 b6 b7 => ?_)
    obtain ⟨vs', hv, hy2⟩ := sy_backed hy s2 b1 b6 b7
    refine kk tb w1 H1 locs1 b1 b2 b3 b4 b5 b7 vs' ls _ ?_ hy2
    rcases hv with rfl | ⟨v, rfl⟩
    · exact hp0
    · exact pre_app hp0
  · cases h
end M12
