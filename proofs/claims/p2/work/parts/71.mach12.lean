/-! calls, answers, switches, constants of the pool -/
def ag_chk (y : sy_T) : List tv_T → List Nat → Bool
  | [], [] => true
  | t :: ts, n :: ns => nm_le y n t && ag_chk y ts ns
  | _, _ => false
theorem ag_chk_ok {ta : Nat → Option Nat} {ws : va_W} {vs : List Value} {ls : Array Slot} {nL : Nat} {st : List Value} {y : sy_T} (hy : sy_ok ta ws vs ls nL st y) : ∀ {ts : List tv_T} {ns : List Nat} {av : List Value}, ag_chk y ts ns = true → sy_st vs ns av → ag_ok ta ts av
  | [], [], [], _, _ => trivial
  | t :: ts, n :: ns, v :: av, h, hs => by
    unfold ag_chk at h
    simp only [Bool.and_eq_true] at h
    exact ⟨nm_le_ok hy hs.1 h.1, ag_chk_ok hy h.2 hs.2⟩
  | [], [], _ :: _, _, hs => hs.elim
  | _ :: _, _ :: _, [], _, hs => hs.elim
  | [], _ :: _, _, h, _ => by cases h
  | _ :: _, [], _, h, _ => by cases h
theorem sy_st_split {vs : List Value} : ∀ {a r : List Nat} {st : List Value}, sy_st vs (a ++ r) st → ∃ sa rest, st = sa ++ rest ∧ sy_st vs a sa ∧ sy_st vs r rest
  | [], r, st, h => ⟨[], st, rfl, trivial, h⟩
  | n :: a, r, [], h => h.elim
  | n :: a, r, v :: st, h => by
    obtain ⟨sa, rest, e, h1, h2⟩ := sy_st_split h.2
    exact ⟨v :: sa, rest, by rw [e]; rfl, ⟨h.1, h1⟩, h2⟩
theorem sy_st_join {vs : List Value} : ∀ {a r : List Nat} {sa rest : List Value}, sy_st vs a sa → sy_st vs r rest → sy_st vs (a ++ r) (sa ++ rest)
  | [], _, [], _, _, h => h
  | _ :: _, _, _ :: _, _, h1, h => ⟨h1.1, sy_st_join h1.2 h⟩
  | [], _, _ :: _, _, h, _ => h.elim
  | _ :: _, _, [], _, h, _ => h.elim
theorem sy_st_rev {vs : List Value} : ∀ {a : List Nat} {sa : List Value}, sy_st vs a sa → sy_st vs a.reverse sa.reverse
  | [], [], _ => trivial
  | n :: a, v :: sa, h => by
    rw [List.reverse_cons, List.reverse_cons]
    exact sy_st_join (sy_st_rev h.2) ⟨h.1, trivial⟩
  | [], _ :: _, h => h.elim
  | _ :: _, [], h => h.elim
def kd_w (env : List tv_T) (n : Nat) : Nat := if sy_kd env n = 1 then 2 else 1
theorem sy_w {ta : Nat → Option Nat} {env : List tv_T} {vs : List Value} (he : sy_env ta env vs) : ∀ {r : List Nat} {st : List Value}, sy_st vs r st → (st.map fun v => v.category).sum = (r.map (kd_w env)).sum
  | [], [], _ => rfl
  | n :: r, v :: st, h => by
    rw [List.map_cons, List.map_cons, List.sum_cons, List.sum_cons, sy_w he h.2]
    obtain ⟨t, h1, h2⟩ := sy_name he h.1
    have e : v.category = kd_w env n := by
      unfold kd_w sy_kd
      rw [h1]
      simp only
      split
      · rename_i q; exact (tv_cat h2).1 q
      · rename_i q; exact (tv_cat h2).2 q
    rw [e]
  | [], _ :: _, h => h.elim
  | _ :: _, [], h => h.elim
/-- behind a call: the stack without what it took -/
def sy_back (y : sy_T) (pu : Bool) (r : List Nat) : sy_T := (y.1, y.2.1, r, if pu then y.2.2.2.1 else [], y.2.2.2.2)
theorem sy_env_mono {ta tb : Nat → Option Nat} {env : List tv_T} {vs : List Value} (h : ta_le ta tb) (he : sy_env ta env vs) : sy_env tb env vs := ⟨he.1, fun i t v h1 h2 => tv_mono h (he.2 i t v h1 h2)⟩
theorem sy_back_ok {ta tb : Nat → Option Nat} {ws w1 : va_W} {vs : List Value} {ls : Array Slot} {nL : Nat} {st rest : List Value} {y : sy_T} {r : List Nat} {pu : Bool} (hy : sy_ok ta ws vs ls nL st y) (hr : sy_st vs r rest) (hle : ta_le ta tb) (hpu : pu = true → (tb, w1) = (ta, ws)) : sy_ok tb w1 vs ls nL rest (sy_back y pu r) := by
  refine ⟨sy_env_mono hle hy.1, hy.2.1, hr, fun q hq => ?_, hy.2.2.2.2⟩
  cases pu with
  | true =>
    have e := hpu rfl
    have e2 : w1 = ws := (Prod.mk.inj e).2
    rw [e2]; exact hy.2.2.2.1 q hq
  | false => cases hq
/-- what an end tells of the arguments -/
def mg_cut : sy_T → List Nat → List tv_T → sy_T
  | z, a :: as, t :: ts => mg_cut (if t.1 = 0 then sy_cut z a t.2.1 t.2.2.1 else z) as ts
  | z, _, _ => z
theorem mg_cut_ok {ta : Nat → Option Nat} {ws : va_W} {vs : List Value} {ls : Array Slot} {nL : Nat} {st : List Value} : ∀ {as : List Nat} {ts : List tv_T} {av : List Value} {z : sy_T}, sy_ok ta ws vs ls nL st z → sy_st vs as av → (∀ (i : Nat) (t : tv_T) (v : Value), ts[i]? = some t → av[i]? = some v → tv_ok ta t v) → sy_ok ta ws vs ls nL st (mg_cut z as ts)
  | [], ts, _, z, h, _, _ => by cases ts <;> exact h
  | _ :: _, [], _, z, h, _, _ => h
  | _ :: _, _ :: _, [], _, _, hs, _ => hs.elim
  | a :: as, t :: ts, v :: av, z, h, hs, ht => by
    unfold mg_cut
    refine mg_cut_ok (av := av) ?_ hs.2 (fun i t' v' h1 h2 => ht (i + 1) t' v' h1 h2)
    split
    · rename_i h0
      obtain ⟨x, rfl, x1, x2⟩ := tv_int (ht 0 t v rfl rfl) h0
      exact sy_cut_ok h hs.1 x1 x2
    · exact h
/-- a distance cuts both names -/
def of_pr1 (env : List tv_T) (n m : Nat) (lo hi : Int) : List tv_T := match env[m]? with
  | some u => if u.1 = 0 then en_cut env n (u.2.1 + lo) (u.2.2.1 + hi) else env
  | none => env
def of_prop (env : List tv_T) (q : of_T) : List tv_T := of_pr1 (of_pr1 env q.1 q.2.1 q.2.2.1 q.2.2.2) q.2.1 q.1 (-q.2.2.2) (-q.2.2.1)
theorem of_pr1_ok {ta : Nat → Option Nat} {env : List tv_T} {vs : List Value} (h : sy_env ta env vs) {n m : Nat} {lo hi : Int} {x z : Int32} (hn : vs[n]? = some (.int x)) (hm : vs[m]? = some (.int z)) (h1 : z.toInt + lo ≤ x.toInt) (h2 : x.toInt ≤ z.toInt + hi) : sy_env ta (of_pr1 env n m lo hi) vs := by
  unfold of_pr1
  split
  · rename_i u hu
    split
    · rename_i hk
      obtain ⟨z', e, z1, z2⟩ := tv_int (h.2 m u _ hu hm) hk
      obtain rfl := Value.int.inj e
      exact en_cut_ok h hn (by omega) (by omega)
    · exact h
  · exact h
theorem of_prop_ok {ta : Nat → Option Nat} {env : List tv_T} {vs : List Value} (h : sy_env ta env vs) {q : of_T} (hq : sy_ofs vs q) : sy_env ta (of_prop env q) vs := by
  obtain ⟨x, z, a, b, d1, d2⟩ := hq
  exact of_pr1_ok (of_pr1_ok h a b d1 d2) b a (by omega) (by omega)
theorem of_props_ok {ta : Nat → Option Nat} {vs : List Value} : ∀ (os : List of_T) (env : List tv_T), sy_env ta env vs → (∀ q ∈ os, sy_ofs vs q) → sy_env ta (os.foldl of_prop env) vs
  | [], _, h, _ => h
  | q :: os, env, h, ho => of_props_ok os _ (of_prop_ok h (ho q List.mem_cons_self)) (fun q hq => ho q (List.mem_cons_of_mem _ hq))
def mg_tr (as : List Nat) (b i : Nat) : Nat := as.getD i b
def mg (z : sy_T) (as r : List Nat) (P : sy_T) : Option sy_T := match P.2.2.1 with
  | [i0] => (match P.1[i0]? with
    | some t => (let z1 := mg_cut z as P.1
      let b := z1.1.length
      let z2 := sy_push z1 t r
      let os := (if i0 < as.length ∧ t.1 = 0 then [(b, mg_tr as b i0, 0, 0)] else []) ++ P.2.2.2.2.1.map (fun q => (mg_tr as b q.1, mg_tr as b q.2.1, q.2.2.1, q.2.2.2))
      some (os.foldl of_prop z2.1, z2.2.1, z2.2.2.1, z2.2.2.2.1, os ++ z2.2.2.2.2.1, P.2.2.2.2.2.map (fun q => (mg_tr as b q.1, q.2)) ++ z2.2.2.2.2.2))
    | none => none)
  | _ => none
theorem mg_val {vs : List Value} : ∀ {as : List Nat} {av : List Value}, sy_st vs as av → ∀ (v : Value) (i : Nat) (w : Value), (av ++ [v])[i]? = some w → (vs ++ [v])[mg_tr as vs.length i]? = some w
  | [], [], _, v, i, w, h => by
    cases i with
    | zero =>
      have e : v = w := Option.some.inj h
      show (vs ++ [v])[vs.length]? = _
      rw [List.getElem?_append_right (Nat.le_refl _), Nat.sub_self, e]; rfl
    | succ i => cases h
  | a :: as, u :: av, hs, v, i, w, h => by
    cases i with
    | zero =>
      have e : u = w := Option.some.inj h
      show (vs ++ [v])[a]? = _
      rw [← e]; exact sy_app hs.1
    | succ i => exact mg_val hs.2 v i w h
  | [], _ :: _, h, _, _, _, _ => h.elim
  | _ :: _, [], h, _, _, _, _ => h.elim
theorem mg_ok {ta : Nat → Option Nat} {ws : va_W} {vs ve : List Value} {ls : Array Slot} {nL : Nat} {rest av : List Value} {z z' P : sy_T} {as r : List Nat} {v : Value} (h : sy_ok ta ws vs ls nL rest z) (hr : sy_st vs r rest) (hs : sy_st vs as av) (hve : ve = av ∨ ve = av ++ [v]) (he : sy_env ta P.1 ve) (ho : ∀ q ∈ P.2.2.2.2.1, sy_ofs ve q) (hd : ∀ q ∈ P.2.2.2.2.2, sy_dv ve q) (hst : sy_st ve P.2.2.1 [v]) (hm : mg z as r P = some z') : sy_ok ta ws (vs ++ [v]) ls nL (v :: rest) z' := by
  have up : ∀ (i : Nat) (w : Value), ve[i]? = some w → (av ++ [v])[i]? = some w := fun i w hw => by
    rcases hve with rfl | rfl
    · exact sy_app hw
    · exact hw
  unfold mg at hm
  split at hm
  · rename_i i0 e0
    rw [e0] at hst
    split at hm
    · rename_i t ht
      obtain rfl := Option.some.inj hm
      have tv : tv_ok ta t v := he.2 i0 t v ht hst.1
      have h1 : sy_ok ta ws vs ls nL rest (mg_cut z as P.1) := mg_cut_ok h hs (fun i t' v' a1 a2 => he.2 i t' v' a1 (by
        rcases hve with rfl | rfl
        · exact a2
        · exact sy_app a2))
      have h2 := sy_pushed h1 hr tv
      have hb : (mg_cut z as P.1).1.length = vs.length := h1.1.1.symm
      have ge : ∀ (i : Nat) (w : Value), ve[i]? = some w → (vs ++ [v])[mg_tr as (mg_cut z as P.1).1.length i]? = some w := fun i w hw => by rw [hb]; exact mg_val hs v i w (up i w hw)
      have hnew : (vs ++ [v])[(mg_cut z as P.1).1.length]? = some v := by rw [hb, List.getElem?_append_right (Nat.le_refl _), Nat.sub_self]; rfl
      have hos : ∀ q ∈ (if i0 < as.length ∧ t.1 = 0 then [((mg_cut z as P.1).1.length, mg_tr as (mg_cut z as P.1).1.length i0, (0 : Int), (0 : Int))] else []) ++ P.2.2.2.2.1.map (fun q => (mg_tr as (mg_cut z as P.1).1.length q.1, mg_tr as (mg_cut z as P.1).1.length q.2.1, q.2.2.1, q.2.2.2)), sy_ofs (vs ++ [v]) q := fun q hq => by
        rcases List.mem_append.mp hq with hq | hq
        · split at hq
          · rename_i hk
            obtain rfl := List.mem_singleton.mp hq
            obtain ⟨x, rfl, _, _⟩ := tv_int tv hk.2
            exact ⟨x, x, hnew, ge i0 _ hst.1, by show x.toInt + 0 ≤ _; omega, by show _ ≤ x.toInt + 0; omega⟩
          · cases hq
        · obtain ⟨q0, q1, rfl⟩ := List.mem_map.mp hq
          obtain ⟨a, b, c1, c2, c3, c4⟩ := ho q0 q1
          exact ⟨a, b, ge _ _ c1, ge _ _ c2, c3, c4⟩
      refine ⟨of_props_ok _ _ h2.1 hos, h2.2.1, h2.2.2.1, h2.2.2.2.1, fun q hq => ?_, fun q hq => ?_⟩
      · rcases List.mem_append.mp hq with hq | hq
        · exact hos q hq
        · exact h2.2.2.2.2.1 q hq
      · rcases List.mem_append.mp hq with hq | hq
        · obtain ⟨q0, q1, rfl⟩ := List.mem_map.mp hq
          obtain ⟨a, b, c1, c2⟩ := hd q0 q1
          exact ⟨a, b, ge _ _ c1, c2⟩
        · exact h2.2.2.2.2.2 q hq
    · cases hm
  · cases hm
/-- the pictures behind a call -/
def tr_call (en : en_T) (y : sy_T) : Option (List sy_T) :=
  let n := en.1.length
  let r := y.2.2.1.drop n
  let as := (y.2.2.1.take n).reverse
  if ag_chk y en.1 as && decide ((r.map (kd_w y.1)).sum ≤ 8) then (match en.2.1 with
    | none => some [sy_back y en.2.2.1 r]
    | some t => if en.2.2.2.2.2.2.isEmpty then some [sy_pushT (sy_back y en.2.2.1 r) t r]
      else (if en.2.2.2.2.2.2.all (fun P => (mg (sy_back y en.2.2.1 r) as r P).isSome) then some ((en.2.2.2.2.2.2.filterMap (mg (sy_back y en.2.2.1 r) as r)).filter (fun z => !(as.any (sy_bot z)))) else none)) else none
/-- constants of the pool -/
def kt_rule (own : String) (op : ClassFile.Instr) (len : Nat) (v : Value) : Prop := ∀ (p : Program) (l : Launch) (e : Env) (R : Room) (s : State) (m : MethodId) (args : Array Value) (below : List Frame) (meth : Method) (c : Code) (H : Heap) (locs : List Loc) (cells slots : Nat) (Q : State → Prop) (cc : ByteArray) (pc nL : Nat) (ret : Option FieldType) (nm : String) (ls : Array Slot) (rest : List Value),
  cx p s m args meth c cc nL ret own nm → decode cc pc = .ok (op, len) → W p l e R s m args below meth c H locs cells slots Q (F0 m (pc + len) ls (v :: rest)) → W p l e R s m args below meth c H locs cells slots Q (F0 m pc ls rest)
/-- the ways on from a switch -/
def sw_list (pc : Nat) (y : sy_T) (a : Nat) : Int → List Int → Option (List (Nat × sy_T))
  | _, [] => some []
  | k, off :: r => if 0 ≤ (pc : Int) + off then (sw_list pc y a (k + 1) r).map (fun l => (((pc : Int) + off).toNat, sy_cut y a k k) :: l) else none
def tr_sw (pc : Nat) (i : ClassFile.Instr) (y : sy_T) : Option (List (Nat × sy_T)) := match i with
  | .tableswitch d lo hi offs => match y.2.2.1 with
    | a :: r => if sy_kd y.1 a = 0 ∧ 0 ≤ (pc : Int) + d ∧ hi = lo + (offs.size : Int) - 1 then (sw_list pc (sy_at y r) a lo offs.toList).map (fun l => (((pc : Int) + d).toNat, sy_at y r) :: l) else none
    | [] => none
  | _ => none
theorem sw_list_ok {pc : Nat} {y : sy_T} {a : Nat} : ∀ {offs : List Int} {k : Int} {L : List (Nat × sy_T)}, sw_list pc y a k offs = some L → ∀ (j : Nat) (off : Int), offs[j]? = some off → 0 ≤ (pc : Int) + off ∧ (((pc : Int) + off).toNat, sy_cut y a (k + j) (k + j)) ∈ L
  | [], _, _, _, j, _, hj => by cases hj
  | o :: offs, k, L, h, j, off, hj => by
    unfold sw_list at h
    split at h
    · rename_i h0
      obtain ⟨L', h1, rfl⟩ := Option.map_eq_some_iff.mp h
      cases j with
      | zero =>
        have e : o = off := Option.some.inj hj
        subst e
        refine ⟨h0, ?_⟩
        have e2 : k + ((0 : Nat) : Int) = k := by omega
        rw [e2]; exact List.mem_cons_self
      | succ j =>
        have := sw_list_ok h1 j off hj
        refine ⟨this.1, List.mem_cons_of_mem _ ?_⟩
        have e2 : k + 1 + (j : Int) = k + ((j + 1 : Nat) : Int) := by omega
        rw [e2] at this; exact this.2
    · cases h
section M12
variable {p : Program} {l : Launch} {e : Env} {R : Room} {s : State} {m : MethodId} {args : Array Value} {below : List Frame} {meth : Method} {c : Code} {H : Heap} {locs : List Loc} {cells slots : Nat} {Q : State → Prop} {cc : ByteArray} {pc : Nat} {i : ClassFile.Instr} {len nL : Nat} {v0 : List Value} {ta : Nat → Option Nat} {ws : va_W} {y y' : sy_T} {D : va_G} {kA : Nat → ClassId} {G : List rg_T} {A : Nat → Prop} {ret : Option FieldType} {own nm : String}
theorem tr_sw_ok (hx : p.tables.exec = Jvm.exec) (hb : c.code = cc) (hd : decode cc pc = .ok (i, len)) {L : List (Nat × sy_T)} (h : tr_sw pc i y = some L) (k : ∀ q ∈ L, sy_go p l e R s m args below meth c H locs cells slots Q nL v0 ta ws q.1 q.2) : sy_go p l e R s m args below meth c H locs cells slots Q nL v0 ta ws pc y := by
  intro vs ls st hp0 hy
  unfold tr_sw at h
  have hs := hy.2.2.1
  split at h
  · rename_i d lo hi offs
    split at h
    · rename_i a r hst
      rw [hst] at hs
      split at h
      · rename_i hk
        obtain ⟨L', h1, rfl⟩ := Option.map_eq_some_iff.mp h
        cases st with
        | nil => exact hs.elim
        | cons v rest =>
          obtain ⟨t, _, k1, k2⟩ := sy_kd_ok hy.1 hs.1 hk.1
          obtain ⟨x, rfl, _, _⟩ := tv_int k2 k1
          have hy0 : sy_ok ta ws vs ls nL rest (sy_at y r) := sy_stack hy hs.2
          by_cases hin : x.toInt < lo ∨ hi < x.toInt
          · exact lv_tableOut hx hb hd hin (by have := hk.2.1; omega) (k _ List.mem_cons_self _ _ _ hp0 hy0)
          · have j1 : ¬ x.toInt < lo := fun q => hin (Or.inl q)
            have j2 : ¬ hi < x.toInt := fun q => hin (Or.inr q)
            have j3 : (x.toInt - lo).toNat < offs.toList.length := by
              have := hk.2.2
              rw [Array.length_toList]
              omega
            have ho := List.getElem?_eq_getElem j3
            obtain ⟨m1, m2⟩ := sw_list_ok h1 _ _ ho
            have e2 : lo + ((x.toInt - lo).toNat : Int) = x.toInt := by omega
            rw [e2] at m2
            refine lv_tableIn hx hb hd j1 j2 (by rw [← Array.getElem?_toList]; exact ho) (show (pc : Int) + _ = _ by omega) (k _ (List.mem_cons_of_mem _ m2) _ _ _ hp0 (sy_cut_ok hy0 hs.1 (Int.le_refl _) (Int.le_refl _)))
      · cases h
    · cases h
  · cases h
theorem tr_call_ok {en : en_T} {op : ClassFile.Instr} {L : List sy_T} (hcl : cl_ok l D kA G own op en) (X : cx p s m args meth c cc nL ret own nm) (hK : va_K D classes (TY kA) s) (hN : nst s) (hA : ∀ q, s.heap.size ≤ q → A q) (hP : va_P D classes ws H) (hD : va_D A ws) (hS : va_S A s.heap H locs) (hth : th_ok kA G ta ws) (hfr : en.2.2.2.1 + 1 ≤ R.frames) (hlo : 64 * (en.2.2.2.1 + 1) ≤ R.locals) (hce : cells + en.2.2.2.2.1 ≤ R.cells) (hsl : slots + en.2.2.2.2.2.1 ≤ R.slots) (hd : decode cc pc = .ok (op, 3)) (h : tr_call en y = some L)
    (kk : ∀ z ∈ L, ∀ (tb : Nat → Option Nat) (w1 : va_W) (H1 : Heap) (locs1 : List Loc), ta_le ta tb → th_ok kA G tb w1 → va_P D classes w1 H1 → va_D A w1 → va_S A s.heap H1 locs1 → (en.2.2.1 = true → (tb, w1) = (ta, ws)) → sy_go p l e R s m args below meth c H1 locs1 (cells + en.2.2.2.2.1) (slots + en.2.2.2.2.2.1) Q nL v0 tb w1 (pc + 3) z) : sy_go p l e R s m args below meth c H locs cells slots Q nL v0 ta ws pc y := by
  intro vs ls st hp0 hy
  unfold tr_call at h
  simp only at h
  split at h
  · rename_i hk
    simp only [Bool.and_eq_true, decide_eq_true_eq] at hk
    have hs := hy.2.2.1
    rw [← List.take_append_drop en.1.length y.2.2.1] at hs
    obtain ⟨sa, rest, rfl, s1, s2⟩ := sy_st_split hs
    have s3 := sy_st_rev s1
    have hag := ag_chk_ok hy hk.1 s3
    have hst : sa ++ rest = sa.reverse.reverse ++ rest := by rw [List.reverse_reverse]
    rw [hst]
    refine hcl p e R s m args below meth c H locs cells slots Q cc pc nL ret nm A ws ta ls sa.reverse rest X hK hN hA hP hD hS hth hag (by rw [sy_w hy.1 s2]; exact hk.2) hfr hlo hce hsl hy.2.1.1 hd (fun tb w1 H1 locs1 r b1 b2 b3 b4 b5 b6 b8 b7 => ?_)
    have hz := sy_back_ok hy s2 b1 b7
    cases hrt : en.2.1 with
    | none =>
      rw [hrt] at h b6
      obtain rfl := Option.some.inj h
      cases r with
      | some v => exact b6.elim
      | none => exact kk _ List.mem_cons_self tb w1 H1 locs1 b1 b2 b3 b4 b5 b7 vs ls _ hp0 hz
    | some t =>
      rw [hrt] at h b6
      simp only at h
      cases r with
      | none => exact b6.elim
      | some v =>
        split at h
        · obtain rfl := Option.some.inj h
          exact kk _ List.mem_cons_self tb w1 H1 locs1 b1 b2 b3 b4 b5 b7 (vs ++ [v]) ls _ (pre_app hp0) (sy_pushedT hz s2 b6)
        · rename_i hne
          split at h
          · rename_i hall
            obtain rfl := Option.some.inj h
            rcases b8 with b8 | ⟨P, hP1, ve, c1, c2, c3, c4, c5⟩
            · exact absurd (by rw [b8]; rfl) hne
            · have hsome := List.all_eq_true.mp hall P hP1
              obtain ⟨z', hz'⟩ := Option.isSome_iff_exists.mp hsome
              have hok := mg_ok hz s2 s3 c1 c2 c3 c4 c5 hz'
              refine kk z' (List.mem_filter.mpr ⟨List.mem_filterMap.mpr ⟨P, hP1, hz'⟩, ?_⟩) tb w1 H1 locs1 b1 b2 b3 b4 b5 b7 (vs ++ [v]) ls _ (pre_app hp0) hok
              rw [Bool.not_eq_true']
              refine Bool.eq_false_iff.mpr (fun hb => ?_)
              obtain ⟨a, _, ha⟩ := List.any_eq_true.mp hb
              exact sy_bot_ok hok ha
          · cases h
  · cases h
end M12
