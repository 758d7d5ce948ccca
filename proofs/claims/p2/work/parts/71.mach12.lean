/-! calls, answers, switches, constants of the pool -/
def ag_chk (y : sy_T) : List tv_T → List Nat → Bool
  | [], [] => true
  | t :: ts, n :: ns => nm_le y n t && ag_chk y ts ns
  | _, _ => false
theorem ag_chk_ok {ta : Nat → Option Nat} {ws : va_W} {vs : List Value} {ls : Array Slot} {nL : Nat} {st : List Value} {y : sy_T} (hy : sy_ok ta ws vs ls nL st y) : ∀ {ts : List tv_T} {ns : List Nat} {av : List Value}, ag_chk y ts ns = true → sy_st vs ns av → ag_ok ta ts av
  | [], [], [], _, _ => trivial
  | t :: ts, n :: ns, v :: av, h, hs => by
    unfold ag_chk at h
    simp only [Bool.and_eq_true] at h
    exact ⟨nm_le_ok hy hs.1 h.1, ag_chk_ok hy h.2 hs.2⟩
  | [], [], _ :: _, _, hs => hs.elim
  | _ :: _, _ :: _, [], _, hs => hs.elim
  | [], _ :: _, _, h, _ => by cases h
  | _ :: _, [], _, h, _ => by cases h
theorem sy_st_split {vs : List Value} : ∀ {a r : List Nat} {st : List Value}, sy_st vs (a ++ r) st → ∃ sa rest, st = sa ++ rest ∧ sy_st vs a sa ∧ sy_st vs r rest
  | [], r, st, h => ⟨[], st, rfl, trivial, h⟩
  | n :: a, r, [], h => h.elim
  | n :: a, r, v :: st, h => by
    obtain ⟨sa, rest, e, h1, h2⟩ := sy_st_split h.2
    exact ⟨v :: sa, rest, by rw [e]; rfl, ⟨h.1, h1⟩, h2⟩
theorem sy_st_join {vs : List Value} : ∀ {a r : List Nat} {sa rest : List Value}, sy_st vs a sa → sy_st vs r rest → sy_st vs (a ++ r) (sa ++ rest)
  | [], _, [], _, _, h => h
  | _ :: _, _, _ :: _, _, h1, h => ⟨h1.1, sy_st_join h1.2 h⟩
  | [], _, _ :: _, _, h, _ => h.elim
  | _ :: _, _, [], _, h, _ => h.elim
theorem sy_st_rev {vs : List Value} : ∀ {a : List Nat} {sa : List Value}, sy_st vs a sa → sy_st vs a.reverse sa.reverse
  | [], [], _ => trivial
  | n :: a, v :: sa, h => by
    rw [List.reverse_cons, List.reverse_cons]
    exact sy_st_join (sy_st_rev h.2) ⟨h.1, trivial⟩
  | [], _ :: _, h => h.elim
  | _ :: _, [], h => h.elim
def kd_w (env : List tv_T) (n : Nat) : Nat := if sy_kd env n = 1 then 2 else 1
theorem sy_w {ta : Nat → Option Nat} {env : List tv_T} {vs : List Value} (he : sy_env ta env vs) : ∀ {r : List Nat} {st : List Value}, sy_st vs r st → (st.map fun v => v.category).sum = (r.map (kd_w env)).sum
  | [], [], _ => rfl
  | n :: r, v :: st, h => by
    rw [List.map_cons, List.map_cons, List.sum_cons, List.sum_cons, sy_w he h.2]
    obtain ⟨t, h1, h2⟩ := sy_name he h.1
    have e : v.category = kd_w env n := by
      unfold kd_w sy_kd
      rw [h1]
      simp only
      split
      · rename_i q; exact (tv_cat h2).1 q
      · rename_i q; exact (tv_cat h2).2 q
    rw [e]
  | [], _ :: _, h => h.elim
  | _ :: _, [], h => h.elim
/-- a field's value that a call keeps -/
def kp_in (G : List rg_T) (mo : mo_T) (y : sy_T) (q : (Nat × Nat) × Nat) : Bool := match y.1[q.1.1]? with
  | some t => decide (t.1 = 2) && rg_all G (fun g => decide (10 ≤ g.1) && !(mo.2.1.contains (g.1 - 10, q.1.2))) t.2.2.2
  | none => false
/-- behind a call: the stack without what it took -/
def sy_back (G : List rg_T) (mo : mo_T) (y : sy_T) (pu : Bool) (r : List Nat) : sy_T := (y.1, y.2.1, r, if pu then y.2.2.2.1 else y.2.2.2.1.filter (kp_in G mo y), y.2.2.2.2)
theorem sy_env_mono {ta tb : Nat → Option Nat} {env : List tv_T} {vs : List Value} (h : ta_le ta tb) (he : sy_env ta env vs) : sy_env tb env vs := ⟨he.1, fun i t v h1 h2 => tv_mono h (he.2 i t v h1 h2)⟩
theorem sy_back_ok {kA : Nat → ClassId} {G : List rg_T} {A : Nat → Prop} {mo : mo_T} {ta tb : Nat → Option Nat} {ws w1 : va_W} {vs : List Value} {ls : Array Slot} {nL : Nat} {st rest : List Value} {y : sy_T} {r : List Nat} {pu : Bool} (hth : th_ok kA G ta ws) (hD : va_D A ws) (hy : sy_ok ta ws vs ls nL st y) (hr : sy_st vs r rest) (hle : ta_le ta tb) (hpu : pu = true → (tb, w1) = (ta, ws)) (hkp : kp mo ta ws w1) : sy_ok tb w1 vs ls nL rest (sy_back G mo y pu r) := by
  refine ⟨sy_env_mono hle hy.1, hy.2.1, hr, fun q hq => ?_, hy.2.2.2.2⟩
  cases pu with
  | true =>
    have e := hpu rfl
    have e2 : w1 = ws := (Prod.mk.inj e).2
    rw [e2]; exact hy.2.2.2.1 q hq
  | false =>
    have hq' : q ∈ y.2.2.2.1.filter (kp_in G mo y) := hq
    obtain ⟨q1, q2⟩ := List.mem_filter.mp hq'
    obtain ⟨a, ci, fs, v, m1, m2, m3, m4⟩ := hy.2.2.2.1 q q1
    unfold kp_in at q2
    split at q2
    · rename_i t ht
      rw [Bool.and_eq_true] at q2
      have h2 : t.1 = 2 := by simpa using q2.1
      obtain ⟨b, rg, eb, h3, h4⟩ := tv_ref (hy.1.2 _ t _ ht m1) h2
      have eab : a = b := by injection eb
      subst eab
      obtain ⟨g, g1, g2⟩ := rg_all_ok q2.2 h4
      simp only [Bool.and_eq_true, decide_eq_true_eq, Bool.not_eq_true'] at g2
      obtain ⟨q0, e0, hq0, hgo⟩ := th_at hth h3 g1
      rcases hgo with ⟨z, _⟩ | ⟨z, _⟩ | ⟨_, z, _⟩ | ⟨_, f2, rfl, _⟩
      · omega
      · omega
      · omega
      · obtain ⟨j, hj⟩ := List.mem_iff_getElem?.mp m2
        have ej := hD.1 q0 j _ _ hq0 hj rfl
        rw [← ej, hq0] at hj
        have e9 := Option.some.inj hj
        have e8 : g.1 - 10 = ci := by injection e9 with _ e7; injection e7 with e6; injection e6
        obtain ⟨f3, k1, k2⟩ := hkp.1 a ci fs m2
        refine ⟨a, ci, f3, v, m1, k1, ?_, m4⟩
        rw [k2 q.1.2 (fun hm => by
          rw [e8] at g2
          have := List.contains_iff_mem.mpr hm
          rw [this] at g2
          exact absurd g2.2 (by decide))]
        exact m3
    · cases q2
/-- what an end tells of the arguments -/
def mg_cut : sy_T → List Nat → List tv_T → sy_T
  | z, a :: as, t :: ts => mg_cut (if t.1 = 0 then sy_cut z a t.2.1 t.2.2.1 else z) as ts
  | z, _, _ => z
theorem mg_cut_ok {ta : Nat → Option Nat} {ws : va_W} {vs : List Value} {ls : Array Slot} {nL : Nat} {st : List Value} : ∀ {as : List Nat} {ts : List tv_T} {av : List Value} {z : sy_T}, sy_ok ta ws vs ls nL st z → sy_st vs as av → (∀ (i : Nat) (t : tv_T) (v : Value), ts[i]? = some t → av[i]? = some v → tv_ok ta t v) → sy_ok ta ws vs ls nL st (mg_cut z as ts)
  | [], ts, _, z, h, _, _ => by cases ts <;> exact h
  | _ :: _, [], _, z, h, _, _ => h
  | _ :: _, _ :: _, [], _, _, hs, _ => hs.elim
  | a :: as, t :: ts, v :: av, z, h, hs, ht => by
    unfold mg_cut
    refine mg_cut_ok (av := av) ?_ hs.2 (fun i t' v' h1 h2 => ht (i + 1) t' v' h1 h2)
    split
    · rename_i h0
      obtain ⟨x, rfl, x1, x2⟩ := tv_int (ht 0 t v rfl rfl) h0
      exact sy_cut_ok h hs.1 x1 x2
    · exact h
/-- a distance cuts both names -/
def of_pr1 (env : List tv_T) (n m : Nat) (lo hi : Int) : List tv_T := match env[m]? with
  | some u => if u.1 = 0 then en_cut env n (u.2.1 + lo) (u.2.2.1 + hi) else env
  | none => env
def of_prop (env : List tv_T) (q : of_T) : List tv_T := of_pr1 (of_pr1 env q.1 q.2.1 q.2.2.1 q.2.2.2) q.2.1 q.1 (-q.2.2.2) (-q.2.2.1)
theorem of_pr1_ok {ta : Nat → Option Nat} {env : List tv_T} {vs : List Value} (h : sy_env ta env vs) {n m : Nat} {lo hi : Int} {x z : Int32} (hn : vs[n]? = some (.int x)) (hm : vs[m]? = some (.int z)) (h1 : z.toInt + lo ≤ x.toInt) (h2 : x.toInt ≤ z.toInt + hi) : sy_env ta (of_pr1 env n m lo hi) vs := by
  unfold of_pr1
  split
  · rename_i u hu
    split
    · rename_i hk
      obtain ⟨z', e, z1, z2⟩ := tv_int (h.2 m u _ hu hm) hk
      obtain rfl := Value.int.inj e
      exact en_cut_ok h hn (by omega) (by omega)
    · exact h
  · exact h
theorem of_prop_ok {ta : Nat → Option Nat} {env : List tv_T} {vs : List Value} (h : sy_env ta env vs) {q : of_T} (hq : sy_ofs vs q) : sy_env ta (of_prop env q) vs := by
  obtain ⟨x, z, a, b, d1, d2⟩ := hq
  exact of_pr1_ok (of_pr1_ok h a b d1 d2) b a (by omega) (by omega)
theorem of_props_ok {ta : Nat → Option Nat} {vs : List Value} : ∀ (os : List of_T) (env : List tv_T), sy_env ta env vs → (∀ q ∈ os, sy_ofs vs q) → sy_env ta (os.foldl of_prop env) vs
  | [], _, h, _ => h
  | q :: os, env, h, ho => of_props_ok os _ (of_prop_ok h (ho q List.mem_cons_self)) (fun q hq => ho q (List.mem_cons_of_mem _ hq))
def nrm (t : tv_T) : tv_T := if t.1 = 5 then (0, t.2.1, t.2.2.1, []) else t
theorem nrm_ok {ta : Nat → Option Nat} {t : tv_T} {v : Value} (h : tv_ok ta t v) : tv_ok ta (nrm t) v := by
  unfold nrm
  split
  · rename_i h5
    obtain ⟨x, rfl, a, b, _⟩ := tv_div h h5
    exact Or.inl ⟨rfl, x, rfl, a, b⟩
  · exact h
/-! fields that a note names are read ahead of it -/
def fd_any (k : Nat) (g : rg_T) : Option tv_T := if 10 ≤ g.1 then g.2.2.2.2[k]? else none
def gh_one (G : List rg_T) (y : sy_T) (o k : Nat) : sy_T := match sy_mfind y o k with
  | some _ => y
  | none => (match y.1[o]? with
    | some t => if t.1 = 2 then (match rg_hull G (fd_any k) t.2.2.2 with
      | some w => (y.1 ++ [nrm w], y.2.1, y.2.2.1, ((o, k), y.1.length) :: y.2.2.2.1, y.2.2.2.2.1, if w.1 = 5 then (y.1.length, w.2.2.2.headD 1) :: y.2.2.2.2.2 else y.2.2.2.2.2)
      | none => y) else y
    | none => y)
theorem gh_one_ok {kA : Nat → ClassId} {G : List rg_T} {ta : Nat → Option Nat} {ws : va_W} {vs : List Value} {ls : Array Slot} {nL : Nat} {st : List Value} {y : sy_T} (hth : th_ok kA G ta ws) (hy : sy_ok ta ws vs ls nL st y) (o k : Nat) : ∃ vs', vs <+: vs' ∧ sy_ok ta ws vs' ls nL st (gh_one G y o k) := by
  unfold gh_one
  split
  · exact ⟨vs, List.prefix_refl _, hy⟩
  · split
    · rename_i t ht
      split
      · rename_i h2
        split
        · rename_i w hw
          have hlt := (List.getElem?_eq_some_iff.mp ht).1
          rw [← hy.1.1] at hlt
          have ho := List.getElem?_eq_getElem hlt
          obtain ⟨a, r, ea, h3, h4⟩ := tv_ref (hy.1.2 o t _ ht ho) h2
          obtain ⟨g, t2, g1, g2, g3⟩ := rg_hull_ok (ta := ta) hw h4
          obtain ⟨q0, e0, hq, hgo⟩ := th_at hth h3 g1
          unfold fd_any at g2
          split at g2
          · rename_i h10
            rcases hgo with ⟨z, _⟩ | ⟨z, _⟩ | ⟨_, z, _⟩ | ⟨_, fs, rfl, hlen, hfs⟩
            · omega
            · omega
            · omega
            · have hk := (List.getElem?_eq_some_iff.mp g2).1
              rw [← hlen] at hk
              have hv := List.getElem?_eq_getElem hk
              have hw2 : tv_ok ta w fs[k] := g3 _ (hfs k t2 _ g2 hv)
              have hnew : (vs ++ [fs[k]])[y.1.length]? = some fs[k] := by rw [← hy.1.1, List.getElem?_append_right (Nat.le_refl _), Nat.sub_self]; rfl
              refine ⟨vs ++ [fs[k]], List.prefix_append _ _, sy_env_app hy.1 (nrm_ok hw2), ⟨hy.2.1.1, hy.2.1.2.1, fun q hq2 => ?_⟩, sy_st_app hy.2.2.1, fun q hq2 => ?_, fun q hq2 => ?_, fun q hq2 => ?_⟩
              · obtain ⟨v, a1, a2⟩ := hy.2.1.2.2 q hq2; exact ⟨v, sy_app a1, a2⟩
              · rcases List.mem_cons.mp hq2 with rfl | hq2
                · exact ⟨a, g.1 - 10, fs, fs[k], by show (vs ++ _)[o]? = _; rw [← ea]; exact sy_app ho, List.mem_of_getElem? hq, hv, hnew⟩
                · obtain ⟨b1, ci, f2, v, a1, a2, a3, a4⟩ := hy.2.2.2.1 q hq2; exact ⟨b1, ci, f2, v, sy_app a1, a2, a3, sy_app a4⟩
              · obtain ⟨x, z, a1, a2, a3⟩ := hy.2.2.2.2.1 q hq2; exact ⟨x, z, sy_app a1, sy_app a2, a3⟩
              · have old : ∀ q ∈ y.2.2.2.2.2, sy_dv (vs ++ [fs[k]]) q := fun q hq2 => by obtain ⟨x, z, a1, a2⟩ := hy.2.2.2.2.2 q hq2; exact ⟨x, z, sy_app a1, a2⟩
                have hq3 : q ∈ (if w.1 = 5 then (y.1.length, w.2.2.2.headD 1) :: y.2.2.2.2.2 else y.2.2.2.2.2) := hq2
                split at hq3
                · rename_i h5
                  rcases List.mem_cons.mp hq3 with rfl | hq3
                  · obtain ⟨x, ex, _, _, q, hq⟩ := tv_div hw2 h5
                    exact ⟨x, q, by rw [← ex]; exact hnew, hq⟩
                  · exact old q hq3
                · exact old q hq3
          · cases g2
        · exact ⟨vs, List.prefix_refl _, hy⟩
      · exact ⟨vs, List.prefix_refl _, hy⟩
    · exact ⟨vs, List.prefix_refl _, hy⟩
/-- fields of the arguments, read ahead of a call -/
def gl_all (G : List rg_T) (as : List Nat) : sy_T → ga_L → Option (sy_T × List Nat)
  | y, [] => some (y, [])
  | y, q :: r => match as[q.1.1]? with
    | some o => (match sy_mfind (gh_one G y o q.1.2) o q.1.2 with
      | some n => if nm_le (gh_one G y o q.1.2) n q.2 then (gl_all G as (gh_one G y o q.1.2) r).map (fun p => (p.1, n :: p.2)) else none
      | none => none)
    | none => none
theorem sy_st_pre {v0 vs : List Value} (hp : v0 <+: vs) : ∀ {r : List Nat} {st : List Value}, sy_st v0 r st → sy_st vs r st
  | [], [], _ => trivial
  | _ :: _, _ :: _, h => ⟨by
      obtain ⟨t, rfl⟩ := hp
      rw [List.getElem?_append_left (List.getElem?_eq_some_iff.mp h.1).1]; exact h.1, sy_st_pre hp h.2⟩
  | [], _ :: _, h => h.elim
  | _ :: _, [], h => h.elim
theorem sy_st_get {vs : List Value} : ∀ {as : List Nat} {av : List Value}, sy_st vs as av → ∀ (i n : Nat), as[i]? = some n → ∃ v, av[i]? = some v ∧ vs[n]? = some v
  | [], [], _, i, n, h => by cases h
  | a :: as, v :: av, hs, i, n, h => by
    cases i with
    | zero => exact ⟨v, rfl, by rw [← Option.some.inj h]; exact hs.1⟩
    | succ i => exact sy_st_get hs.2 i n h
  | [], _ :: _, h, _, _, _ => h.elim
  | _ :: _, [], h, _, _, _ => h.elim
theorem gl_all_ok {kA : Nat → ClassId} {G : List rg_T} {ta : Nat → Option Nat} {ws : va_W} {ls : Array Slot} {nL : Nat} {st : List Value} {as : List Nat} {av : List Value} (hth : th_ok kA G ta ws) : ∀ {L : ga_L} {vs : List Value} {y : sy_T} {p : sy_T × List Nat}, sy_ok ta ws vs ls nL st y → sy_st vs as av → gl_all G as y L = some p → ∃ vs' gv, vs <+: vs' ∧ sy_ok ta ws vs' ls nL st p.1 ∧ sy_st vs' p.2 gv ∧ gv_ok ta ws av L gv ∧ p.1.2.2.1 = y.2.2.1
  | [], vs, y, p, h, _, hp => by
    obtain rfl := Option.some.inj hp
    exact ⟨vs, [], List.prefix_refl _, h, trivial, trivial, rfl⟩
  | q :: r, vs, y, p, h, hs, hp => by
    unfold gl_all at hp
    split at hp
    · rename_i o ho
      split at hp
      · rename_i n hn
        split at hp
        · rename_i hle
          obtain ⟨p2, hp2, rfl⟩ := Option.map_eq_some_iff.mp hp
          obtain ⟨v1, pr1, h1⟩ := gh_one_ok hth h o q.1.2
          have hs1 := sy_st_pre pr1 hs
          obtain ⟨v2, gv, pr2, h2, s2, g2, e2⟩ := gl_all_ok hth h1 hs1 hp2
          obtain ⟨a, ci, fs, v, m1, m2, m3, m4⟩ := h1.2.2.2.1 _ (sy_mfind_ok hn)
          obtain ⟨w, w1, w2⟩ := sy_st_get hs1 _ _ ho
          have m1' : v1[o]? = some (.ref a) := m1
          rw [w2] at m1'
          have m4' : v1[n]? = some v := m4
          have tvn := nm_le_ok h1 m4' hle
          have e3 : (gh_one G y o q.1.2).2.2.1 = y.2.2.1 := by
            unfold gh_one
            split
            · rfl
            · split
              · split
                · split <;> rfl
                · rfl
              · rfl
          refine ⟨v2, v :: gv, pr1.trans pr2, h2, ⟨?_, s2⟩, ⟨⟨a, ci, fs, ?_, m2, m3⟩, tvn, g2⟩, e2.trans e3⟩
          · obtain ⟨t, rfl⟩ := pr2
            rw [List.getElem?_append_left (List.getElem?_eq_some_iff.mp m4').1]; exact m4'
          · rw [w1, Option.some.inj m1']
        · cases hp
      · cases hp
    · cases hp
/-- names of an end in the caller's picture: the first k are bs, the others new -/
def mg_tr (bs : List Nat) (b i : Nat) : Nat := if i < bs.length then bs.getD i 0 else b + (i - bs.length)
def mg (z : sy_T) (bs r : List Nat) (P : sy_T) : sy_T :=
  let z1 := mg_cut z bs P.1
  let b := z1.1.length
  let os := P.2.2.2.2.1.map (fun q => (mg_tr bs b q.1, mg_tr bs b q.2.1, q.2.2.1, q.2.2.2))
  (os.foldl of_prop (z1.1 ++ P.1.drop bs.length), z1.2.1, P.2.2.1.map (mg_tr bs b) ++ r, P.2.2.2.1.map (fun q => ((mg_tr bs b q.1.1, q.1.2), mg_tr bs b q.2)) ++ z1.2.2.2.1, os ++ z1.2.2.2.2.1, P.2.2.2.2.2.map (fun q => (mg_tr bs b q.1, q.2)) ++ z1.2.2.2.2.2)
theorem mg_val {vs ve : List Value} {bs : List Nat} {bv : List Value} (hs : sy_st vs bs bv) (hp : bv <+: ve) {i : Nat} {w : Value} (h : ve[i]? = some w) : (vs ++ ve.drop bs.length)[mg_tr bs vs.length i]? = some w := by
  have hl : bs.length = bv.length := by
    have gen : ∀ {r : List Nat} {st : List Value}, sy_st vs r st → r.length = st.length := by
      intro r
      induction r with
      | nil => intro st h; cases st with | nil => rfl | cons _ _ => exact h.elim
      | cons a r ih => intro st h; cases st with | nil => exact h.elim | cons _ st => rw [List.length_cons, List.length_cons, ih h.2]
    exact gen hs
  unfold mg_tr
  split
  · rename_i hi
    have hb : bs[i]? = some bs[i] := List.getElem?_eq_getElem hi
    obtain ⟨v, v1, v2⟩ := sy_st_get hs i _ hb
    have e1 : bs.getD i 0 = bs[i] := by rw [List.getD_eq_getElem?_getD, hb]; rfl
    rw [e1, List.getElem?_append_left (List.getElem?_eq_some_iff.mp v2).1, v2]
    obtain ⟨t, rfl⟩ := hp
    rw [List.getElem?_append_left (by omega), v1] at h
    exact h
  · rename_i hi
    rw [List.getElem?_append_right (by omega), List.getElem?_drop, show bs.length + (vs.length + (i - bs.length) - vs.length) = i by omega]
    exact h
theorem sy_st_map {vs vs' : List Value} (f : Nat → Nat) : ∀ {r : List Nat} {st : List Value}, (∀ i v, vs[i]? = some v → vs'[f i]? = some v) → sy_st vs r st → sy_st vs' (r.map f) st
  | [], [], _, _ => trivial
  | _ :: _, _ :: _, hf, h => ⟨hf _ _ h.1, sy_st_map f hf h.2⟩
  | [], _ :: _, _, h => h.elim
  | _ :: _, [], _, h => h.elim
theorem sy_env_drop {ta : Nat → Option Nat} {e1 e2 : List tv_T} {v1 v2 : List Value} (h1 : sy_env ta e1 v1) (h2 : v2.length = e2.length ∧ ∀ (i : Nat) (t : tv_T) (v : Value), e2[i]? = some t → v2[i]? = some v → tv_ok ta t v) : sy_env ta (e1 ++ e2) (v1 ++ v2) := by
  refine ⟨by rw [List.length_append, List.length_append, h1.1, h2.1], fun i t v a b => ?_⟩
  by_cases hi : i < e1.length
  · rw [List.getElem?_append_left hi] at a
    rw [List.getElem?_append_left (by rw [h1.1]; exact hi)] at b
    exact h1.2 i t v a b
  · rw [List.getElem?_append_right (by omega)] at a
    rw [List.getElem?_append_right (by rw [h1.1]; omega), h1.1] at b
    exact h2.2 _ t v a b
theorem mg_ok {ta : Nat → Option Nat} {ws : va_W} {vs ve : List Value} {ls : Array Slot} {nL : Nat} {rest bv sv : List Value} {z P : sy_T} {bs r : List Nat} (h : sy_ok ta ws vs ls nL rest z) (hr : sy_st vs r rest) (hs : sy_st vs bs bv) (hve : bv <+: ve) (he : sy_env ta P.1 ve) (ho : ∀ q ∈ P.2.2.2.2.1, sy_ofs ve q) (hd : ∀ q ∈ P.2.2.2.2.2, sy_dv ve q) (hm : ∀ q ∈ P.2.2.2.1, sy_mem ve ws q) (hst : sy_st ve P.2.2.1 sv) : sy_ok ta ws (vs ++ ve.drop bs.length) ls nL (sv ++ rest) (mg z bs r P) := by
  have h1 : sy_ok ta ws vs ls nL rest (mg_cut z bs P.1) := mg_cut_ok h hs (fun i t' v' a1 a2 => he.2 i t' v' a1 (by
    obtain ⟨t, rfl⟩ := hve
    rw [List.getElem?_append_left (List.getElem?_eq_some_iff.mp a2).1]; exact a2))
  have hb : (mg_cut z bs P.1).1.length = vs.length := h1.1.1.symm
  have ge : ∀ (i : Nat) (w : Value), ve[i]? = some w → (vs ++ ve.drop bs.length)[mg_tr bs (mg_cut z bs P.1).1.length i]? = some w := fun i w hw => by rw [hb]; exact mg_val hs hve hw
  have up : ∀ (i : Nat) (w : Value), vs[i]? = some w → (vs ++ ve.drop bs.length)[i]? = some w := fun i w hw => by rw [List.getElem?_append_left (List.getElem?_eq_some_iff.mp hw).1]; exact hw
  have hos : ∀ q ∈ P.2.2.2.2.1.map (fun q => (mg_tr bs (mg_cut z bs P.1).1.length q.1, mg_tr bs (mg_cut z bs P.1).1.length q.2.1, q.2.2.1, q.2.2.2)), sy_ofs (vs ++ ve.drop bs.length) q := fun q hq => by
    obtain ⟨q0, q1, rfl⟩ := List.mem_map.mp hq
    obtain ⟨a, b, c1, c2, c3, c4⟩ := ho q0 q1
    exact ⟨a, b, ge _ _ c1, ge _ _ c2, c3, c4⟩
  have henv : sy_env ta ((mg_cut z bs P.1).1 ++ P.1.drop bs.length) (vs ++ ve.drop bs.length) := sy_env_drop h1.1 ⟨by rw [List.length_drop, List.length_drop, he.1], fun i t v a b => by
    rw [List.getElem?_drop] at a b
    exact he.2 _ t v a b⟩
  refine ⟨of_props_ok _ _ henv hos, ⟨h1.2.1.1, h1.2.1.2.1, fun q hq => ?_⟩, ?_, fun q hq => ?_, fun q hq => ?_, fun q hq => ?_⟩
  · obtain ⟨v, a1, a2⟩ := h1.2.1.2.2 q hq; exact ⟨v, up _ _ a1, a2⟩
  · exact sy_st_join (sy_st_map _ ge hst) (by
      have := sy_st_map (vs' := vs ++ ve.drop bs.length) (fun i => i) up hr
      rw [List.map_id'] at this
      exact this)
  · rcases List.mem_append.mp hq with hq | hq
    · obtain ⟨q0, q1, rfl⟩ := List.mem_map.mp hq
      obtain ⟨a, ci, fs, v, m1, m2, m3, m4⟩ := hm q0 q1
      exact ⟨a, ci, fs, v, ge _ _ m1, m2, m3, ge _ _ m4⟩
    · obtain ⟨a, ci, fs, v, m1, m2, m3, m4⟩ := h1.2.2.2.1 q hq
      exact ⟨a, ci, fs, v, up _ _ m1, m2, m3, up _ _ m4⟩
  · rcases List.mem_append.mp hq with hq | hq
    · exact hos q hq
    · obtain ⟨a, b, c1, c2, c3, c4⟩ := h1.2.2.2.2.1 q hq; exact ⟨a, b, up _ _ c1, up _ _ c2, c3, c4⟩
  · rcases List.mem_append.mp hq with hq | hq
    · obtain ⟨q0, q1, rfl⟩ := List.mem_map.mp hq
      obtain ⟨a, b, c1, c2⟩ := hd q0 q1
      exact ⟨a, b, ge _ _ c1, c2⟩
    · obtain ⟨a, b, c1, c2⟩ := h1.2.2.2.2.2 q hq; exact ⟨a, b, up _ _ c1, c2⟩
/-- what a call does to the world, as a fact -/
def fc_call (N : Nat) (mo : mo_T) : fc_T := (102, if N = 0 then [] else [N - 1], ((mo.1 : Nat) : Int) :: mo.2.1.map (fun q => ((1000 * q.1 + q.2 : Nat) : Int)))
/-- the names of the arguments and of the answer -/
def cl_nm (bs : List Nat) (z : sy_T) (i : Nat) : Nat := if i < bs.length then bs.getD i 0 else z.2.2.1.headD 0
def fc_back (N : Nat) (en : en_T) (bs : List Nat) (fs : List fc_T) (z : sy_T) : List fc_T := if fs.isEmpty then [] else (en.2.2.2.2.2.2.2.2.2.2.2.1.filter (fun f => decide (f.1 < 100))).map (fc_map (cl_nm bs z)) ++ (if en.2.2.1 then fs else fc_call N en.2.2.2.2.2.2.2.2 :: fs)
/-- the pictures behind a call -/
def tr_call (G : List rg_T) (en : en_T) (y : sy_T) (fs : List fc_T) : Option (List (sy_T × List fc_T)) :=
  let n := en.1.length
  let r := y.2.2.1.drop n
  let as := (y.2.2.1.take n).reverse
  let gn := (List.range en.2.2.2.2.2.2.2.2.2.2.2.2.length).map (fun j => y.1.length - en.2.2.2.2.2.2.2.2.2.2.2.2.length + j)
  if ag_chk y en.1 as && ag_chk y en.2.2.2.2.2.2.2.2.2.2.2.2 gn && decide ((r.map (kd_w y.1)).sum ≤ 16) then (match gl_all G as y en.2.2.2.2.2.2.2.1 with
    | some p => if en.2.2.2.2.2.2.2.2.2.2.1.all (fun f => f.2.1.all (fun i => decide (i < (as ++ p.2 ++ gn).length)) && (fc_now fs).contains (fc_map (fun i => (as ++ p.2 ++ gn).getD i 0) f)) then (if en.2.2.2.2.2.2.1.isEmpty then (match en.2.1 with
        | none => some [(sy_back G en.2.2.2.2.2.2.2.2 p.1 en.2.2.1 r, fc_back y.1.length en (as ++ p.2 ++ gn) fs (sy_back G en.2.2.2.2.2.2.2.2 p.1 en.2.2.1 r))]
        | some t => some [(sy_pushT (sy_back G en.2.2.2.2.2.2.2.2 p.1 en.2.2.1 r) t r, fc_back y.1.length en (as ++ p.2 ++ gn) fs (sy_pushT (sy_back G en.2.2.2.2.2.2.2.2 p.1 en.2.2.1 r) t r))])
      else some (((en.2.2.2.2.2.2.1.map (mg (sy_back G en.2.2.2.2.2.2.2.2 p.1 en.2.2.1 r) (as ++ p.2 ++ gn) r)).filter (fun z => !(as.any (sy_bot z)))).map (fun z => (z, fc_back y.1.length en (as ++ p.2 ++ gn) fs z)))) else none
    | none => none) else none
/-- constants of the pool -/
def kt_rule (own : String) (op : ClassFile.Instr) (len : Nat) (v : Value) : Prop := ∀ (p : Program) (l : Launch) (e : Env) (R : Room) (s : State) (m : MethodId) (args : Array Value) (below : List Frame) (meth : Method) (c : Code) (H : Heap) (locs : List Loc) (cells slots : Nat) (Q : State → Prop) (cc : ByteArray) (pc nL : Nat) (ret : Option FieldType) (nm : String) (ls : Array Slot) (rest : List Value),
  cx p s m args meth c cc nL ret own nm → decode cc pc = .ok (op, len) → W p l e R s m args below meth c H locs cells slots Q (F0 m (pc + len) ls (v :: rest)) → W p l e R s m args below meth c H locs cells slots Q (F0 m pc ls rest)
/-- the ways on from a switch -/
def sw_list (pc : Nat) (y : sy_T) (a : Nat) : Int → List Int → Option (List (Nat × sy_T))
  | _, [] => some []
  | k, off :: r => if 0 ≤ (pc : Int) + off then (sw_list pc y a (k + 1) r).map (fun l => (((pc : Int) + off).toNat, sy_cut y a k k) :: l) else none
/-- the way past all cases: a name that is not below the first is above the last -/
def sw_def (y : sy_T) (a : Nat) (lo hi : Int) : sy_T := match y.1[a]? with
  | some t => if t.1 = 0 ∧ lo ≤ t.2.1 then sy_cut y a (hi + 1) 2147483647 else y
  | none => y
theorem sw_def_ok {ta : Nat → Option Nat} {ws : va_W} {vs : List Value} {ls : Array Slot} {nL : Nat} {st : List Value} {y : sy_T} (h : sy_ok ta ws vs ls nL st y) {a : Nat} {x : Int32} (hv : vs[a]? = some (.int x)) {lo hi : Int} (hin : x.toInt < lo ∨ hi < x.toInt) : sy_ok ta ws vs ls nL st (sw_def y a lo hi) := by
  unfold sw_def
  split
  · rename_i t ht
    split
    · rename_i hc
      obtain ⟨x', e, h2, h3⟩ := tv_int (h.1.2 _ _ _ ht hv) hc.1
      cases e
      exact sy_cut_ok h hv (by have := hc.2; omega) (by have := Int32.toInt_lt x; omega)
    · exact h
  · exact h
def tr_sw (pc : Nat) (i : ClassFile.Instr) (y : sy_T) : Option (List (Nat × sy_T)) := match i with
  | .tableswitch d lo hi offs => match y.2.2.1 with
    | a :: r => if sy_kd y.1 a = 0 ∧ 0 ≤ (pc : Int) + d ∧ hi = lo + (offs.size : Int) - 1 then (sw_list pc (sy_at y r) a lo offs.toList).map (fun l => (((pc : Int) + d).toNat, sw_def (sy_at y r) a lo hi) :: l) else none
    | [] => none
  | _ => none
theorem sw_list_ok {pc : Nat} {y : sy_T} {a : Nat} : ∀ {offs : List Int} {k : Int} {L : List (Nat × sy_T)}, sw_list pc y a k offs = some L → ∀ (j : Nat) (off : Int), offs[j]? = some off → 0 ≤ (pc : Int) + off ∧ (((pc : Int) + off).toNat, sy_cut y a (k + j) (k + j)) ∈ L
  | [], _, _, _, j, _, hj => by cases hj
  | o :: offs, k, L, h, j, off, hj => by
    unfold sw_list at h
    split at h
    · rename_i h0
      obtain ⟨L', h1, rfl⟩ := Option.map_eq_some_iff.mp h
      cases j with
      | zero =>
        have e : o = off := Option.some.inj hj
        subst e
        refine ⟨h0, ?_⟩
        have e2 : k + ((0 : Nat) : Int) = k := by omega
        rw [e2]; exact List.mem_cons_self
      | succ j =>
        have := sw_list_ok h1 j off hj
        refine ⟨this.1, List.mem_cons_of_mem _ ?_⟩
        have e2 : k + 1 + (j : Int) = k + ((j + 1 : Nat) : Int) := by omega
        rw [e2] at this; exact this.2
    · cases h
section M12
variable {p : Program} {l : Launch} {e : Env} {R : Room} {s : State} {m : MethodId} {args : Array Value} {below : List Frame} {meth : Method} {c : Code} {H : Heap} {locs : List Loc} {cells slots : Nat} {Q : State → Prop} {cc : ByteArray} {pc : Nat} {i : ClassFile.Instr} {len nL : Nat} {v0 : List Value} {ta : Nat → Option Nat} {ws : va_W} {y y' : sy_T} {D : va_G} {kA : Nat → ClassId} {G : List rg_T} {A : Nat → Prop} {ret : Option FieldType} {own nm : String}
theorem tr_sw_ok (hx : p.tables.exec = Jvm.exec) (hb : c.code = cc) (hd : decode cc pc = .ok (i, len)) {L : List (Nat × sy_T)} (h : tr_sw pc i y = some L) (k : ∀ q ∈ L, sy_go p l e R s m args below meth c H locs cells slots Q nL v0 ta ws q.1 q.2) : sy_go p l e R s m args below meth c H locs cells slots Q nL v0 ta ws pc y := by
  intro vs ls st hp0 hy
  unfold tr_sw at h
  have hs := hy.2.2.1
  split at h
  · rename_i d lo hi offs
    split at h
    · rename_i a r hst
      rw [hst] at hs
      split at h
      · rename_i hk
        obtain ⟨L', h1, rfl⟩ := Option.map_eq_some_iff.mp h
        cases st with
        | nil => exact hs.elim
        | cons v rest =>
          obtain ⟨t, _, k1, k2⟩ := sy_kd_ok hy.1 hs.1 hk.1
          obtain ⟨x, rfl, _, _⟩ := tv_int k2 k1
          have hy0 : sy_ok ta ws vs ls nL rest (sy_at y r) := sy_stack hy hs.2
          by_cases hin : x.toInt < lo ∨ hi < x.toInt
          · exact lv_tableOut hx hb hd hin (by have := hk.2.1; omega) (k _ List.mem_cons_self _ _ _ hp0 (sw_def_ok hy0 hs.1 hin))
          · have j1 : ¬ x.toInt < lo := fun q => hin (Or.inl q)
            have j2 : ¬ hi < x.toInt := fun q => hin (Or.inr q)
            have j3 : (x.toInt - lo).toNat < offs.toList.length := by
              have := hk.2.2
              rw [Array.length_toList]
              omega
            have ho := List.getElem?_eq_getElem j3
            obtain ⟨m1, m2⟩ := sw_list_ok h1 _ _ ho
            have e2 : lo + ((x.toInt - lo).toNat : Int) = x.toInt := by omega
            rw [e2] at m2
            refine lv_tableIn hx hb hd j1 j2 (by rw [← Array.getElem?_toList]; exact ho) (show (pc : Int) + _ = _ by omega) (k _ (List.mem_cons_of_mem _ m2) _ _ _ hp0 (sy_cut_ok hy0 hs.1 (Int.le_refl _) (Int.le_refl _)))
      · cases h
    · cases h
  · cases h
/-- whatever has this picture and these facts goes on well -/
def sF_go (p : Program) (l : Launch) (e : Env) (R : Room) (s : State) (m : MethodId) (args : Array Value) (below : List Frame) (meth : Method) (c : Code) (H : Heap) (locs : List Loc) (cells slots : Nat) (Q : State → Prop) (nL : Nat) (v0 : List Value) (ta : Nat → Option Nat) (ws : va_W) (pc : Nat) (y : sy_T) (fs : List fc_T) : Prop :=
  ∀ (vs : List Value) (ls : Array Slot) (st : List Value), v0 <+: vs → sy_ok ta ws vs ls nL st y → fc_ok fs ta ws vs → W p l e R s m args below meth c H locs cells slots Q (F0 m pc ls st)
theorem pre_le {vs vs' : List Value} (h : vs <+: vs') : vs.length ≤ vs'.length := by
  obtain ⟨t, rfl⟩ := h
  rw [List.length_append]; omega
theorem w_mem {ws : va_W} {a : Nat} {e : va_E} (h : w_at ws a = some e) : (a, e) ∈ ws := by
  unfold w_at at h
  obtain ⟨q, h1, h2⟩ := Option.map_eq_some_iff.mp h
  have h3 := List.mem_of_find?_eq_some h1
  have h4 : q.1 = a := by simpa using List.find?_some h1
  rw [← h4, ← h2]; exact h3
/-- a name's reference is one that the picture knows -/
theorem sy_old {env : List tv_T} {ta : Nat → Option Nat} {vs vs' : List Value} (h : sy_env ta env vs) (hp : vs <+: vs') : ∀ n, n < env.length → ∀ a, n_v vs' n = .ref a → (ta a).isSome = true := by
  intro n hn a ha
  have hl : n < vs.length := by rw [h.1]; exact hn
  rw [n_v_pre hp hl] at ha
  have hv : vs[n]? = some (.ref a) := by
    unfold n_v at ha
    rw [List.getElem?_eq_getElem hl] at ha ⊢
    rw [← ha]; rfl
  have ht := h.2 n _ _ (List.getElem?_eq_getElem hn) hv
  rcases ht with ⟨_, x, e, _⟩ | ⟨_, x, e, _⟩ | ⟨_, a', r, e, h1, _⟩ | ⟨_, e | ⟨a', r, e, h1, _⟩⟩ | ⟨_, x, e, _⟩ | ⟨_, x, e, _⟩
  · cases e
  · cases e
  · cases e; rw [h1]; rfl
  · cases e
  · cases e; rw [h1]; rfl
  · cases e
  · cases e
theorem w_at_no {ws : va_W} {a : Nat} (h : ∀ e, (a, e) ∉ ws) : w_at ws a = none := by
  cases hw : w_at ws a with
  | none => rfl
  | some e => exact absurd (w_mem hw) (h e)
theorem fc_call_ok {N : Nat} {mo : mo_T} {w1 : va_W} {vs : List Value} {A1 A2 : Nat → Prop} {tb : Nat → Option Nat} (hN : N ≤ vs.length) (hold : ∀ n, n < N → ∀ a, n_v vs n = .ref a → (ta a).isSome = true) (hth : th_ok kA G ta ws) (hle : ta_le ta tb) (hth1 : th_ok kA G tb w1) (hD : va_D A1 ws) (hD1 : va_D A2 w1) (h : kp mo ta ws w1) : fc_s (fc_call N mo) ta ws w1 vs := by
  have fdE : ∀ b ci fs k, w_at ws b = some (.inr (ci, fs)) → ((1000 * ci + k : Nat) : Int) ∉ mo.2.1.map (fun q => ((1000 * q.1 + q.2 : Nat) : Int)) → w_fd w1 b k = w_fd ws b k := fun b ci fs k hb hk => by
    have hb2 := w_mem hb
    obtain ⟨fs', m1, m2⟩ := h.1 b ci fs hb2
    have hk2 : (ci, k) ∉ mo.2.1 := fun hq => hk (List.mem_map.mpr ⟨(ci, k), hq, rfl⟩)
    unfold w_fd
    rw [hb, w_at_mem hD1 m1]
    simp only
    rw [List.getD_eq_getElem?_getD, List.getD_eq_getElem?_getD, m2 k hk2]
  have nsE : ∀ n0 ∈ (if N = 0 then [] else [N - 1] : List Nat), n0 < N := fun n0 h0 => by
    split at h0
    · cases h0
    · rw [List.mem_singleton.mp h0]; omega
  refine ⟨fun n hn => Nat.lt_of_lt_of_le (nsE n hn) hN, ?_⟩
  show (∀ b r, ta b = some r → (((mo.1 : Nat) : Int)).toNat.testBit r = false → ∀ j, w_el w1 b j = w_el ws b j) ∧ _
  refine ⟨fun b r hb hm j => ?_, fdE, fun n0 h0 n hn a ha => hold n (Nat.lt_of_le_of_lt hn (nsE n0 h0)) a ha, fun b ci fs k hb hw hk => ?_, fun b k cc' hb hw => ?_, fun b r j cc' hb hm hw => ?_⟩
  rotate_left 3
  · rw [Int.toNat_natCast] at hm
    obtain ⟨cl, n, f, hw, hj, hc⟩ := hw
    rcases hth.1 b r hb with ⟨g, e0, _, h2, h3⟩ | ⟨z1, _, _, z4⟩
    · cases e0 with
      | inl x =>
        have h5 := w_at_mem hD1 (h.2 b r x hb hm h2)
        rw [h5] at hw
        have ex : x = (cl, n, .inr (.inr (.inr (.inr f)))) := by injection hw with e; injection e
        subst ex
        rcases h3 with ⟨_, n', f', e, _⟩ | ⟨_, n', f', e, _⟩ | ⟨_, _, n', f', e, _, _, hf⟩ | ⟨_, fs, e, _⟩
        · injection e with e; injection e with _ e; injection e with _ e; injection e
        · injection e with e; injection e with _ e; injection e with _ e; injection e with e; injection e
        · have e1 : n = n' := by injection e with e; injection e with _ e; injection e
          have e2 : f = f' := by injection e with e; injection e with _ e; injection e with _ e; injection e with e; injection e with e; injection e with e; injection e
          subst e1; subst e2
          have ht := hf j hj
          rw [hc] at ht
          rcases ht with ⟨_, x, e, _⟩ | ⟨_, x, e, _⟩ | ⟨_, a', r', e, q1, _⟩ | ⟨_, e | ⟨a', r', e, q1, _⟩⟩ | ⟨_, x, e, _⟩ | ⟨_, x, e, _⟩
          · cases e
          · cases e
          · cases e; rw [q1]; rfl
          · cases e
          · cases e; rw [q1]; rfl
          · cases e
          · cases e
        · cases e
      | inr x =>
        obtain ⟨ci, fs⟩ := x
        obtain ⟨fs', m1, _⟩ := h.1 b ci fs h2
        rw [w_at_mem hD1 m1] at hw
        cases hw
    · rcases hth1.1 b r (hle b r hb) with ⟨g, e0, q1, _⟩ | ⟨_, _, _, z5⟩
      · rw [z1] at q1; cases q1
      · rw [w_at_no z5] at hw; cases hw
  · rw [Int.toNat_natCast] at hm
    rcases hth.1 b r hb with ⟨g, e0, _, h2, _⟩ | ⟨z1, _, _, z4⟩
    · cases e0 with
      | inl x =>
        have h3 := h.2 b r x hb hm h2
        unfold w_el
        rw [w_at_mem hD h2, w_at_mem hD1 h3]
      | inr x =>
        obtain ⟨ci, fs⟩ := x
        obtain ⟨fs', m1, _⟩ := h.1 b ci fs h2
        unfold w_el
        rw [w_at_mem hD h2, w_at_mem hD1 m1]
    · rcases hth1.1 b r (hle b r hb) with ⟨g, e0, q1, _⟩ | ⟨_, _, _, z5⟩
      · rw [z1] at q1; cases q1
      · unfold w_el
        rw [w_at_no z4, w_at_no z5]
  · obtain ⟨r, hr⟩ := Option.isSome_iff_exists.mp hb
    rcases hth.1 b r hr with ⟨g, e0, hg0, h2, hr0⟩ | ⟨z1, _, _, z4⟩
    rotate_left
    · rcases hth1.1 b r (hle b r hr) with ⟨g, e0, q1, _⟩ | ⟨_, _, _, z5⟩
      · rw [z1] at q1; cases q1
      · rw [w_at_no z5] at hw; cases hw
    cases e0 with
    | inl x =>
      exfalso
      obtain ⟨e1, q2, hr1⟩ := th_in hth1 (hle b r hr) hg0
      rw [w_at_mem hD1 q2] at hw
      obtain rfl := Option.some.inj hw
      have k1 : 10 ≤ g.1 := by
        rcases hr1 with ⟨_, n, f, e, _⟩ | ⟨_, n, f, e, _⟩ | ⟨_, _, n, f, e, _⟩ | ⟨z, _⟩
        · cases e
        · cases e
        · cases e
        · exact z
      rcases hr0 with ⟨z, _⟩ | ⟨z, _⟩ | ⟨_, z, _⟩ | ⟨_, fs', e, _⟩
      · omega
      · omega
      · omega
      · cases e
    | inr x =>
      obtain ⟨ci0, fs0⟩ := x
      obtain ⟨fs', m1, _⟩ := h.1 b ci0 fs0 h2
      rw [w_at_mem hD1 m1] at hw
      have e1 : ci0 = ci := by injection hw with e; injection e with e; injection e
      subst e1
      exact fdE b ci0 fs0 k (w_at_mem hD h2) hk
  · obtain ⟨r, hr⟩ := Option.isSome_iff_exists.mp hb
    rcases hth.1 b r hr with ⟨g, e0, _, h2, h3⟩ | ⟨_, _, _, z4⟩
    rotate_left
    · unfold w_fd at hw; rw [w_at_no z4] at hw; cases hw
    unfold w_fd at hw
    rw [w_at_mem hD h2] at hw
    rcases h3 with ⟨_, n, f, rfl, _⟩ | ⟨_, n, f, rfl, _⟩ | ⟨_, _, n, f, rfl, _⟩ | ⟨_, fs, rfl, l1, hf⟩
    · cases hw
    · cases hw
    · cases hw
    · simp only at hw
      rw [List.getD_eq_getElem?_getD] at hw
      cases hv : fs[k]? with
      | none => rw [hv] at hw; cases hw
      | some v =>
        rw [hv] at hw
        have hw' : v = .ref cc' := hw
        subst hw'
        have hlt := (List.getElem?_eq_some_iff.mp hv).1
        rw [l1] at hlt
        have ht := hf k _ _ (List.getElem?_eq_getElem hlt) hv
        rcases ht with ⟨_, x, e, _⟩ | ⟨_, x, e, _⟩ | ⟨_, a', r', e, q1, _⟩ | ⟨_, e | ⟨a', r', e, q1, _⟩⟩ | ⟨_, x, e, _⟩ | ⟨_, x, e, _⟩
        · cases e
        · cases e
        · cases e; rw [q1]; rfl
        · cases e
        · cases e; rw [q1]; rfl
        · cases e
        · cases e
theorem n_v_st {vs : List Value} : ∀ {bs : List Nat} {bv : List Value}, sy_st vs bs bv → bs.length = bv.length ∧ ∀ i, i < bv.length → ∃ n, bs[i]? = some n ∧ vs[n]? = bv[i]?
  | [], [], _ => ⟨rfl, fun i hi => by cases hi⟩
  | b :: bs, v :: bv, h => by
    obtain ⟨e, ih⟩ := n_v_st h.2
    refine ⟨by rw [List.length_cons, List.length_cons, e], fun i hi => ?_⟩
    cases i with
    | zero => exact ⟨b, rfl, h.1⟩
    | succ i => exact ih i (by rw [List.length_cons] at hi; omega)
  | [], _ :: _, h => h.elim
  | _ :: _, [], h => h.elim
theorem fc_back_ok {N : Nat} {en : en_T} {bs : List Nat} {fs : List fc_T} {z : sy_T} {tb : Nat → Option Nat} {w1 : va_W} {vs bv : List Value} {r : Option Value} {st2 : List Value} {A1 A2 : Nat → Prop} (hN : N ≤ vs.length) (hold : ∀ n, n < N → ∀ a, n_v vs n = .ref a → (ta a).isSome = true) (hf : fc_ok fs ta ws vs) (hth : th_ok kA G ta ws) (hth1 : th_ok kA G tb w1) (hD : va_D A1 ws) (hD1 : va_D A2 w1) (hle : ta_le ta tb) (hpu : en.2.2.1 = true → (tb, w1) = (ta, ws)) (hkp : kp en.2.2.2.2.2.2.2.2 ta ws w1) (hs : sy_st vs bs bv) (hz : sy_st vs z.2.2.1 (push_r r st2)) (hpo : ∀ f ∈ en.2.2.2.2.2.2.2.2.2.2.2.1, fc_1 f w1 (bv ++ r.toList)) : fc_ok (fc_back N en bs fs z) tb w1 vs := by
  unfold fc_back
  by_cases hem : fs.isEmpty = true
  · rw [if_pos hem]; trivial
  · rw [if_neg hem]
    have base : fc_ok (if en.2.2.1 then fs else fc_call N en.2.2.2.2.2.2.2.2 :: fs) tb w1 vs := by
      split
      · rename_i h
        have := hpu h
        have e1 : tb = ta := by injection this
        have e2 : w1 = ws := by injection this
        rw [e1, e2]; exact hf
      · exact fc_step (by simp [fc_call]) hle (fc_call_ok hN hold hth hle hth1 hD hD1 hkp) hf
    have gen : ∀ (L : List fc_T), (∀ f ∈ L, f.1 < 100 ∧ fc_1 f w1 (bv ++ r.toList)) → fc_ok (L.map (fc_map (cl_nm bs z)) ++ (if en.2.2.1 then fs else fc_call N en.2.2.2.2.2.2.2.2 :: fs)) tb w1 vs := by
      intro L
      induction L with
      | nil => intro _; exact base
      | cons f L ih =>
        intro hL
        obtain ⟨h1, h2⟩ := hL f List.mem_cons_self
        refine fc_cons (f := fc_map (cl_nm bs z) f) h1 (fc_1_map (fun n _ hn => ?_) h2) (ih (fun g hg => hL g (List.mem_cons_of_mem _ hg)))
        obtain ⟨e1, e2⟩ := n_v_st hs
        unfold cl_nm
        by_cases hb : n < bs.length
        · rw [if_pos hb]
          obtain ⟨q, q1, q2⟩ := e2 n (by omega)
          have e3 : bs.getD n 0 = q := by rw [List.getD_eq_getElem?_getD, q1]; rfl
          have hbv := List.getElem?_eq_getElem (l := bv) (i := n) (by omega)
          rw [hbv] at q2
          rw [e3]
          refine ⟨(List.getElem?_eq_some_iff.mp q2).1, ?_⟩
          unfold n_v
          rw [q2, List.getElem?_append_left (by omega), hbv]
        · rw [if_neg hb]
          cases r with
          | none =>
            have hn' : n < (bv ++ []).length := hn
            rw [List.append_nil] at hn'
            omega
          | some v =>
            have hn' : n < (bv ++ [v]).length := hn
            rw [List.length_append] at hn'
            have hn2 : n < bv.length + 1 := hn'
            have en' : n = bv.length := by omega
            cases hzz : z.2.2.1 with
            | nil => rw [hzz] at hz; exact hz.elim
            | cons q rr =>
              rw [hzz] at hz
              have hq : vs[q]? = some v := hz.1
              refine ⟨(List.getElem?_eq_some_iff.mp hq).1, ?_⟩
              show n_v vs q = n_v (bv ++ [v]) n
              unfold n_v
              rw [hq, en', List.getElem?_append_right (Nat.le_refl _), Nat.sub_self]; rfl
    exact gen _ (fun f hf2 => by
      obtain ⟨a, b⟩ := List.mem_filter.mp hf2
      exact ⟨by simpa using b, hpo f a⟩)
theorem fc_pr_ok {en : en_T} {bs : List Nat} {fs : List fc_T} {vs bv : List Value} (hf : fc_ok fs ta ws vs) (hs : sy_st vs bs bv) (h : en.2.2.2.2.2.2.2.2.2.2.1.all (fun f => f.2.1.all (fun i => decide (i < bs.length)) && (fc_now fs).contains (fc_map (fun i => bs.getD i 0) f)) = true) : pr_ok en ws bv := by
  intro f hf2
  have h1 := List.all_eq_true.mp h f hf2
  rw [Bool.and_eq_true] at h1
  obtain ⟨_, h3⟩ := fc_now_ok hf _ (List.contains_iff_mem.mp h1.2)
  obtain ⟨e1, e2⟩ := n_v_st hs
  refine fc_1_unmap (fun n hn0 hn => ?_) h3
  have hb : n < bs.length := by simpa using List.all_eq_true.mp h1.1 n hn0
  obtain ⟨q, q1, q2⟩ := e2 n (by omega)
  have e3 : bs.getD n 0 = q := by rw [List.getD_eq_getElem?_getD, q1]; rfl
  have hbv := List.getElem?_eq_getElem (l := bv) (i := n) (by omega)
  rw [hbv] at q2
  refine ⟨by omega, ?_⟩
  show n_v vs (bs.getD n 0) = _
  rw [e3]
  unfold n_v
  rw [q2, hbv]
theorem ag_chk_ex {ta : Nat → Option Nat} {ws : va_W} {vs : List Value} {ls : Array Slot} {nL : Nat} {st : List Value} {y : sy_T} (hy : sy_ok ta ws vs ls nL st y) : ∀ {ts : List tv_T} {ns : List Nat}, ag_chk y ts ns = true → ∃ av, sy_st vs ns av
  | [], [], _ => ⟨[], trivial⟩
  | t :: ts, n :: ns, h => by
    unfold ag_chk at h
    rw [Bool.and_eq_true] at h
    obtain ⟨av, h1⟩ := ag_chk_ex hy h.2
    have h2 := h.1
    unfold nm_le at h2
    split at h2
    · rename_i u hu
      have hlt := (List.getElem?_eq_some_iff.mp hu).1
      rw [← hy.1.1] at hlt
      exact ⟨vs[n] :: av, List.getElem?_eq_getElem hlt, h1⟩
    · cases h2
  | [], _ :: _, h => by cases h
  | _ :: _, [], h => by cases h
theorem tr_call_ok {en : en_T} {op : ClassFile.Instr} {len : Nat} {L : List (sy_T × List fc_T)} {fs : List fc_T} (hcl : cl_ok l D kA G own op len en) (X : cx p s m args meth c cc nL ret own nm) (hK : va_K D classes (TY kA) s) (hN : nsr kA A s) (hA : ∀ q, s.heap.size ≤ q → A q) (hP : va_P D classes ws H) (hD : va_D A ws) (hS : va_S A s.heap H locs) (hth : th_ok kA G ta ws) (hfr : en.2.2.2.1 + 1 ≤ R.frames) (hlo : 64 * (en.2.2.2.1 + 1) ≤ R.locals) (hce : cells + en.2.2.2.2.1 ≤ R.cells) (hsl : slots + en.2.2.2.2.2.1 ≤ R.slots) (hd : decode cc pc = .ok (op, len)) (h : tr_call G en y fs = some L)
    (kk : ∀ z ∈ L, ∀ (tb : Nat → Option Nat) (w1 : va_W) (H1 : Heap) (locs1 : List Loc), ta_le ta tb → th_ok kA G tb w1 → va_P D classes w1 H1 → va_D A w1 → va_S A s.heap H1 locs1 → (en.2.2.1 = true → (tb, w1) = (ta, ws)) → kp en.2.2.2.2.2.2.2.2 ta ws w1 → sF_go p l e R s m args below meth c H1 locs1 (cells + en.2.2.2.2.1) (slots + en.2.2.2.2.2.1) Q nL v0 tb w1 (pc + len) z.1 z.2) : sF_go p l e R s m args below meth c H locs cells slots Q nL v0 ta ws pc y fs := by
  intro vs ls st hp0 hy hf
  unfold tr_call at h
  simp only at h
  split at h
  · rename_i hk
    simp only [Bool.and_eq_true, decide_eq_true_eq] at hk
    split at h
    rotate_left
    · cases h
    · rename_i pq hpq
      split at h
      case isFalse => cases h
      rename_i hpre
      have hs := hy.2.2.1
      rw [← List.take_append_drop en.1.length y.2.2.1] at hs
      obtain ⟨sa, rest, rfl, s1, s2⟩ := sy_st_split hs
      have s3 := sy_st_rev s1
      have hag := ag_chk_ok hy hk.1.1 s3
      obtain ⟨hv, sh⟩ := ag_chk_ex hy hk.1.2
      have hhv := ag_chk_ok hy hk.1.2 sh
      obtain ⟨v1, gv, pr, hy1, sg, hgv, est⟩ := gl_all_ok hth hy s3 hpq
      have hp1 := hp0.trans pr
      have s21 := sy_st_pre pr s2
      have s31 := sy_st_pre pr s3
      have sh1 := sy_st_pre pr sh
      have hst : sa ++ rest = sa.reverse.reverse ++ rest := by rw [List.reverse_reverse]
      rw [hst]
      refine hcl p e R s m args below meth c H locs cells slots Q cc pc nL ret nm A ws ta ls sa.reverse gv hv rest X hK hN hA hP hD hS hth hag hgv hhv (fc_pr_ok (fc_pre pr hf) (sy_st_join (sy_st_join s31 sg) sh1) hpre) (by rw [sy_w hy.1 s2]; exact hk.2) hfr hlo hce hsl hy.2.1.1 hd (fun tb w1 H1 locs1 r b1 b2 b3 b4 b5 b6 b8 b7 b9 => ?_)
      have hz := sy_back_ok hth hD hy1 s21 b1 b7 b9
      have hps : push_r r rest = r.toList ++ rest := by cases r <;> rfl
      split at h
      · cases hrt : en.2.1 with
        | none =>
          rw [hrt] at h b6
          obtain rfl := Option.some.inj h
          cases r with
          | some v => exact b6.elim
          | none => exact kk _ List.mem_cons_self tb w1 H1 locs1 b1 b2 b3 b4 b5 b7 b9 v1 ls _ hp1 hz (fc_back_ok (r := none) (by rw [← hy.1.1]; exact pre_le pr) (sy_old hy.1 pr) (fc_pre pr hf) hth b2 hD b4 b1 b7 b9 (sy_st_join (sy_st_join s31 sg) sh1) hz.2.2.1 b8.1)
        | some t =>
          rw [hrt] at h b6
          cases r with
          | none => exact b6.elim
          | some v =>
            obtain rfl := Option.some.inj h
            exact kk _ List.mem_cons_self tb w1 H1 locs1 b1 b2 b3 b4 b5 b7 b9 (v1 ++ [v]) ls _ (pre_app hp1) (sy_pushedT hz s21 b6) (fc_back_ok (r := some v) (by rw [← hy.1.1]; exact pre_le (pr.trans (List.prefix_append _ _))) (sy_old hy.1 (pr.trans (List.prefix_append _ _))) (fc_pre (List.prefix_append _ _) (fc_pre pr hf)) hth b2 hD b4 b1 b7 b9 (sy_st_app (sy_st_join (sy_st_join s31 sg) sh1)) (sy_pushedT hz s21 b6).2.2.1 b8.1)
      · rename_i hne
        obtain rfl := Option.some.inj h
        rcases b8.2 with b82 | ⟨P, hP1, ve, c1, c2, c3, c4, c6, c5⟩
        · exact absurd (by rw [b82]; rfl) hne
        · have hok := mg_ok hz s21 (sy_st_join (sy_st_join s31 sg) sh1) c1 c2 c3 c4 c6 c5
          rw [← hps] at hok
          refine kk _ (List.mem_map.mpr ⟨_, List.mem_filter.mpr ⟨List.mem_map.mpr ⟨P, hP1, rfl⟩, ?_⟩, rfl⟩) tb w1 H1 locs1 b1 b2 b3 b4 b5 b7 b9 _ ls _ (hp1.trans (List.prefix_append _ _)) hok (fc_back_ok (r := r) (by rw [← hy.1.1]; exact pre_le (pr.trans (List.prefix_append _ _))) (sy_old hy.1 (pr.trans (List.prefix_append _ _))) (fc_pre (List.prefix_append _ _) (fc_pre pr hf)) hth b2 hD b4 b1 b7 b9 (sy_st_pre (List.prefix_append _ _) (sy_st_join (sy_st_join s31 sg) sh1)) hok.2.2.1 b8.1)
          rw [Bool.not_eq_true']
          refine Bool.eq_false_iff.mpr (fun hb => ?_)
          obtain ⟨a, _, ha⟩ := List.any_eq_true.mp hb
          exact sy_bot_ok hok ha
  · cases h
end M12
