/-! the check of a method -/
def rf_ok (ft : FieldType) (t : tv_T) : Bool := match ft with
  | .int => true
  | .boolean => decide (0 ≤ t.2.1) && decide (t.2.2.1 ≤ 1)
  | .byte => decide (-128 ≤ t.2.1) && decide (t.2.2.1 ≤ 127)
  | _ => false
def isRefT (ft : FieldType) : Bool := match ft with
  | .object _ => true
  | .array _ => true
  | _ => false
def ck_one (rt : Option FieldType) (w : Option tv_T) (y : sy_T) (f : FieldType → tv_T → tv_T → Bool) : Bool := match rt, w, y.2.2.1 with
  | some ft, some w, [n] => (match y.1[n]? with | some t => f ft t w && nm_le y n w | none => false)
  | _, _, _ => false
/-- the picture at an end, of the first k names and the answer -/
def sl_ix (k n i : Nat) : Option Nat := if i < k then some i else if i = n then some k else none
def sl_of (k n : Nat) (q : of_T) : Option of_T := match sl_ix k n q.1, sl_ix k n q.2.1 with
  | some a, some b => some (a, b, q.2.2.1, q.2.2.2)
  | _, _ => none
def sl_dv (k n : Nat) (q : Nat × Nat) : Option (Nat × Nat) := (sl_ix k n q.1).map (fun a => (a, q.2))
def sl_y (k : Nat) (y : sy_T) : Option sy_T := match y.2.2.1 with
  | [n] => (match y.1[n]? with
    | some t => some (y.1.take k ++ (if n < k then [] else [t]), [], [if n < k then n else k], [], y.2.2.2.2.1.filterMap (sl_of k n), y.2.2.2.2.2.filterMap (sl_dv k n))
    | none => none)
  | _ => none
def pa_in (en : en_T) (y : sy_T) : Bool := en.2.2.2.2.2.2.isEmpty || (match sl_y en.1.length y with | some P => en.2.2.2.2.2.2.contains P | none => false)
theorem pa_in_ok {ta : Nat → Option Nat} {ws : va_W} {vs av : List Value} {ls : Array Slot} {nL : Nat} {v : Value} {y : sy_T} {en : en_T} (hy : sy_ok ta ws vs ls nL [v] y) (hp : av <+: vs) (hl : av.length = en.1.length) (h : pa_in en y = true) : po_ok ta av en.2.2.2.2.2.2 v := by
  unfold pa_in at h
  rcases Bool.or_eq_true_iff.mp h with h | h
  · exact Or.inl (List.isEmpty_iff.mp h)
  · split at h
    · rename_i P hP
      refine Or.inr ⟨P, List.contains_iff_mem.mp h, ?_⟩
      have hs := hy.2.2.1
      unfold sl_y at hP
      split at hP
      · rename_i n hn
        rw [hn] at hs
        split at hP
        · rename_i t ht
          obtain rfl := Option.some.inj hP
          have hv : vs[n]? = some v := hs.1
          obtain ⟨tl, rfl⟩ := hp
          have at1 : ∀ i, i < en.1.length → (av ++ tl)[i]? = av[i]? := fun i hi => List.getElem?_append_left (by omega)
          have he := hy.1
          -- the values: the arguments, and the answer where it is none of them
          have ve : ∃ ve, (ve = av ∨ ve = av ++ [v]) ∧ ve.length = (y.1.take en.1.length ++ (if n < en.1.length then [] else [t])).length ∧ (∀ i a w, sl_ix en.1.length n i = some a → (av ++ tl)[i]? = some w → ve[a]? = some w) ∧ (∀ a, a < en.1.length → ve[a]? = av[a]?) ∧ (¬ n < en.1.length → ve[en.1.length]? = some v) := by
            have htk : (y.1.take en.1.length).length = en.1.length := by
              rw [List.length_take]
              have := he.1
              rw [List.length_append] at this
              omega
            by_cases hlt : n < en.1.length
            · refine ⟨av, Or.inl rfl, by rw [if_pos hlt, List.append_nil, htk, hl], fun i a w h1 h2 => ?_, fun a _ => rfl, fun q => absurd hlt q⟩
              unfold sl_ix at h1
              split at h1
              · rename_i hi
                rw [← Option.some.inj h1, ← at1 i hi]; exact h2
              · split at h1
                · rename_i e; omega
                · cases h1
            · refine ⟨av ++ [v], Or.inr rfl, by rw [if_neg hlt, List.length_append, List.length_append, htk, hl]; rfl, fun i a w h1 h2 => ?_, fun a ha => List.getElem?_append_left (by omega), fun _ => by rw [← hl, List.getElem?_append_right (Nat.le_refl _), Nat.sub_self]; rfl⟩
              unfold sl_ix at h1
              split at h1
              · rename_i hi
                rw [← Option.some.inj h1, List.getElem?_append_left (by omega), ← at1 i hi]; exact h2
              · split at h1
                · rename_i e
                  rw [← Option.some.inj h1, ← hl, List.getElem?_append_right (Nat.le_refl _), Nat.sub_self]
                  rw [e, hv] at h2
                  exact h2
                · cases h1
          obtain ⟨ve, e1, e2, e3, e4, e5⟩ := ve
          refine ⟨ve, e1, ⟨e2, fun i t' v' a1 a2 => ?_⟩, fun q hq => ?_, fun q hq => ?_, ?_⟩
          · have a1' : (y.1.take en.1.length ++ (if n < en.1.length then [] else [t]))[i]? = some t' := a1
            have htk : (y.1.take en.1.length).length = en.1.length := by
              rw [List.length_take]
              have := he.1
              rw [List.length_append] at this
              omega
            by_cases hi : i < en.1.length
            · rw [List.getElem?_append_left (by omega), List.getElem?_take_of_lt hi] at a1'
              rw [e4 i hi, ← at1 i hi] at a2
              exact he.2 i t' v' a1' a2
            · by_cases hlt : n < en.1.length
              · rw [if_pos hlt, List.append_nil, List.getElem?_eq_none (by omega)] at a1'
                cases a1'
              · rw [if_neg hlt, List.getElem?_append_right (by omega), htk] at a1'
                have hi0 := (List.getElem?_eq_some_iff.mp a1').1
                have hi1 : i = en.1.length := by
                  have : [t].length = 1 := rfl
                  omega
                subst hi1
                rw [Nat.sub_self] at a1'
                have et : t = t' := Option.some.inj a1'
                rw [e5 hlt] at a2
                rw [← et, ← Option.some.inj a2]
                exact he.2 n t v ht hv
          · obtain ⟨q0, q1, q2⟩ := List.mem_filterMap.mp hq
            unfold sl_of at q2
            split at q2
            · rename_i a b ha hb
              obtain rfl := Option.some.inj q2
              obtain ⟨x, z, c1, c2, c3, c4⟩ := hy.2.2.2.2.1 q0 q1
              exact ⟨x, z, e3 _ _ _ ha c1, e3 _ _ _ hb c2, c3, c4⟩
            · cases q2
          · obtain ⟨q0, q1, q2⟩ := List.mem_filterMap.mp hq
            obtain ⟨a, ha, rfl⟩ := Option.map_eq_some_iff.mp q2
            obtain ⟨x, k, c1, c2⟩ := hy.2.2.2.2.2 q0 q1
            exact ⟨x, k, e3 _ _ _ ha c1, c2⟩
          · refine ⟨?_, trivial⟩
            by_cases hlt : n < en.1.length
            · rw [if_pos hlt, e4 n hlt, ← at1 n hlt]; exact hv
            · rw [if_neg hlt]; exact e5 hlt
        · cases hP
      · cases hP
    · cases h
def ck_ret (rt : Option FieldType) (en : en_T) (i : ClassFile.Instr) (len : Nat) (y : sy_T) (ce sl : Nat) : Bool := decide (len = 1) && decide (ce ≤ en.2.2.2.2.1) && decide (sl ≤ en.2.2.2.2.2.1) && pa_in en y && (match i with
  | .return_ => (match rt, en.2.1, y.2.2.1 with | none, none, [] => true | _, _, _ => false)
  | .ireturn => ck_one rt en.2.1 y (fun ft t w => decide (t.1 = 0) && (decide (w.1 = 0) || decide (w.1 = 5)) && rf_ok ft t)
  | .lreturn => ck_one rt en.2.1 y (fun ft t w => decide (t.1 = 1) && decide (w.1 = 1) && decide (ft = .long))
  | .areturn => ck_one rt en.2.1 y (fun ft t w => decide (t.1 = 2) && decide (w.1 = 2) && isRefT ft)
  | _ => false)
theorem ck_one_ok {ta : Nat → Option Nat} {ws : va_W} {vs : List Value} {ls : Array Slot} {nL : Nat} {st : List Value} {y : sy_T} (hy : sy_ok ta ws vs ls nL st y) {rt : Option FieldType} {w : Option tv_T} {f : FieldType → tv_T → tv_T → Bool} (h : ck_one rt w y f = true) : ∃ ft w0 t v, rt = some ft ∧ w = some w0 ∧ st = [v] ∧ f ft t w0 = true ∧ tv_ok ta t v ∧ tv_ok ta w0 v := by
  unfold ck_one at h
  have hs := hy.2.2.1
  split at h
  · rename_i ft w0 n e
    rw [e] at hs
    split at h
    · rename_i t ht
      rw [Bool.and_eq_true] at h
      obtain ⟨v, rest, rfl, h1, h2, h3⟩ := sy_one hy.1 hs ht
      cases rest with
      | nil => exact ⟨ft, w0, t, v, rfl, rfl, rfl, h.1, h2, nm_le_ok hy h1 h.2⟩
      | cons _ _ => exact h3.elim
    · cases h
  · cases h
theorem rf_nar {ta : Nat → Option Nat} {ft : FieldType} {t : tv_T} {x : Int32} (h : rf_ok ft t = true) (h1 : t.2.1 ≤ x.toInt) (h2 : x.toInt ≤ t.2.2.1) : narrow ft (.int x) = .int x := by
  unfold rf_ok at h
  split at h
  · rfl
  · simp only [Bool.and_eq_true, decide_eq_true_eq] at h
    have h3 : x.toInt = 0 ∨ x.toInt = 1 := by omega
    rcases h3 with h3 | h3
    · have : x = 0 := Int32.toInt_inj.mp (h3.trans (by decide)); subst this; rfl
    · have : x = 1 := Int32.toInt_inj.mp (h3.trans (by decide)); subst this; rfl
  · simp only [Bool.and_eq_true, decide_eq_true_eq] at h
    have e : x.toInt8.toInt32.toInt = x.toInt := by
      rw [Int8.toInt_toInt32, Int32.toInt_toInt8]
      exact Int.bmod_eq_of_le_mul_two (by show -(256 : Int) ≤ _; omega) (by show _ < (256 : Int); omega)
    show Value.int x.toInt8.toInt32 = .int x
    rw [Int32.toInt_inj.mp e]
  · cases h
section M15
variable {p : Program} {l : Launch} {e : Env} {s : State} {m : MethodId} {args : Array Value} {below : List Frame} {meth : Method} {c : Code} {cc : ByteArray} {pc : Nat} {i : ClassFile.Instr} {len nL : Nat} {v0 : List Value} {ta0 : Nat → Option Nat} {ws0 : va_W} {y : sy_T} {D : va_G} {kA : Nat → ClassId} {G : List rg_T} {ret : Option FieldType} {own nm : String} {en : en_T} {ce sl sz : Nat}
theorem ck_ret_ok {av : List Value} (hav : en.2.2.2.2.2.2 = [] ∨ (v0 = av ∧ av.length = en.1.length)) (X : cx p s m args meth c cc nL ret own nm) (hK : va_K D classes (TY kA) s) (hd : decode cc pc = .ok (i, len)) (h : ck_ret ret en i len y ce sl = true) : sy_J p l e s m args below meth c (MQ below (qc_of D kA G en ta0 ws0 sz av) args s en.2.2.2.2.1 en.2.2.2.2.2.1 (va_A ws0 sz)) D kA G (va_A ws0 sz) en ta0 ws0 nL v0 (pc, y, ce, sl) := by
  intro H locs ws ta hle hpu hP hD hS hth vs ls st hp0 hy
  unfold ck_ret at h
  simp only [Bool.and_eq_true, decide_eq_true_eq] at h
  obtain ⟨⟨⟨⟨rfl, hce⟩, hsl⟩, hpa⟩, h⟩ := h
  have hpo : ∀ v : Value, st = [v] → po_ok ta av en.2.2.2.2.2.2 v := fun v hv => by
    rcases hav with hav | hav
    · exact Or.inl hav
    · subst hv
      rw [hav.1] at hp0
      exact pa_in_ok hy hp0 hav.2 hpa
  have hup : up_ok kA G ta0 ws0 en.2.2.1 (ta, ws) := ⟨hle, hth, hpu⟩
  have hwq : ∀ t : State, t.heap = H → s.WarmedH t.vm → wq D classes (TY kA) (va_A ws0 sz) ws t := fun t ht hW => ⟨by rw [ht]; exact hP, va_K.moved hW.alike hK, hD⟩
  have hlk := X.2.2.2.2.2.2.1
  have hrt := X.2.2.2.2.2.1
  refine W.widen hce hsl ?_
  split at h
  · split at h
    · rename_i e1 e2 e3
      have hs := hy.2.2.1
      rw [e3] at hs
      cases st with
      | cons _ _ => exact hs.elim
      | nil =>
        refine W.vret X.1 X.2.1 hrt (fun t ht hW => ?_) (fun q hq => hS.2.2 q hq) hd hlk
        unfold qc_of
        rw [e2]
        exact ⟨⟨(ta, ws), rfl, hup, hwq t ht hW⟩, hS.F ht⟩
    · cases h
  · obtain ⟨ft, w0, t, v, e1, e2, rfl, h1, h2, h3⟩ := ck_one_ok hy h
    simp only [Bool.and_eq_true, Bool.or_eq_true, decide_eq_true_eq] at h1
    obtain ⟨x, rfl, x1, x2⟩ := tv_int h2 h1.1.1
    refine W.zret X.1 X.2.1 (hrt.trans e1) (rf_nar (ta := ta) h1.2 x1 x2) (fun t' ht hW => ?_) (fun q hq => hS.2.2 q hq) hd hlk
    unfold qc_of
    rw [e2]
    simp only
    rw [if_pos h1.1.2]
    exact ⟨⟨x, (ta, ws), rfl, ⟨hup, h3, hpo _ rfl⟩, hwq t' ht hW⟩, hS.F ht⟩
  · obtain ⟨ft, w0, t, v, e1, e2, rfl, h1, h2, h3⟩ := ck_one_ok hy h
    simp only [Bool.and_eq_true, decide_eq_true_eq] at h1
    obtain ⟨x, rfl, x1, x2⟩ := tv_long h2 h1.1.1
    refine W.lret X.1 X.2.1 (hrt.trans (by rw [e1, h1.2])) (fun t' ht hW => ?_) (fun q hq => hS.2.2 q hq) hd hlk
    unfold qc_of
    rw [e2]
    simp only
    rw [if_neg (by omega), if_pos h1.1.2]
    exact ⟨⟨x, (ta, ws), rfl, ⟨hup, h3, hpo _ rfl⟩, hwq t' ht hW⟩, hS.F ht⟩
  · obtain ⟨ft, w0, t, v, e1, e2, rfl, h1, h2, h3⟩ := ck_one_ok hy h
    simp only [Bool.and_eq_true, decide_eq_true_eq] at h1
    obtain ⟨a, r, rfl, _, _⟩ := tv_ref h2 h1.1.1
    have hft : (∃ n, ft = .object n) ∨ ∃ t, ft = .array t := by
      have h4 := h1.2
      unfold isRefT at h4
      split at h4
      · exact Or.inl ⟨_, rfl⟩
      · exact Or.inr ⟨_, rfl⟩
      · cases h4
    refine W.aret X.1 X.2.1 (hrt.trans e1) hft (Or.inr ⟨a, rfl⟩) (fun t' ht hW => ?_) (fun q hq => hS.2.2 q hq) hd hlk
    unfold qc_of
    rw [e2]
    simp only
    rw [if_neg (by omega), if_neg (by omega)]
    exact ⟨⟨(ta, ws), a, rfl, hup, ⟨h3, hpo _ rfl⟩, hwq t' ht hW⟩, hS.F ht⟩
  · cases h
end M15
/-! fields that a note names are read ahead of it -/
def fd_any (k : Nat) (g : rg_T) : Option tv_T := if 10 ≤ g.1 then g.2.2.2.2[k]? else none
def gh_one (G : List rg_T) (y : sy_T) (o k : Nat) : sy_T := match sy_mfind y o k with
  | some _ => y
  | none => (match y.1[o]? with
    | some t => if t.1 = 2 then (match rg_hull G (fd_any k) t.2.2.2 with
      | some w => (y.1 ++ [nrm w], y.2.1, y.2.2.1, ((o, k), y.1.length) :: y.2.2.2.1, y.2.2.2.2.1, if w.1 = 5 then (y.1.length, w.2.2.2.headD 1) :: y.2.2.2.2.2 else y.2.2.2.2.2)
      | none => y) else y
    | none => y)
theorem gh_one_ok {kA : Nat → ClassId} {G : List rg_T} {ta : Nat → Option Nat} {ws : va_W} {vs : List Value} {ls : Array Slot} {nL : Nat} {st : List Value} {y : sy_T} (hth : th_ok kA G ta ws) (hy : sy_ok ta ws vs ls nL st y) (o k : Nat) : ∃ vs', vs <+: vs' ∧ sy_ok ta ws vs' ls nL st (gh_one G y o k) := by
  unfold gh_one
  split
  · exact ⟨vs, List.prefix_refl _, hy⟩
  · split
    · rename_i t ht
      split
      · rename_i h2
        split
        · rename_i w hw
          have hlt := (List.getElem?_eq_some_iff.mp ht).1
          rw [← hy.1.1] at hlt
          have ho := List.getElem?_eq_getElem hlt
          obtain ⟨a, r, ea, h3, h4⟩ := tv_ref (hy.1.2 o t _ ht ho) h2
          obtain ⟨g, t2, g1, g2, g3⟩ := rg_hull_ok (ta := ta) hw h4
          obtain ⟨q0, e0, hq, hgo⟩ := th_at hth h3 g1
          unfold fd_any at g2
          split at g2
          · rename_i h10
            rcases hgo with ⟨z, _⟩ | ⟨z, _⟩ | ⟨_, z, _⟩ | ⟨_, fs, rfl, hlen, hfs⟩
            · omega
            · omega
            · omega
            · have hk := (List.getElem?_eq_some_iff.mp g2).1
              rw [← hlen] at hk
              have hv := List.getElem?_eq_getElem hk
              have hw2 : tv_ok ta w fs[k] := g3 _ (hfs k t2 _ g2 hv)
              have hnew : (vs ++ [fs[k]])[y.1.length]? = some fs[k] := by rw [← hy.1.1, List.getElem?_append_right (Nat.le_refl _), Nat.sub_self]; rfl
              refine ⟨vs ++ [fs[k]], List.prefix_append _ _, sy_env_app hy.1 (nrm_ok hw2), ⟨hy.2.1.1, hy.2.1.2.1, fun q hq2 => ?_⟩, sy_st_app hy.2.2.1, fun q hq2 => ?_, fun q hq2 => ?_, fun q hq2 => ?_⟩
              · obtain ⟨v, a1, a2⟩ := hy.2.1.2.2 q hq2; exact ⟨v, sy_app a1, a2⟩
              · rcases List.mem_cons.mp hq2 with rfl | hq2
                · exact ⟨a, g.1 - 10, fs, fs[k], by show (vs ++ _)[o]? = _; rw [← ea]; exact sy_app ho, List.mem_of_getElem? hq, hv, hnew⟩
                · obtain ⟨b1, ci, f2, v, a1, a2, a3, a4⟩ := hy.2.2.2.1 q hq2; exact ⟨b1, ci, f2, v, sy_app a1, a2, a3, sy_app a4⟩
              · obtain ⟨x, z, a1, a2, a3⟩ := hy.2.2.2.2.1 q hq2; exact ⟨x, z, sy_app a1, sy_app a2, a3⟩
              · have old : ∀ q ∈ y.2.2.2.2.2, sy_dv (vs ++ [fs[k]]) q := fun q hq2 => by obtain ⟨x, z, a1, a2⟩ := hy.2.2.2.2.2 q hq2; exact ⟨x, z, sy_app a1, a2⟩
                have hq3 : q ∈ (if w.1 = 5 then (y.1.length, w.2.2.2.headD 1) :: y.2.2.2.2.2 else y.2.2.2.2.2) := hq2
                split at hq3
                · rename_i h5
                  rcases List.mem_cons.mp hq3 with rfl | hq3
                  · obtain ⟨x, ex, _, _, q, hq⟩ := tv_div hw2 h5
                    exact ⟨x, q, by rw [← ex]; exact hnew, hq⟩
                  · exact old q hq3
                · exact old q hq3
          · cases g2
        · exact ⟨vs, List.prefix_refl _, hy⟩
      · exact ⟨vs, List.prefix_refl _, hy⟩
    · exact ⟨vs, List.prefix_refl _, hy⟩
def gh_all (G : List rg_T) (an : an_T) : sy_T → List ((Nat × Nat) × tv_T) → sy_T
  | y, [] => y
  | y, q :: r => gh_all G an (match (an.2.1[q.1.1]?).bind (fun z => sy_find y.2.1 z.1) with | some o => gh_one G y o q.1.2 | none => y) r
theorem gh_all_ok {kA : Nat → ClassId} {G : List rg_T} {ta : Nat → Option Nat} {ws : va_W} {ls : Array Slot} {nL : Nat} {st : List Value} {an : an_T} (hth : th_ok kA G ta ws) : ∀ {L : List ((Nat × Nat) × tv_T)} {vs : List Value} {y : sy_T}, sy_ok ta ws vs ls nL st y → ∃ vs', vs <+: vs' ∧ sy_ok ta ws vs' ls nL st (gh_all G an y L)
  | [], vs, y, h => ⟨vs, List.prefix_refl _, h⟩
  | q :: r, vs, y, h => by
    unfold gh_all
    split
    · rename_i o _
      obtain ⟨v1, p1, h1⟩ := gh_one_ok hth h o q.1.2
      obtain ⟨v2, p2, h2⟩ := gh_all_ok (an := an) hth (L := r) h1
      exact ⟨v2, p1.trans p2, h2⟩
    · exact gh_all_ok hth h
def chk (cc : ByteArray) (nL : Nat) (rt : Option FieldType) (en : en_T) (G : List rg_T) (FT : ft_L) (PT : pt_L) (CT : ct_L) (KT : kt_L) (AN : List an_T) (old : List me_T) : Nat → Bool → nx_T → Bool
  | 0, _, _ => false
  | f + 1, b, n => match (if b then AN.find? (fun a => a.1 == n.1) else none) with
    | some an => an_sub old an (gh_all G an n.2.1 an.2.2.2.2.2.2) n.2.2.1 n.2.2.2
    | none => match decode cc n.1 with
      | .ok (i, len) => (match nx nL en G FT PT CT KT n.1 i len n.2.1 n.2.2.1 n.2.2.2 with
        | some L => L.all (chk cc nL rt en G FT PT CT KT AN old f true)
        | none => ck_ret rt en i len n.2.1 n.2.2.1 n.2.2.2)
      | .error _ => false
section M16
variable {p : Program} {l : Launch} {e : Env} {s : State} {m : MethodId} {args : Array Value} {below : List Frame} {meth : Method} {c : Code} {cc : ByteArray} {nL : Nat} {v0 : List Value} {ta0 : Nat → Option Nat} {ws0 : va_W} {D : va_G} {kA : Nat → ClassId} {G : List rg_T} {ret : Option FieldType} {own nm : String} {en : en_T} {FT : ft_L} {PT : pt_L} {CT : ct_L} {KT : kt_L} {sz : Nat} {AN : List an_T} {old : List me_T} {av : List Value}
theorem chk_ok (hav : en.2.2.2.2.2.2 = [] ∨ (v0 = av ∧ av.length = en.1.length)) (htb : tb_ok l D kA G own FT PT CT KT) (X : cx p s m args meth c cc nL ret own nm) (hK : va_K D classes (TY kA) s) (hN : nst s) (hA : ∀ q, s.heap.size ≤ q → va_A ws0 sz q) (hold : ∀ o ∈ old, o.1 = 0 ∨ o.2.1 < v0.length)
    (hAN : ∀ an ∈ AN, ∀ (H : Heap) (locs : List Loc) (ws : va_W) (ta : Nat → Option Nat), ta_le ta0 ta → (en.2.2.1 = true → (ta, ws) = (ta0, ws0)) → va_P D classes ws H → va_D (va_A ws0 sz) ws → va_S (va_A ws0 sz) s.heap H locs → th_ok kA G ta ws → ∀ (vs : List Value) (ls : Array Slot) (st : List Value), sy_ok ta ws vs ls nL st (an_y an) → lx_lt (an.2.2.2.2.1.map (me_val vs)) (old.map (me_val v0)) → W p l e (rm_of en.2.2.2.1 en.2.2.2.2.1 en.2.2.2.2.2.1) s m args below meth c H locs an.2.2.2.1.1 an.2.2.2.1.2 (MQ below (qc_of D kA G en ta0 ws0 sz av) args s en.2.2.2.2.1 en.2.2.2.2.2.1 (va_A ws0 sz)) (F0 m an.1 ls st)) :
    ∀ (f : Nat) (b : Bool) (n : nx_T), chk cc nL ret en G FT PT CT KT AN old f b n = true → sy_J p l e s m args below meth c (MQ below (qc_of D kA G en ta0 ws0 sz av) args s en.2.2.2.2.1 en.2.2.2.2.2.1 (va_A ws0 sz)) D kA G (va_A ws0 sz) en ta0 ws0 nL v0 n := by
  intro f
  induction f with
  | zero => intro b n h; cases h
  | succ f ih =>
    intro b n h
    unfold chk at h
    split at h
    · rename_i an han
      have hmem : an ∈ AN ∧ an.1 = n.1 := by
        cases b with
        | false => cases han
        | true => exact ⟨List.mem_of_find?_eq_some han, by simpa using List.find?_some han⟩
      unfold an_sub at h
      simp only [Bool.and_eq_true, decide_eq_true_eq] at h
      obtain ⟨⟨⟨⟨⟨h0, h1⟩, h2⟩, h3⟩, h4⟩, h5⟩ := h
      intro H locs ws ta hle hpu hP hD hS hth vs ls st hp1 hy1
      obtain ⟨vs2, hpp, hy⟩ := gh_all_ok (an := an) (L := an.2.2.2.2.2.2) hth hy1
      have hp0 := hp1.trans hpp
      have := hAN an hmem.1 H locs ws ta hle hpu hP hD hS hth _ ls st (an_in hy h0 h1 h2) (me_chk_ok hy h1 hp0 hold h5)
      rw [hmem.2] at this
      exact W.widen h3 h4 this
    · split at h
      · rename_i i len hd
        split at h
        · rename_i L hL
          exact nx_ok htb X hK hN hA hd hL (fun n' hn' => ih true n' (List.all_eq_true.mp h n' hn'))
        · exact ck_ret_ok hav X hK hd h
      · cases h
end M16
def en_loc : List tv_T → Nat → Nat → List (Nat × Nat)
  | [], _, _ => []
  | t :: ts, j, k => (j, k) :: en_loc ts (if t.1 = 1 then j + 2 else j + 1) (k + 1)
def en_y (en : en_T) : sy_T := (en.1.map nrm, en_loc en.1 0 0, [], [], [], an_dv en.1 0)
def me_0 : me_T := (0, 0, 1000000)
def chk_all (cc : ByteArray) (nL : Nat) (rt : Option FieldType) (en : en_T) (G : List rg_T) (FT : ft_L) (PT : pt_L) (CT : ct_L) (KT : kt_L) (AN : List an_T) (K F : Nat) : Bool :=
  decide ((en.1.map (fun t => if t.1 = 1 then 2 else 1)).sum ≤ nL) &&
  (AN.isEmpty || en.2.2.2.2.2.2.isEmpty) && AN.all (fun an => decide (an.2.2.2.2.1.length = K) && an.2.2.2.2.1.all (fun o => decide (o.1 = 0) || decide (o.2.1 < (an_ts an).length)) && chk cc nL rt en G FT PT CT KT AN an.2.2.2.2.1 F false (an.1, an_y an, an.2.2.2.1.1, an.2.2.2.1.2)) &&
  chk cc nL rt en G FT PT CT KT AN (List.replicate K me_0) F true (0, en_y en, 0, 0)
theorem en_loc_ok {ta : Nat → Option Nat} {ls : Array Slot} {L : List Value} : ∀ {ts : List tv_T} {av pre : List Value} {j : Nat}, ag_ok ta ts av → L = pre ++ av → (∀ q ∈ lv_args j av, ls[q.1]? = some (.val q.2)) → ∀ q ∈ en_loc ts j pre.length, sy_loc L ls q
  | [], _, _, _, _, _, _, q, hq => by cases hq
  | t :: ts, [], _, _, h, _, _, q, hq => h.elim
  | t :: ts, v :: av, pre, j, h, e, hl, q, hq => by
    unfold en_loc at hq
    unfold lv_args at hl
    rcases List.mem_cons.mp hq with rfl | hq
    · exact ⟨v, by rw [e, List.getElem?_append_right (Nat.le_refl _), Nat.sub_self]; rfl, hl (j, v) List.mem_cons_self⟩
    · have e2 : L = (pre ++ [v]) ++ av := by rw [e, List.append_assoc]; rfl
      have ew : (if v.category = 2 then j + 2 else j + 1) = (if t.1 = 1 then j + 2 else j + 1) := by
        by_cases ht : t.1 = 1
        · rw [if_pos ht, if_pos ((tv_cat h.1).1 ht)]
        · rw [if_neg ht, if_neg (by rw [(tv_cat h.1).2 ht]; decide)]
      rw [ew] at hl
      refine en_loc_ok (pre := pre ++ [v]) h.2 e2 (fun q hq => hl q (List.mem_cons_of_mem _ hq)) q ?_
      rw [List.length_append]; exact hq
theorem en_len {ta : Nat → Option Nat} : ∀ {ts : List tv_T} {av : List Value}, ag_ok ta ts av → (lg_sl av).length = (ts.map (fun t => if t.1 = 1 then 2 else 1)).sum
  | [], [], _ => rfl
  | t :: ts, v :: av, h => by
    have ih := en_len h.2
    unfold lg_sl at ih ⊢
    rw [List.flatMap_cons, List.length_append, ih, List.map_cons, List.sum_cons]
    by_cases ht : t.1 = 1
    · rw [if_pos ht, if_pos ((tv_cat h.1).1 ht)]; rfl
    · rw [if_neg ht, if_neg (by rw [(tv_cat h.1).2 ht]; decide)]; rfl
  | [], _ :: _, h => h.elim
  | _ :: _, [], h => h.elim
/-- a method that the check passes keeps its contract -/
theorem chk_all_ok {l : Launch} {D : va_G} {kA : Nat → ClassId} {G : List rg_T} {y : MethodName} {cc : ByteArray} {nL : Nat} {rt : Option FieldType} {en : en_T} {FT : ft_L} {PT : pt_L} {CT : ct_L} {KT : kt_L} {AN : List an_T} (K F : Nat) (hy : plainName y.cls = true) (htb : tb_ok l D kA G y.cls FT PT CT KT) (h : chk_all cc nL rt en G FT PT CT KT AN K F = true) : ct_ok l D kA G y (Cond.code y cc nL rt :: lw_g) en := by
  intro sz ta0 ws0 av hth hag
  unfold chk_all at h
  simp only [Bool.and_eq_true, decide_eq_true_eq] at h
  obtain ⟨⟨⟨h0, hpe⟩, hall⟩, hent⟩ := h
  refine k_met hy rfl (by rw [en_len hag]; exact h0) (fun p e s m below meth c ls X hl hB => ?_)
  obtain ⟨hsz, hP, hK, hD, hN⟩ := hB
  have hA : ∀ q, s.heap.size ≤ q → va_A ws0 sz q := fun q hq => Or.inr (by omega)
  have hall2 := List.all_eq_true.mp hall
  -- every note, by what falls
  have main : ∀ v : List Nat, v.length = K → ∀ an ∈ AN, ∀ (H : Heap) (locs : List Loc) (ws : va_W) (ta : Nat → Option Nat), ta_le ta0 ta → (en.2.2.1 = true → (ta, ws) = (ta0, ws0)) → va_P D classes ws H → va_D (va_A ws0 sz) ws → va_S (va_A ws0 sz) s.heap H locs → th_ok kA G ta ws → ∀ (vs : List Value) (ls : Array Slot) (st : List Value), sy_ok ta ws vs ls nL st (an_y an) → an.2.2.2.2.1.map (me_val vs) = v → W p l e (rm_of en.2.2.2.1 en.2.2.2.2.1 en.2.2.2.2.2.1) s m av.toArray below meth c H locs an.2.2.2.1.1 an.2.2.2.1.2 (MQ below (qc_of D kA G en ta0 ws0 sz av) av.toArray s en.2.2.2.2.1 en.2.2.2.2.2.1 (va_A ws0 sz)) (F0 m an.1 ls st) := by
    refine lx_ind K _ (fun v hv ih => ?_)
    intro an han H locs ws ta a1 a2 a3 a4 a5 a6 vs ls st hs hm
    have hc := hall2 an han
    simp only [Bool.and_eq_true, decide_eq_true_eq] at hc
    obtain ⟨⟨c1, c2⟩, c3⟩ := hc
    have hvl : vs.length = (an_ts an).length := by
      have := hs.1.1
      rw [this]
      show ((an_ts an).map nrm).length = _
      rw [List.length_map]
    have hpa : en.2.2.2.2.2.2 = [] := by
      rcases Bool.or_eq_true_iff.mp hpe with q | q
      · rw [List.isEmpty_iff.mp q] at han; cases han
      · exact List.isEmpty_iff.mp q
    refine chk_ok (v0 := vs) (old := an.2.2.2.2.1) (av := av) (Or.inl hpa) htb X hK hN hA (fun o ho => ?_) (fun an' han' H' locs' ws' ta' b1 b2 b3 b4 b5 b6 vs' ls' st' hs' hlt => ?_) F false (an.1, an_y an, an.2.2.2.1.1, an.2.2.2.1.2) c3 H locs ws ta a1 a2 a3 a4 a5 a6 vs ls st (List.prefix_refl _) hs
    · have := List.all_eq_true.mp c2 o ho
      simp only [Bool.or_eq_true, decide_eq_true_eq] at this
      rw [hvl]; exact this
    · have hc' := hall2 an' han'
      simp only [Bool.and_eq_true, decide_eq_true_eq] at hc'
      rw [hm] at hlt
      exact ih _ (by rw [List.length_map]; exact hc'.1.1) hlt an' han' H' locs' ws' ta' b1 b2 b3 b4 b5 b6 vs' ls' st' hs' rfl
  have hse : sy_ok ta0 ws0 av ls nL [] (en_y en) := by
    refine ⟨⟨by show _ = (en.1.map nrm).length; rw [List.length_map]; exact ag_len hag, fun i t v e1 e2 => ?_⟩, ⟨hl.1, hl.2.1, ?_⟩, trivial, fun q hq => absurd hq List.not_mem_nil, fun q hq => absurd hq List.not_mem_nil, fun q hq => ?_⟩
    · have e1' : (en.1.map nrm)[i]? = some t := e1
      rw [List.getElem?_map] at e1'
      obtain ⟨t0, e3, e4⟩ := Option.map_eq_some_iff.mp e1'
      rw [← e4]
      exact nrm_ok (ag_at hag i t0 v e3 e2)
    · exact en_loc_ok (pre := []) hag rfl hl.2.2
    · obtain ⟨i, t, e1, e2, e3⟩ := an_dv_mem hq
      have hi := (List.getElem?_eq_some_iff.mp e1).1
      rw [← ag_len hag] at hi
      obtain ⟨x, ex, _, _, k, hk⟩ := tv_div (ag_at hag i t _ e1 (List.getElem?_eq_getElem hi)) e2
      refine ⟨x, k, ?_, by rw [e3]; exact hk⟩
      rw [e3]
      show av[0 + i]? = _
      rw [Nat.zero_add, List.getElem?_eq_getElem hi, ex]
  refine chk_ok (v0 := av) (old := List.replicate K me_0) (av := av) (Or.inr ⟨rfl, ag_len hag⟩) htb X hK hN hA (fun o ho => Or.inl (by rw [(List.mem_replicate.mp ho).2]; rfl)) (fun an' han' H' locs' ws' ta' b1 b2 b3 b4 b5 b6 vs' ls' st' hs' _ => ?_) F true (0, en_y en, 0, 0) hent s.heap [] ws0 ta0 (fun _ _ q => q) (fun _ => rfl) hP hD.self va_S.rf hth av ls [] (List.prefix_refl _) hse
  have hc' := hall2 an' han'
  simp only [Bool.and_eq_true, decide_eq_true_eq] at hc'
  exact main _ (by rw [List.length_map]; exact hc'.1.1) an' han' H' locs' ws' ta' b1 b2 b3 b4 b5 b6 vs' ls' st' hs' rfl
