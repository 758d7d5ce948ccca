/-! the check of a method -/
def rf_ok (ft : FieldType) (t : tv_T) : Bool := match ft with
  | .int => true
  | .boolean => decide (0 ≤ t.2.1) && decide (t.2.2.1 ≤ 1)
  | .byte => decide (-128 ≤ t.2.1) && decide (t.2.2.1 ≤ 127)
  | .char => decide (0 ≤ t.2.1) && decide (t.2.2.1 ≤ 65535)
  | _ => false
def isRefT (ft : FieldType) : Bool := match ft with
  | .object _ => true
  | .array _ => true
  | _ => false
def ck_one (rt : Option FieldType) (w : Option tv_T) (y : sy_T) (f : FieldType → tv_T → tv_T → Bool) : Bool := match rt, w, y.2.2.1 with
  | some ft, some w, [n] => (match y.1[n]? with | some t => f ft t w && nm_le y n w | none => false)
  | _, _, _ => false
/-- the picture at an end: of the first k names, of the answer and of the fields that the contract knows -/
def sl_ix (k : Nat) (sel : List Nat) (i : Nat) : Option Nat := if i < k then some i else (sel.findIdx? (fun j => j == i)).map (fun a => k + a)
def sl_of (k : Nat) (sel : List Nat) (q : of_T) : Option of_T := match sl_ix k sel q.1, sl_ix k sel q.2.1 with
  | some a, some b => some (a, b, q.2.2.1, q.2.2.2)
  | _, _ => none
def sl_dv (k : Nat) (sel : List Nat) (q : Nat × Nat) : Option (Nat × Nat) := (sl_ix k sel q.1).map (fun a => (a, q.2))
def sl_mm (k : Nat) (sel : List Nat) (y : sy_T) (q : (Nat × Nat) × tv_T) : Option ((Nat × Nat) × Nat) := if q.1.1 < k then (sy_mfind y q.1.1 q.1.2).bind (fun n => (sl_ix k sel n).map (fun a => (q.1, a))) else none
def sl_add (k : Nat) (sel : List Nat) (n : Option Nat) : List Nat := match n with
  | some n => if n < k || sel.contains n then sel else sel ++ [n]
  | none => sel
def sl_sel (k : Nat) (y : sy_T) (GA : ga_L) : List Nat := GA.foldl (fun sel q => sl_add k sel (sy_mfind y q.1.1 q.1.2)) (sl_add k [] y.2.2.1.head?)
def sl_st (k : Nat) (sel : List Nat) : List Nat → Option (List Nat)
  | [] => some []
  | n :: r => match sl_ix k sel n, sl_st k sel r with
    | some a, some l => some (a :: l)
    | _, _ => none
def sl_y (k : Nat) (GA : ga_L) (y : sy_T) : Option sy_T :=
  let sel := sl_sel k y GA
  if sel.all (fun i => decide (i < y.1.length)) then (sl_st k sel y.2.2.1).map (fun st => (y.1.take k ++ sel.map (fun i => y.1.getD i iv_top), [], st, GA.filterMap (sl_mm k sel y), y.2.2.2.2.1.filterMap (sl_of k sel), y.2.2.2.2.2.filterMap (sl_dv k sel))) else none
def en_nb (en : en_T) : Nat := en.1.length + en.2.2.2.2.2.2.2.1.length + en.2.2.2.2.2.2.2.2.2.2.2.2.length
def pa_in (en : en_T) (y : sy_T) : Bool := en.2.2.2.2.2.2.1.isEmpty || (match sl_y (en_nb en) en.2.2.2.2.2.2.2.1 y with | some P => en.2.2.2.2.2.2.1.contains P | none => false)
theorem sl_st_ok {k : Nat} {sel : List Nat} {vs vl : List Value} (hf : ∀ i a w, sl_ix k sel i = some a → vs[i]? = some w → vl[a]? = some w) : ∀ {r l : List Nat} {st : List Value}, sl_st k sel r = some l → sy_st vs r st → sy_st vl l st
  | [], l, [], h, _ => by rw [← Option.some.inj h]; trivial
  | n :: r, l, v :: st, h, hs => by
    unfold sl_st at h
    split at h
    · rename_i a l0 ha hl
      rw [← Option.some.inj h]
      exact ⟨hf _ _ _ ha hs.1, sl_st_ok hf hl hs.2⟩
    · cases h
  | [], _, _ :: _, _, hs => hs.elim
  | _ :: _, _, [], _, hs => hs.elim
theorem pa_in_ok {ta : Nat → Option Nat} {ws : va_W} {vs bv st : List Value} {ls : Array Slot} {nL : Nat} {r : Option Value} {y : sy_T} {en : en_T} (hy : sy_ok ta ws vs ls nL st y) (hst : st = r.toList) (hp : bv <+: vs) (hl : bv.length = en_nb en) (h : pa_in en y = true) (hPO : ∀ f ∈ en.2.2.2.2.2.2.2.2.2.2.2.1, fc_1 f ws (bv ++ r.toList)) : po_ok ta ws bv en.2.2.2.2.2.2.1 en.2.2.2.2.2.2.2.2.2.2.2.1 r := by
  refine ⟨hPO, ?_⟩
  clear hPO
  unfold pa_in at h
  rcases Bool.or_eq_true_iff.mp h with h | h
  · exact Or.inl (List.isEmpty_iff.mp h)
  · split at h
    · rename_i P hP
      refine Or.inr ⟨P, List.contains_iff_mem.mp h, ?_⟩
      generalize en_nb en = k at hl hP
      unfold sl_y at hP
      simp only at hP
      split at hP
      · rename_i hall
        obtain ⟨st', hst', rfl⟩ := Option.map_eq_some_iff.mp hP
        generalize sl_sel k y en.2.2.2.2.2.2.2.1 = sel at hall hst' ⊢
        obtain ⟨tl, rfl⟩ := hp
        have he := hy.1
        have hlen : (bv ++ tl).length = y.1.length := he.1
        have hk : k ≤ y.1.length := by rw [List.length_append] at hlen; omega
        have hsel : ∀ i ∈ sel, i < y.1.length := fun i hi => by simpa using List.all_eq_true.mp hall i hi
        have hf : ∀ i a w, sl_ix k sel i = some a → (bv ++ tl)[i]? = some w → (bv ++ sel.map (fun i => ((bv ++ tl)[i]?).getD .null))[a]? = some w := fun i a w h1 h2 => by
          unfold sl_ix at h1
          split at h1
          · rename_i hi
            rw [← Option.some.inj h1, List.getElem?_append_left (by omega)]
            rw [List.getElem?_append_left (by omega)] at h2
            exact h2
          · obtain ⟨x, hx, rfl⟩ := Option.map_eq_some_iff.mp h1
            obtain ⟨hx1, hx2, _⟩ := List.findIdx?_eq_some_iff_getElem.mp hx
            have hx3 : sel[x] = i := by simpa using hx2
            rw [List.getElem?_append_right (by omega), show k + x - bv.length = x by omega, List.getElem?_map, List.getElem?_eq_getElem hx1, hx3, Option.map_some, h2]; rfl
        refine ⟨bv ++ sel.map (fun i => ((bv ++ tl)[i]?).getD .null), List.prefix_append _ _, ?_, fun q hq => ?_, fun q hq => ?_, fun q hq => ?_, ?_⟩
        · have h1 : sy_env ta (y.1.take k) bv := by
            refine ⟨by rw [List.length_take]; omega, fun i t v a b => ?_⟩
            have hi := (List.getElem?_eq_some_iff.mp b).1
            rw [List.getElem?_take_of_lt (by omega)] at a
            exact he.2 i t v a (by rw [List.getElem?_append_left hi]; exact b)
          refine sy_env_drop h1 ⟨by rw [List.length_map, List.length_map], fun i t v a b => ?_⟩
          rw [List.getElem?_map] at a b
          obtain ⟨j, hj, e1⟩ := Option.map_eq_some_iff.mp a
          obtain ⟨j', hj', e2⟩ := Option.map_eq_some_iff.mp b
          rw [hj] at hj'
          obtain rfl := Option.some.inj hj'
          have hlt := hsel j (List.mem_of_getElem? hj)
          have hlt2 : j < (bv ++ tl).length := by omega
          rw [List.getD_eq_getElem?_getD, List.getElem?_eq_getElem hlt] at e1
          rw [List.getElem?_eq_getElem hlt2] at e2
          have e1' : y.1[j] = t := e1
          have e2' : (bv ++ tl)[j] = v := e2
          rw [← e1', ← e2']
          exact he.2 j _ _ (List.getElem?_eq_getElem hlt) (List.getElem?_eq_getElem hlt2)
        · obtain ⟨q0, q1, q2⟩ := List.mem_filterMap.mp hq
          unfold sl_of at q2
          split at q2
          · rename_i a b ha hb
            obtain rfl := Option.some.inj q2
            obtain ⟨x, z, c1, c2, c3, c4⟩ := hy.2.2.2.2.1 q0 q1
            exact ⟨x, z, hf _ _ _ ha c1, hf _ _ _ hb c2, c3, c4⟩
          · cases q2
        · obtain ⟨q0, q1, q2⟩ := List.mem_filterMap.mp hq
          obtain ⟨a, ha, rfl⟩ := Option.map_eq_some_iff.mp q2
          obtain ⟨x, z, c1, c2⟩ := hy.2.2.2.2.2 q0 q1
          exact ⟨x, z, hf _ _ _ ha c1, c2⟩
        · obtain ⟨q0, q1, q2⟩ := List.mem_filterMap.mp hq
          unfold sl_mm at q2
          split at q2
          · rename_i hlt
            obtain ⟨n, hn, q3⟩ := Option.bind_eq_some_iff.mp q2
            obtain ⟨a, ha, rfl⟩ := Option.map_eq_some_iff.mp q3
            obtain ⟨ad, ci, fs, v, m1, m2, m3, m4⟩ := hy.2.2.2.1 _ (sy_mfind_ok hn)
            refine ⟨ad, ci, fs, v, ?_, m2, m3, hf _ _ _ ha m4⟩
            exact hf q0.1.1 q0.1.1 _ (by unfold sl_ix; rw [if_pos hlt]) m1
          · cases q2
        · rw [← hst]
          exact sl_st_ok hf hst' hy.2.2.1
      · cases hP
    · cases h
/-- the facts that are given at the end -/
def rt_nm (nb : Nat) (y : sy_T) (k : Nat) : Nat := if k < nb then k else y.2.2.1.headD 0
def po_in (en : en_T) (y : sy_T) (fs : List fc_T) : Bool := en.2.2.2.2.2.2.2.2.2.2.2.1.all (fun f => f.2.1.all (fun k => decide (k < en_nb en + y.2.2.1.length)) && (fc_now fs).contains (fc_map (rt_nm (en_nb en) y) f))
theorem po_in_ok {ta : Nat → Option Nat} {ws : va_W} {vs bv st : List Value} {ls : Array Slot} {nL : Nat} {r : Option Value} {y : sy_T} {en : en_T} {fs : List fc_T} (hy : sy_ok ta ws vs ls nL st y) (hf : fc_ok fs ta ws vs) (hst : st = r.toList) (hp : bv <+: vs) (hl : bv.length = en_nb en) (h : po_in en y fs = true) : ∀ f ∈ en.2.2.2.2.2.2.2.2.2.2.2.1, fc_1 f ws (bv ++ r.toList) := by
  intro f hf2
  have h1 := List.all_eq_true.mp h f hf2
  rw [Bool.and_eq_true] at h1
  obtain ⟨_, h3⟩ := fc_now_ok hf _ (List.contains_iff_mem.mp h1.2)
  have hs := hy.2.2.1
  have hls : y.2.2.1.length = st.length := (n_v_st hs).1
  refine fc_1_unmap (fun n hn0 _ => ?_) h3
  have hb : n < en_nb en + y.2.2.1.length := by simpa using List.all_eq_true.mp h1.1 n hn0
  refine ⟨by rw [List.length_append, ← hst]; omega, ?_⟩
  unfold rt_nm
  by_cases hn : n < en_nb en
  · rw [if_pos hn]
    have hv := List.getElem?_eq_getElem (l := bv) (i := n) (by omega)
    unfold n_v
    rw [pre_at hp hv, List.getElem?_append_left (by omega), hv]
  · rw [if_neg hn]
    cases hyy : y.2.2.1 with
    | nil => rw [hyy] at hb; exact absurd hb (by rw [List.length_nil]; omega)
    | cons q rr =>
      cases r with
      | none => rw [hyy] at hs; rw [hst] at hs; exact hs.elim
      | some v =>
        rw [hyy, hst] at hs
        have hq : vs[q]? = some v := hs.1
        have h1l : y.2.2.1.length = 1 := by rw [hls, hst]; rfl
        have en1 : n = bv.length := by omega
        show n_v vs q = n_v (bv ++ [v]) n
        unfold n_v
        rw [hq, en1, List.getElem?_append_right (Nat.le_refl _), Nat.sub_self]; rfl
def ck_ret (rt : Option FieldType) (en : en_T) (i : ClassFile.Instr) (len : Nat) (y : sy_T) (ce sl : Nat) (fs : List fc_T) : Bool := decide (len = 1) && decide (ce ≤ en.2.2.2.2.1) && decide (sl ≤ en.2.2.2.2.2.1) && pa_in en y && po_in en y fs && (match i with
  | .return_ => (match rt, en.2.1, y.2.2.1 with | none, none, [] => true | _, _, _ => false)
  | .ireturn => ck_one rt en.2.1 y (fun ft t w => decide (t.1 = 0) && (decide (w.1 = 0) || decide (w.1 = 5)) && rf_ok ft t)
  | .lreturn => ck_one rt en.2.1 y (fun ft t w => decide (t.1 = 1) && decide (w.1 = 1) && decide (ft = .long))
  | .areturn => ck_one rt en.2.1 y (fun ft t w => decide (t.1 = 2) && decide (w.1 = 2) && isRefT ft)
  | _ => false)
theorem ck_one_ok {ta : Nat → Option Nat} {ws : va_W} {vs : List Value} {ls : Array Slot} {nL : Nat} {st : List Value} {y : sy_T} (hy : sy_ok ta ws vs ls nL st y) {rt : Option FieldType} {w : Option tv_T} {f : FieldType → tv_T → tv_T → Bool} (h : ck_one rt w y f = true) : ∃ ft w0 t v, rt = some ft ∧ w = some w0 ∧ st = [v] ∧ f ft t w0 = true ∧ tv_ok ta t v ∧ tv_ok ta w0 v := by
  unfold ck_one at h
  have hs := hy.2.2.1
  split at h
  · rename_i ft w0 n e
    rw [e] at hs
    split at h
    · rename_i t ht
      rw [Bool.and_eq_true] at h
      obtain ⟨v, rest, rfl, h1, h2, h3⟩ := sy_one hy.1 hs ht
      cases rest with
      | nil => exact ⟨ft, w0, t, v, rfl, rfl, rfl, h.1, h2, nm_le_ok hy h1 h.2⟩
      | cons _ _ => exact h3.elim
    · cases h
  · cases h
theorem rf_nar {ta : Nat → Option Nat} {ft : FieldType} {t : tv_T} {x : Int32} (h : rf_ok ft t = true) (h1 : t.2.1 ≤ x.toInt) (h2 : x.toInt ≤ t.2.2.1) : narrow ft (.int x) = .int x := by
  unfold rf_ok at h
  split at h
  · rfl
  · simp only [Bool.and_eq_true, decide_eq_true_eq] at h
    have h3 : x.toInt = 0 ∨ x.toInt = 1 := by omega
    rcases h3 with h3 | h3
    · have : x = 0 := Int32.toInt_inj.mp (h3.trans (by decide)); subst this; rfl
    · have : x = 1 := Int32.toInt_inj.mp (h3.trans (by decide)); subst this; rfl
  · simp only [Bool.and_eq_true, decide_eq_true_eq] at h
    have e : x.toInt8.toInt32.toInt = x.toInt := by
      rw [Int8.toInt_toInt32, Int32.toInt_toInt8]
      exact Int.bmod_eq_of_le_mul_two (by show -(256 : Int) ≤ _; omega) (by show _ < (256 : Int); omega)
    show Value.int x.toInt8.toInt32 = .int x
    rw [Int32.toInt_inj.mp e]
  · simp only [Bool.and_eq_true, decide_eq_true_eq] at h
    obtain ⟨e1, _⟩ := nn_nat (x := x) (by omega)
    have e2 : x.toBitVec.toNat < 65536 := by omega
    show Value.int x.toUInt32.toUInt16.toUInt32.toInt32 = .int x
    congr 1
    apply Int32.toBitVec_inj.mp
    apply BitVec.eq_of_toNat_eq
    show (x.toBitVec.setWidth 16 |>.setWidth 32).toNat = x.toBitVec.toNat
    rw [BitVec.toNat_setWidth, BitVec.toNat_setWidth]
    omega
  · cases h
section M15
variable {p : Program} {l : Launch} {e : Env} {s : State} {m : MethodId} {args : Array Value} {below : List Frame} {meth : Method} {c : Code} {cc : ByteArray} {pc : Nat} {i : ClassFile.Instr} {len nL : Nat} {v0 : List Value} {ta0 : Nat → Option Nat} {ws0 : va_W} {y : sy_T} {D : va_G} {kA : Nat → ClassId} {G : List rg_T} {ret : Option FieldType} {own nm : String} {en : en_T} {ce sl sz : Nat}
theorem ck_ret_ok {av : List Value} {fs : List fc_T} (hav : (en.2.2.2.2.2.2.1 = [] ∧ en.2.2.2.2.2.2.2.2.2.2.2.1 = []) ∨ (av <+: v0 ∧ av.length = en_nb en)) (X : cx p s m args meth c cc nL ret own nm) (hK : va_K D classes (TY kA) s) (hd : decode cc pc = .ok (i, len)) (h : ck_ret ret en i len y ce sl fs = true) : sy_J p l e s m args below meth c (MQ below (qc_of D kA G en ta0 ws0 sz av) args s en.2.2.2.2.1 en.2.2.2.2.2.1 (va_A ws0 sz)) D kA G (va_A ws0 sz) en ta0 ws0 nL v0 (pc, y, ce, sl, fs) := by
  intro H locs ws ta hle hpu hkp hP hD hS hth vs ls st hp0 hy hf
  unfold ck_ret at h
  simp only [Bool.and_eq_true, decide_eq_true_eq] at h
  obtain ⟨⟨⟨⟨⟨rfl, hce⟩, hsl⟩, hpa⟩, hpi⟩, h⟩ := h
  have hpo : ∀ r : Option Value, st = r.toList → po_ok ta ws av en.2.2.2.2.2.2.1 en.2.2.2.2.2.2.2.2.2.2.2.1 r := fun r hv => by
    rcases hav with hav | hav
    · exact ⟨fun f hf2 => (by rw [hav.2] at hf2; cases hf2), Or.inl hav.1⟩
    · exact pa_in_ok hy hv (hav.1.trans hp0) hav.2 hpa (po_in_ok hy hf hv (hav.1.trans hp0) hav.2 hpi)
  have hup : up_ok kA G ta0 ws0 en.2.2.1 en.2.2.2.2.2.2.2.2 (ta, ws) := ⟨hle, hth, hpu, hkp⟩
  have hwq : ∀ t : State, t.heap = H → s.WarmedH t.vm → wq D classes (TY kA) (va_A ws0 sz) ws t := fun t ht hW => ⟨by rw [ht]; exact hP, va_K.moved hW.alike hK, hD⟩
  have hlk := X.2.2.2.2.2.2.1
  have hrt := X.2.2.2.2.2.1
  refine W.widen hce hsl ?_
  split at h
  · split at h
    · rename_i e1 e2 e3
      have hs := hy.2.2.1
      rw [e3] at hs
      cases st with
      | cons _ _ => exact hs.elim
      | nil =>
        refine W.vret X.1 X.2.1 hrt (fun t ht hW => ?_) (fun q hq => hS.2.2 q hq) hd hlk
        unfold qc_of
        rw [e2]
        exact ⟨⟨(ta, ws), rfl, ⟨hup, hpo none rfl⟩, hwq t ht hW⟩, hS.F ht⟩
    · cases h
  · obtain ⟨ft, w0, t, v, e1, e2, rfl, h1, h2, h3⟩ := ck_one_ok hy h
    simp only [Bool.and_eq_true, Bool.or_eq_true, decide_eq_true_eq] at h1
    obtain ⟨x, rfl, x1, x2⟩ := tv_int h2 h1.1.1
    refine W.zret X.1 X.2.1 (hrt.trans e1) (rf_nar (ta := ta) h1.2 x1 x2) (fun t' ht hW => ?_) (fun q hq => hS.2.2 q hq) hd hlk
    unfold qc_of
    rw [e2]
    simp only
    rw [if_pos h1.1.2]
    exact ⟨⟨x, (ta, ws), rfl, ⟨hup, h3, hpo (some _) rfl⟩, hwq t' ht hW⟩, hS.F ht⟩
  · obtain ⟨ft, w0, t, v, e1, e2, rfl, h1, h2, h3⟩ := ck_one_ok hy h
    simp only [Bool.and_eq_true, decide_eq_true_eq] at h1
    obtain ⟨x, rfl, x1, x2⟩ := tv_long h2 h1.1.1
    refine W.lret X.1 X.2.1 (hrt.trans (by rw [e1, h1.2])) (fun t' ht hW => ?_) (fun q hq => hS.2.2 q hq) hd hlk
    unfold qc_of
    rw [e2]
    simp only
    rw [if_neg (by omega), if_pos h1.1.2]
    exact ⟨⟨x, (ta, ws), rfl, ⟨hup, h3, hpo (some _) rfl⟩, hwq t' ht hW⟩, hS.F ht⟩
  · obtain ⟨ft, w0, t, v, e1, e2, rfl, h1, h2, h3⟩ := ck_one_ok hy h
    simp only [Bool.and_eq_true, decide_eq_true_eq] at h1
    obtain ⟨a, r, rfl, _, _⟩ := tv_ref h2 h1.1.1
    have hft : (∃ n, ft = .object n) ∨ ∃ t, ft = .array t := by
      have h4 := h1.2
      unfold isRefT at h4
      split at h4
      · exact Or.inl ⟨_, rfl⟩
      · exact Or.inr ⟨_, rfl⟩
      · cases h4
    refine W.aret X.1 X.2.1 (hrt.trans e1) hft (Or.inr ⟨a, rfl⟩) (fun t' ht hW => ?_) (fun q hq => hS.2.2 q hq) hd hlk
    unfold qc_of
    rw [e2]
    simp only
    rw [if_neg (by omega), if_neg (by omega)]
    exact ⟨⟨(ta, ws), a, rfl, hup, ⟨h3, hpo (some _) rfl⟩, hwq t' ht hW⟩, hS.F ht⟩
  · cases h
end M15
def gh_all (G : List rg_T) (an : an_T) : sy_T → List ((Nat × Nat) × tv_T) → sy_T
  | y, [] => y
  | y, q :: r => gh_all G an (match (an.2.1[q.1.1]?).bind (fun z => sy_find y.2.1 z.1) with | some o => gh_one G y o q.1.2 | none => y) r
theorem gh_all_ok {kA : Nat → ClassId} {G : List rg_T} {ta : Nat → Option Nat} {ws : va_W} {ls : Array Slot} {nL : Nat} {st : List Value} {an : an_T} (hth : th_ok kA G ta ws) : ∀ {L : List ((Nat × Nat) × tv_T)} {vs : List Value} {y : sy_T}, sy_ok ta ws vs ls nL st y → ∃ vs', vs <+: vs' ∧ sy_ok ta ws vs' ls nL st (gh_all G an y L)
  | [], vs, y, h => ⟨vs, List.prefix_refl _, h⟩
  | q :: r, vs, y, h => by
    unfold gh_all
    split
    · rename_i o _
      obtain ⟨v1, p1, h1⟩ := gh_one_ok hth h o q.1.2
      obtain ⟨v2, p2, h2⟩ := gh_all_ok (an := an) hth (L := r) h1
      exact ⟨v2, p1.trans p2, h2⟩
    · exact gh_all_ok hth h
/-! oracles: (place, how many names, kinds wanted, facts wanted, kinds given, kinds of new names, facts given, distances given, distances wanted) -/
abbrev or_T : Type := Nat × Nat × List (Nat × tv_T) × List fc_T × List (Nat × tv_T) × List tv_T × List fc_T × List of_T × List of_T
def or_ok (kA : Nat → ClassId) (G : List rg_T) (o : or_T) : Prop := ∀ (A : Nat → Prop) (ta : Nat → Option Nat) (ws : va_W) (vs : List Value), va_D A ws → th_ok kA G ta ws → vs.length = o.2.1 → (∀ q ∈ o.2.2.1, tv_ok ta q.2 (n_v vs q.1)) → (∀ q ∈ o.2.2.2.2.2.2.2.2, n_iv vs q.2.1 + q.2.2.1 ≤ n_iv vs q.1 ∧ n_iv vs q.1 ≤ n_iv vs q.2.1 + q.2.2.2) → fc_ok o.2.2.2.1 ta ws vs →
  (∀ q ∈ o.2.2.2.2.1, tv_ok ta q.2 (n_v vs q.1)) ∧ ∃ xs : List Value, ag_ok ta o.2.2.2.2.2.1 xs ∧ (∀ f ∈ o.2.2.2.2.2.2.1, f.1 < 100 ∧ fc_1 f ws (vs ++ xs)) ∧ ∀ q ∈ o.2.2.2.2.2.2.2.1, sy_ofs (vs ++ xs) q
def or_ds (y : sy_T) (q : of_T) : Bool := match y.1[q.1]?, y.1[q.2.1]? with
  | some t, some u => decide (t.1 = 0) && decide (u.1 = 0) && decide (-4294967296 ≤ q.2.2.1) && decide (q.2.2.2 ≤ 4294967296) && rl_ok y q.1 q.2.1 q.2.2.1 q.2.2.2
  | _, _ => false
theorem or_ds_ok {ta : Nat → Option Nat} {ws : va_W} {vs : List Value} {ls : Array Slot} {nL : Nat} {st : List Value} {y : sy_T} (hy : sy_ok ta ws vs ls nL st y) {q : of_T} (h : or_ds y q = true) : n_iv vs q.2.1 + q.2.2.1 ≤ n_iv vs q.1 ∧ n_iv vs q.1 ≤ n_iv vs q.2.1 + q.2.2.2 := by
  unfold or_ds at h
  split at h
  · rename_i t u ht hu
    simp only [Bool.and_eq_true, decide_eq_true_eq] at h
    obtain ⟨⟨⟨⟨h1, h2⟩, h3⟩, h4⟩, h5⟩ := h
    have ln := (List.getElem?_eq_some_iff.mp ht).1
    have lm := (List.getElem?_eq_some_iff.mp hu).1
    rw [← hy.1.1] at ln lm
    obtain ⟨x, ex, _, _⟩ := tv_int (hy.1.2 _ t _ ht (List.getElem?_eq_getElem ln)) h1
    obtain ⟨z, ez, _, _⟩ := tv_int (hy.1.2 _ u _ hu (List.getElem?_eq_getElem lm)) h2
    have vn : vs[q.1]? = some (.int x) := by rw [List.getElem?_eq_getElem ln, ex]
    have vm : vs[q.2.1]? = some (.int z) := by rw [List.getElem?_eq_getElem lm, ez]
    have key := rl_ok_ok hy vn vm h5
    rw [n_iv_of vn, n_iv_of vm]
    have x1 := x.le_toInt
    have x2 := x.toInt_lt
    have z1 := z.le_toInt
    have z2 := z.toInt_lt
    show z.toInt + q.2.2.1 ≤ x.toInt ∧ x.toInt ≤ z.toInt + q.2.2.2
    omega
  · cases h
/-- what the picture remembers of fields, as facts -/
def mm_fs (y : sy_T) : List fc_T := y.2.2.2.1.map (fun q => (9, [q.2, q.1.1], [((q.1.2 : Nat) : Int)]))
theorem mm_fs_ok {A : Nat → Prop} {ta : Nat → Option Nat} {ws : va_W} {vs : List Value} {ls : Array Slot} {nL : Nat} {st : List Value} {y : sy_T} (hD : va_D A ws) (hy : sy_ok ta ws vs ls nL st y) : ∀ f ∈ mm_fs y, f.1 < 100 ∧ fc_1 f ws vs := by
  intro f hf
  obtain ⟨q, hq, rfl⟩ := List.mem_map.mp hf
  obtain ⟨ad, ci, fs, v, m1, m2, m3, m4⟩ := hy.2.2.2.1 q hq
  refine ⟨by simp, n2 (n_lt m4) (n_lt m1), ?_⟩
  show n_v vs q.2 = w_fd ws (n_ad vs q.1.1) (((q.1.2 : Nat) : Int)).toNat
  rw [n_v_of m4, n_ad_of m1, Int.toNat_natCast]
  unfold w_fd
  rw [w_at_mem hD m2]
  simp only
  rw [List.getD_eq_getElem?_getD, m3]; rfl
def or_ap (o : or_T) (y : sy_T) (fs : List fc_T) : Option (sy_T × List fc_T) := if decide (y.1.length = o.2.1) && o.2.2.1.all (fun q => nm_le y q.1 q.2) && fc_sub o.2.2.2.1 (mm_fs y ++ fs) && o.2.2.2.2.2.2.2.2.all (or_ds y) then some ((o.2.2.2.2.1.foldl (fun e q => e.set q.1 q.2) y.1 ++ o.2.2.2.2.2.1, y.2.1, y.2.2.1, y.2.2.2.1, o.2.2.2.2.2.2.2.1 ++ y.2.2.2.2.1, y.2.2.2.2.2), o.2.2.2.2.2.2.1 ++ fs) else none
theorem en_sets_ok {ta : Nat → Option Nat} {vs : List Value} : ∀ {L : List (Nat × tv_T)} {env : List tv_T}, (∀ q ∈ L, tv_ok ta q.2 (n_v vs q.1)) → sy_env ta env vs → sy_env ta (L.foldl (fun e q => e.set q.1 q.2) env) vs
  | [], _, _, h => h
  | q :: L, env, hL, h => by
    refine en_sets_ok (L := L) (fun q' hq' => hL q' (List.mem_cons_of_mem _ hq')) ⟨by rw [List.length_set]; exact h.1, fun i t v h1 h2 => ?_⟩
    have h1' : (env.set q.1 q.2)[i]? = some t := h1
    clear h1
    have h1 := h1'
    by_cases e : q.1 = i
    · have hi : i < env.length := by rw [← h.1]; exact (List.getElem?_eq_some_iff.mp h2).1
      rw [e, List.getElem?_set_self hi] at h1
      have := hL q List.mem_cons_self
      rw [e, n_v_of h2] at this
      rw [← Option.some.inj h1]; exact this
    · rw [List.getElem?_set_ne e] at h1
      exact h.2 i t v h1 h2
theorem sy_ext {ta : Nat → Option Nat} {ws : va_W} {ls : Array Slot} {nL : Nat} {st : List Value} : ∀ {ks : List tv_T} {xs vs : List Value} {y : sy_T}, sy_ok ta ws vs ls nL st y → ag_ok ta ks xs → sy_ok ta ws (vs ++ xs) ls nL st (y.1 ++ ks, y.2)
  | [], [], vs, y, h, _ => by rw [List.append_nil, List.append_nil]; exact h
  | k :: ks, x :: xs, vs, y, h, hx => by
    have h1 : sy_ok ta ws (vs ++ [x]) ls nL st (y.1 ++ [k], y.2) := by
      have := sy_pushed h h.2.2.1 hx.1
      exact ⟨this.1, this.2.1, sy_st_app h.2.2.1, this.2.2.2⟩
    have h2 := sy_ext (ks := ks) (xs := xs) h1 hx.2
    rw [List.append_assoc, List.append_assoc] at h2
    exact h2
  | [], _ :: _, _, _, _, hx => hx.elim
  | _ :: _, [], _, _, _, hx => hx.elim
theorem or_ap_ok {kA : Nat → ClassId} {G : List rg_T} {o : or_T} {A : Nat → Prop} {ta : Nat → Option Nat} {ws : va_W} {vs : List Value} {ls : Array Slot} {nL : Nat} {st : List Value} {y z : sy_T} {fs gs : List fc_T} (ho : or_ok kA G o) (hD : va_D A ws) (hth : th_ok kA G ta ws) (hy : sy_ok ta ws vs ls nL st y) (hf : fc_ok fs ta ws vs) (h : or_ap o y fs = some (z, gs)) : ∃ vs', vs <+: vs' ∧ sy_ok ta ws vs' ls nL st z ∧ fc_ok gs ta ws vs' := by
  unfold or_ap at h
  split at h
  · rename_i hk
    simp only [Bool.and_eq_true, decide_eq_true_eq] at hk
    obtain ⟨⟨⟨k1, k2⟩, k3⟩, k4⟩ := hk
    cases h
    obtain ⟨h1, xs, h2, h3, h9⟩ := ho A ta ws vs hD hth (by rw [hy.1.1]; exact k1) (fun q hq => by
      have hq2 := List.all_eq_true.mp k2 q hq
      obtain ⟨v, hv⟩ := sy_has hy.1 hq2
      rw [n_v_of hv]
      exact nm_le_ok hy hv hq2) (fun q hq => or_ds_ok hy (List.all_eq_true.mp k4 q hq)) (fc_sub_ok k3 (fc_app hf (mm_fs_ok hD hy)))
    have h8 := sy_ext (y := (o.2.2.2.2.1.foldl (fun e q => e.set q.1 q.2) y.1, y.2)) ⟨en_sets_ok h1 hy.1, hy.2⟩ h2
    refine ⟨vs ++ xs, List.prefix_append _ _, ⟨h8.1, h8.2.1, h8.2.2.1, h8.2.2.2.1, fun q hq => ?_, h8.2.2.2.2.2⟩, fc_app (fc_pre (List.prefix_append _ _) hf) h3⟩
    rcases List.mem_append.mp hq with hq | hq
    · exact h9 q hq
    · exact h8.2.2.2.2.1 q hq
  · cases h
def or_go (pc : Nat) : List or_T → sy_T → List fc_T → sy_T × List fc_T
  | [], y, fs => (y, fs)
  | o :: r, y, fs => if o.1 = pc then (match or_ap o y fs with
    | some z => or_go pc r z.1 z.2
    | none => or_go pc r y fs) else or_go pc r y fs
theorem or_go_ok {kA : Nat → ClassId} {G : List rg_T} {pc : Nat} {A : Nat → Prop} {ta : Nat → Option Nat} {ws : va_W} {ls : Array Slot} {nL : Nat} {st : List Value} (hD : va_D A ws) (hth : th_ok kA G ta ws) : ∀ {OT : List or_T} {vs : List Value} {y : sy_T} {fs : List fc_T}, (∀ o ∈ OT, or_ok kA G o) → sy_ok ta ws vs ls nL st y → fc_ok fs ta ws vs → ∃ vs', vs <+: vs' ∧ sy_ok ta ws vs' ls nL st (or_go pc OT y fs).1 ∧ fc_ok (or_go pc OT y fs).2 ta ws vs'
  | [], vs, y, fs, _, hy, hf => ⟨vs, List.prefix_refl _, hy, hf⟩
  | o :: r, vs, y, fs, ho, hy, hf => by
    unfold or_go
    split
    · split
      · rename_i z hz
        obtain ⟨v1, p1, h1, h2⟩ := or_ap_ok (ho o List.mem_cons_self) hD hth hy hf (z := z.1) (gs := z.2) hz
        obtain ⟨v2, p2, h3, h4⟩ := or_go_ok hD hth (OT := r) (fun q hq => ho q (List.mem_cons_of_mem _ hq)) h1 h2
        exact ⟨v2, p1.trans p2, h3, h4⟩
      · exact or_go_ok hD hth (fun q hq => ho q (List.mem_cons_of_mem _ hq)) hy hf
    · exact or_go_ok hD hth (fun q hq => ho q (List.mem_cons_of_mem _ hq)) hy hf
def or_n (G : List rg_T) (OT : List or_T) (n : nx_T) : nx_T := match or_go n.1 OT n.2.1 (fc_carry G n.2.1 n.2.2.2.2 ++ n.2.2.2.2) with
  | (y, fs) => (n.1, y, n.2.2.1, n.2.2.2.1, fs)
/-- the facts of a note -/
def an_fc (y : sy_T) (an : an_T) (fs : List fc_T) : Bool := an.2.2.2.2.2.2.2.2.2.2.all (fun f => f.2.1.all (fun k => (nm_of y an k).isSome) && (fc_now fs).contains (fc_map (fun k => (nm_of y an k).getD 0) f))
theorem an_fc_ok {ta : Nat → Option Nat} {ws : va_W} {vs : List Value} {ls : Array Slot} {nL : Nat} {st : List Value} {y : sy_T} {an : an_T} {fs : List fc_T} (hy : sy_ok ta ws vs ls nL st y) (h1 : an_ty y an 0 (an_ts an) = true) (hf : fc_ok fs ta ws vs) (h : an_fc y an fs = true) : ∀ f ∈ an.2.2.2.2.2.2.2.2.2.2, fc_1 f ws (an_vs y an vs) := by
  intro f hf2
  have h2 := List.all_eq_true.mp h f hf2
  rw [Bool.and_eq_true] at h2
  obtain ⟨_, h3⟩ := fc_now_ok hf _ (List.contains_iff_mem.mp h2.2)
  refine fc_1_unmap (fun n hn0 _ => ?_) h3
  have h4 := List.all_eq_true.mp h2.1 n hn0
  cases hn : nm_of y an n with
  | none => rw [hn] at h4; cases h4
  | some q =>
    have hk := nm_of_lt hn
    refine ⟨by unfold an_vs; rw [List.length_map, List.length_range]; exact hk, ?_⟩
    obtain ⟨n2, b1, b2, _⟩ := an_at hy h1 (List.getElem?_eq_getElem hk)
    rw [hn] at b1
    obtain rfl := Option.some.inj b1
    show n_v vs ((some q).getD 0) = _
    rw [n_v_of (an_vs_at hk), Option.getD_some, n_v_of b2]
def an_fs (OT : List or_T) (L : List fc_T) : List fc_T := match OT with
  | [] => []
  | _ :: _ => L ++ [(99, [], [])]
theorem an_fs_ok {OT : List or_T} {L : List fc_T} {ta : Nat → Option Nat} {ws : va_W} {vs : List Value} (h : ∀ f ∈ L, f.1 < 100 ∧ fc_1 f ws vs) : fc_ok (an_fs OT L) ta ws vs := by
  unfold an_fs
  split
  · trivial
  · exact fc_app (fc_cons (f := (99, [], [])) (by simp) ⟨fun n hn => (by cases hn), trivial⟩ (show fc_ok [] ta ws vs from trivial)) h
/-- a comparison of longs with a jump behind it -/
def nl_c (cc : ByteArray) (pc : Nat) (i : ClassFile.Instr) (len : Nat) : Option (ClassFile.Cond × Int) := match i, len with
  | .lcmp, 1 => (match decode cc (pc + 1) with
    | .ok (.ifCond q off, 3) => some (q, off)
    | _ => none)
  | _, _ => none
theorem nl_c_ok {cc : ByteArray} {pc : Nat} {i : ClassFile.Instr} {len : Nat} {q : ClassFile.Cond × Int} (h : nl_c cc pc i len = some q) : i = .lcmp ∧ len = 1 ∧ decode cc (pc + 1) = .ok (.ifCond q.1 q.2, 3) := by
  unfold nl_c at h
  split at h
  · split at h
    · rename_i q0 off hd
      rw [← Option.some.inj h]
      exact ⟨rfl, rfl, hd⟩
    · cases h
  · cases h
def ck_step (cc : ByteArray) (nL : Nat) (rt : Option FieldType) (en : en_T) (G : List rg_T) (FT : ft_L) (PT : pt_L) (CT : ct_L) (KT : kt_L) (NT : nt_L) (pc : Nat) (y : sy_T) (ce sl : Nat) (fs : List fc_T) (go : nx_T → Bool) : Bool := match decode cc pc with
  | .ok (i, len) => (match nl_c cc pc i len with
    | some q => (match lc_next pc q.1 q.2 y with
      | some L => L.all (fun z => go (z.1, z.2.1, ce, sl, recs fs z.2.2))
      | none => false)
    | none => (match nx nL en G FT PT CT KT NT pc i len y ce sl fs with
      | some L => L.all go
      | none => ck_ret rt en i len y ce sl fs))
  | .error _ => false
def gb_of (src : Nat) (an : an_T) (y : sy_T) : Nat := if src = an.1 then an_R an + an_n0 an else y.1.length - an.2.2.2.2.2.2.2.2.2.1.length
def ck_at (cc : ByteArray) (nL : Nat) (rt : Option FieldType) (en : en_T) (G : List rg_T) (FT : ft_L) (PT : pt_L) (CT : ct_L) (KT : kt_L) (NT : nt_L) (AN : List an_T) (src : Nat) (old : List me_T) (b : Bool) (n : nx_T) (go : nx_T → Bool) : Bool := match (if b then AN.find? (fun a => a.1 == n.1) else none) with
  | some an => an_sub old (an_gb an (gb_of src an n.2.1)) (gh_all G an n.2.1 an.2.2.2.2.2.2.1) n.2.2.1 n.2.2.2.1 && an_fc (gh_all G an n.2.1 an.2.2.2.2.2.2.1) (an_gb an (gb_of src an n.2.1)) n.2.2.2.2
  | none => (match n.2.2.2.2 with
    | [] => ck_step cc nL rt en G FT PT CT KT NT n.1 n.2.1 n.2.2.1 n.2.2.2.1 [] go
    | f :: r => ck_step cc nL rt en G FT PT CT KT NT n.1 n.2.1 n.2.2.1 n.2.2.2.1 (f :: r) go)
def chk (cc : ByteArray) (nL : Nat) (rt : Option FieldType) (en : en_T) (G : List rg_T) (FT : ft_L) (PT : pt_L) (CT : ct_L) (KT : kt_L) (NT : nt_L) (AN : List an_T) (OT : List or_T) (src : Nat) (old : List me_T) : Nat → Bool → nx_T → Bool
  | 0, _, _ => false
  | f + 1, b, n => match OT with
    | [] => ck_at cc nL rt en G FT PT CT KT NT AN src old b n (chk cc nL rt en G FT PT CT KT NT AN OT src old f true)
    | _ :: _ => ck_at cc nL rt en G FT PT CT KT NT AN src old b (or_n G OT n) (chk cc nL rt en G FT PT CT KT NT AN OT src old f true)
section M16
variable {p : Program} {l : Launch} {e : Env} {s : State} {m : MethodId} {args : Array Value} {below : List Frame} {meth : Method} {c : Code} {cc : ByteArray} {nL : Nat} {v0 : List Value} {ta0 : Nat → Option Nat} {ws0 : va_W} {D : va_G} {kA : Nat → ClassId} {G : List rg_T} {ret : Option FieldType} {own nm : String} {en : en_T} {FT : ft_L} {PT : pt_L} {CT : ct_L} {KT : kt_L} {NT : nt_L} {sz : Nat} {AN : List an_T} {OT : List or_T} {src : Nat} {old : List me_T} {av : List Value}
theorem ck_at_ok (hav : (en.2.2.2.2.2.2.1 = [] ∧ en.2.2.2.2.2.2.2.2.2.2.2.1 = []) ∨ (av <+: v0 ∧ av.length = en_nb en)) (hR : (en.2.2.2.2.2.2.1 = [] ∧ en.2.2.2.2.2.2.2.2.2.2.2.1 = []) ∨ ∀ an ∈ AN, an_R an = en_nb en) (htb : tb_ok l D kA G own FT PT CT KT NT) (X : cx p s m args meth c cc nL ret own nm) (hK : va_K D classes (TY kA) s) (hN : nsr kA (va_A ws0 sz) s) (hA : ∀ q, s.heap.size ≤ q → va_A ws0 sz q) (hold : ∀ o ∈ old, o.1 = 0 ∨ o.2.1 < v0.length)
    (hAN : ∀ an ∈ AN, ∀ (H : Heap) (locs : List Loc) (ws : va_W) (ta : Nat → Option Nat), ta_le ta0 ta → (en.2.2.1 = true → (ta, ws) = (ta0, ws0)) → kp en.2.2.2.2.2.2.2.2 ta0 ws0 ws → va_P D classes ws H → va_D (va_A ws0 sz) ws → va_S (va_A ws0 sz) s.heap H locs → th_ok kA G ta ws → ∀ (vs : List Value) (ls : Array Slot) (st : List Value), sy_ok ta ws vs ls nL st (an_y an) → (∀ f ∈ an.2.2.2.2.2.2.2.2.2.2, fc_1 f ws vs) → ((en.2.2.2.2.2.2.1 = [] ∧ en.2.2.2.2.2.2.2.2.2.2.2.1 = []) ∨ av <+: vs) → lx_lt (an.2.2.2.2.1.map (me_val vs)) (old.map (me_val v0)) → W p l e (rm_of en.2.2.2.1 en.2.2.2.2.1 en.2.2.2.2.2.1) s m args below meth c H locs an.2.2.2.1.1 an.2.2.2.1.2 (MQ below (qc_of D kA G en ta0 ws0 sz av) args s en.2.2.2.2.1 en.2.2.2.2.2.1 (va_A ws0 sz)) (F0 m an.1 ls st))
    {b : Bool} {n : nx_T} {go : nx_T → Bool} (hgo : ∀ n', go n' = true → sy_J p l e s m args below meth c (MQ below (qc_of D kA G en ta0 ws0 sz av) args s en.2.2.2.2.1 en.2.2.2.2.2.1 (va_A ws0 sz)) D kA G (va_A ws0 sz) en ta0 ws0 nL v0 n') (h : ck_at cc nL ret en G FT PT CT KT NT AN src old b n go = true) : sy_J p l e s m args below meth c (MQ below (qc_of D kA G en ta0 ws0 sz av) args s en.2.2.2.2.1 en.2.2.2.2.2.1 (va_A ws0 sz)) D kA G (va_A ws0 sz) en ta0 ws0 nL v0 n := by
  unfold ck_at at h
  split at h
  · rename_i an han
    have hmem : an ∈ AN ∧ an.1 = n.1 := by
      cases b with
      | false => cases han
      | true => exact ⟨List.mem_of_find?_eq_some han, by simpa using List.find?_some han⟩
    rw [Bool.and_eq_true] at h
    obtain ⟨h, hfc⟩ := h
    unfold an_sub at h
    simp only [Bool.and_eq_true, decide_eq_true_eq] at h
    obtain ⟨⟨⟨⟨⟨h0, h1⟩, h2⟩, h3⟩, h4⟩, h5⟩ := h
    intro H locs ws ta hle hpu hkp hP hD hS hth vs ls st hp1 hy1 hf1
    obtain ⟨vs2, hpp, hy⟩ := gh_all_ok (an := an) (L := an.2.2.2.2.2.2.1) hth hy1
    have hp0 := hp1.trans hpp
    have hf := fc_pre hpp hf1
    have hrid : (en.2.2.2.2.2.2.1 = [] ∧ en.2.2.2.2.2.2.2.2.2.2.2.1 = []) ∨ av <+: an_vs (gh_all G an n.2.1 an.2.2.2.2.2.2.1) (an_gb an (gb_of src an n.2.1)) vs2 := by
      rcases hav with q | q
      · exact Or.inl q
      · rcases hR with q2 | q2
        · exact Or.inl q2
        · exact Or.inr (an_pre hy h1 (q.1.trans hp0) (q.2.trans (q2 an hmem.1).symm))
    have := hAN an hmem.1 H locs ws ta hle hpu hkp hP hD hS hth _ ls st (show sy_ok ta ws _ ls nL st (an_y (an_gb an (gb_of src an n.2.1))) from an_in (an := an_gb an (gb_of src an n.2.1)) hy h0 h1 h2) (an_fc_ok (an := an_gb an (gb_of src an n.2.1)) hy h1 hf hfc) hrid (me_chk_ok hy h1 hp0 hold h5)
    rw [hmem.2] at this
    exact W.widen h3 h4 this
  · have key : ∀ fs, n.2.2.2.2 = fs → ck_step cc nL ret en G FT PT CT KT NT n.1 n.2.1 n.2.2.1 n.2.2.2.1 fs go = true → sy_J p l e s m args below meth c (MQ below (qc_of D kA G en ta0 ws0 sz av) args s en.2.2.2.2.1 en.2.2.2.2.2.1 (va_A ws0 sz)) D kA G (va_A ws0 sz) en ta0 ws0 nL v0 n := fun fs efs h => by
      unfold ck_step at h
      have en' : n = (n.1, n.2.1, n.2.2.1, n.2.2.2.1, fs) := by rw [← efs]
      rw [en']
      split at h
      · rename_i i len hd
        split at h
        · rename_i q hq
          obtain ⟨rfl, rfl, hd2⟩ := nl_c_ok hq
          split at h
          · rename_i L hL
            intro H locs ws ta h1 h2 hk0 h3 h4 h5 h6 vs ls st hp hy hf
            exact lc_next_ok (v0 := vs) X.1 X.2.1 hd hd2 hL (fun z hz vs' ls' st' hp' hX hy' => hgo (z.1, z.2.1, n.2.2.1, n.2.2.2.1, recs fs z.2.2) (List.all_eq_true.mp h z hz) H locs ws ta h1 h2 hk0 h3 h4 h5 h6 vs' ls' st' (hp.trans hp') hy' (recs_ok (fc_pre hp' hf) (fun f hf2 => ⟨(hX f hf2).1, (hX f hf2).2 ws⟩))) vs ls st (List.prefix_refl _) hy
          · cases h
        · split at h
          · rename_i L hL
            exact nx_ok htb X hK hN hA hd hL (fun n' hn' => hgo n' (List.all_eq_true.mp h n' hn'))
          · exact ck_ret_ok hav X hK hd h
      · cases h
    split at h
    · rename_i e1; exact key [] e1 h
    · rename_i f r e1; exact key (f :: r) e1 h
theorem chk_ok (hOT : ∀ o ∈ OT, or_ok kA G o) (hav : (en.2.2.2.2.2.2.1 = [] ∧ en.2.2.2.2.2.2.2.2.2.2.2.1 = []) ∨ (av <+: v0 ∧ av.length = en_nb en)) (hR : (en.2.2.2.2.2.2.1 = [] ∧ en.2.2.2.2.2.2.2.2.2.2.2.1 = []) ∨ ∀ an ∈ AN, an_R an = en_nb en) (htb : tb_ok l D kA G own FT PT CT KT NT) (X : cx p s m args meth c cc nL ret own nm) (hK : va_K D classes (TY kA) s) (hN : nsr kA (va_A ws0 sz) s) (hA : ∀ q, s.heap.size ≤ q → va_A ws0 sz q) (hold : ∀ o ∈ old, o.1 = 0 ∨ o.2.1 < v0.length)
    (hAN : ∀ an ∈ AN, ∀ (H : Heap) (locs : List Loc) (ws : va_W) (ta : Nat → Option Nat), ta_le ta0 ta → (en.2.2.1 = true → (ta, ws) = (ta0, ws0)) → kp en.2.2.2.2.2.2.2.2 ta0 ws0 ws → va_P D classes ws H → va_D (va_A ws0 sz) ws → va_S (va_A ws0 sz) s.heap H locs → th_ok kA G ta ws → ∀ (vs : List Value) (ls : Array Slot) (st : List Value), sy_ok ta ws vs ls nL st (an_y an) → (∀ f ∈ an.2.2.2.2.2.2.2.2.2.2, fc_1 f ws vs) → ((en.2.2.2.2.2.2.1 = [] ∧ en.2.2.2.2.2.2.2.2.2.2.2.1 = []) ∨ av <+: vs) → lx_lt (an.2.2.2.2.1.map (me_val vs)) (old.map (me_val v0)) → W p l e (rm_of en.2.2.2.1 en.2.2.2.2.1 en.2.2.2.2.2.1) s m args below meth c H locs an.2.2.2.1.1 an.2.2.2.1.2 (MQ below (qc_of D kA G en ta0 ws0 sz av) args s en.2.2.2.2.1 en.2.2.2.2.2.1 (va_A ws0 sz)) (F0 m an.1 ls st)) :
    ∀ (f : Nat) (b : Bool) (n : nx_T), chk cc nL ret en G FT PT CT KT NT AN OT src old f b n = true → sy_J p l e s m args below meth c (MQ below (qc_of D kA G en ta0 ws0 sz av) args s en.2.2.2.2.1 en.2.2.2.2.2.1 (va_A ws0 sz)) D kA G (va_A ws0 sz) en ta0 ws0 nL v0 n := by
  intro f
  induction f with
  | zero => intro b n h; cases h
  | succ f ih =>
    intro b n h
    unfold chk at h
    split at h
    · exact ck_at_ok hav hR htb X hK hN hA hold hAN (fun n' hn' => ih true n' hn') h
    · rename_i OT0 o r
      have h1 := ck_at_ok hav hR htb X hK hN hA hold hAN (fun n' hn' => ih true n' hn') h
      intro H locs ws ta hle hpu hkp hP hD hS hth vs ls st hp1 hy1 hf1
      obtain ⟨v1, p1, g1, g2⟩ := or_go_ok (pc := n.1) (OT := o :: r) hD hth hOT hy1 (fc_carry_ok hD hth hy1.1 hf1)
      exact h1 H locs ws ta hle hpu hkp hP hD hS hth v1 ls st (hp1.trans p1) g1 g2
end M16
def en_loc : List tv_T → Nat → Nat → List (Nat × Nat)
  | [], _, _ => []
  | t :: ts, j, k => (j, k) :: en_loc ts (if t.1 = 1 then j + 2 else j + 1) (k + 1)
def en_ts (en : en_T) : List tv_T := en.1 ++ en.2.2.2.2.2.2.2.1.map (fun q => q.2) ++ en.2.2.2.2.2.2.2.2.2.2.2.2
def en_y (en : en_T) : sy_T := ((en_ts en).map nrm, en_loc en.1 0 0, [], an_mem 0 en.1.length en.2.2.2.2.2.2.2.1, [], an_dv (en_ts en) 0)
def me_0 : me_T := (0, 0, 1000000)
def chk_all (cc : ByteArray) (nL : Nat) (rt : Option FieldType) (en : en_T) (G : List rg_T) (FT : ft_L) (PT : pt_L) (CT : ct_L) (KT : kt_L) (NT : nt_L) (AN : List an_T) (OT : List or_T) (K F : Nat) : Bool :=
  decide ((en.1.map (fun t => if t.1 = 1 then 2 else 1)).sum ≤ nL) &&
  ((en.2.2.2.2.2.2.1.isEmpty && en.2.2.2.2.2.2.2.2.2.2.2.1.isEmpty) || AN.all (fun an => decide (an_R an = en_nb en))) && AN.all (fun an => decide (an.2.2.2.2.1.length = K) && an.2.2.2.2.1.all (fun o => decide (o.1 = 0) || decide (o.2.1 < (an_ts an).length)) && an.2.2.2.2.2.2.2.2.2.2.all (fun f => decide (f.1 < 100)) && chk cc nL rt en G FT PT CT KT NT AN OT an.1 an.2.2.2.2.1 F false (an.1, an_y an, an.2.2.2.1.1, an.2.2.2.1.2, an_fs OT an.2.2.2.2.2.2.2.2.2.2)) &&
  en.2.2.2.2.2.2.2.2.2.2.1.all (fun f => decide (f.1 < 100)) && chk cc nL rt en G FT PT CT KT NT AN OT 100000 (List.replicate K me_0) F true (0, en_y en, 0, 0, an_fs OT en.2.2.2.2.2.2.2.2.2.2.1)
theorem en_loc_ok {ta : Nat → Option Nat} {ls : Array Slot} {L : List Value} : ∀ {ts : List tv_T} {av pre : List Value} {j : Nat}, ag_ok ta ts av → L = pre ++ av → (∀ q ∈ lv_args j av, ls[q.1]? = some (.val q.2)) → ∀ q ∈ en_loc ts j pre.length, sy_loc L ls q
  | [], _, _, _, _, _, _, q, hq => by cases hq
  | t :: ts, [], _, _, h, _, _, q, hq => h.elim
  | t :: ts, v :: av, pre, j, h, e, hl, q, hq => by
    unfold en_loc at hq
    unfold lv_args at hl
    rcases List.mem_cons.mp hq with rfl | hq
    · exact ⟨v, by rw [e, List.getElem?_append_right (Nat.le_refl _), Nat.sub_self]; rfl, hl (j, v) List.mem_cons_self⟩
    · have e2 : L = (pre ++ [v]) ++ av := by rw [e, List.append_assoc]; rfl
      have ew : (if v.category = 2 then j + 2 else j + 1) = (if t.1 = 1 then j + 2 else j + 1) := by
        by_cases ht : t.1 = 1
        · rw [if_pos ht, if_pos ((tv_cat h.1).1 ht)]
        · rw [if_neg ht, if_neg (by rw [(tv_cat h.1).2 ht]; decide)]
      rw [ew] at hl
      refine en_loc_ok (pre := pre ++ [v]) h.2 e2 (fun q hq => hl q (List.mem_cons_of_mem _ hq)) q ?_
      rw [List.length_append]; exact hq
theorem en_len {ta : Nat → Option Nat} : ∀ {ts : List tv_T} {av : List Value}, ag_ok ta ts av → (lg_sl av).length = (ts.map (fun t => if t.1 = 1 then 2 else 1)).sum
  | [], [], _ => rfl
  | t :: ts, v :: av, h => by
    have ih := en_len h.2
    unfold lg_sl at ih ⊢
    rw [List.flatMap_cons, List.length_append, ih, List.map_cons, List.sum_cons]
    by_cases ht : t.1 = 1
    · rw [if_pos ht, if_pos ((tv_cat h.1).1 ht)]; rfl
    · rw [if_neg ht, if_neg (by rw [(tv_cat h.1).2 ht]; decide)]; rfl
  | [], _ :: _, h => h.elim
  | _ :: _, [], h => h.elim
theorem gv_len {ta : Nat → Option Nat} {ws : va_W} {av : List Value} : ∀ {L : ga_L} {gv : List Value}, gv_ok ta ws av L gv → gv.length = L.length
  | [], [], _ => rfl
  | _ :: L, _ :: gv, h => by rw [List.length_cons, List.length_cons, gv_len h.2.2]
  | [], _ :: _, h => h.elim
  | _ :: _, [], h => h.elim
theorem gv_at {ta : Nat → Option Nat} {ws : va_W} {av : List Value} : ∀ {L : ga_L} {gv : List Value}, gv_ok ta ws av L gv → ∀ (i : Nat) (q : (Nat × Nat) × tv_T) (g : Value), L[i]? = some q → gv[i]? = some g → (∃ (a ci : Nat) (fs : List Value), av[q.1.1]? = some (.ref a) ∧ (a, .inr (ci, fs)) ∈ ws ∧ fs[q.1.2]? = some g) ∧ tv_ok ta q.2 g
  | [], [], _, i, q, g, h, _ => by cases h
  | q0 :: L, g0 :: gv, h, i, q, g, h1, h2 => by
    cases i with
    | zero =>
      have e1 : q0 = q := Option.some.inj h1
      have e2 : g0 = g := Option.some.inj h2
      rw [← e1, ← e2]; exact ⟨h.1, h.2.1⟩
    | succ i => exact gv_at h.2.2 i q g h1 h2
  | [], _ :: _, h, _, _, _, _, _ => h.elim
  | _ :: _, [], h, _, _, _, _, _ => h.elim
theorem k_metF {l : Launch} {cc : ByteArray} {ret : Option FieldType} {y : MethodName} {z : List Cond} {rm : Room} {maxL mc ms : Nat} {av : List Value} {Bp : State → Prop} {Qc : Array Value → State → Outcome → State → Prop} {free : Addr → Prop}
    (hy : plainFor y = true) (hz : z = Cond.code y cc maxL ret :: lw_g) (hn : (lg_sl av).length ≤ maxL)
    (body : ∀ (p : Program) (e : Env) (s : State) (m : MethodId) (below : List Frame) (meth : Method) (c : Code) (ls : Array Slot), cx p s m av.toArray meth c cc maxL ret y.cls y.name → lv_has ls maxL (lv_args 0 av) → Bp s → W p l e rm s m av.toArray below meth c s.heap [] 0 0 (MQ below Qc av.toArray s mc ms free) (F0 m 0 ls [])) :
    Met l y z rm (va_Pc av Bp) Qc mc ms free := by
  refine va_MetF (cc := cc) (maxL := maxL) (ret := ret) hy hz ?_
  intro p e s m args below meth c s₁ B hml hv
  obtain ⟨rfl, hB⟩ := hv
  have hts := atoms_spec (ws := z) B.pre
  have hts2 : ∀ w ∈ lw_g, w.before av.toArray s = true := fun w hw => hts w (by rw [hz]; exact List.mem_cons_of_mem _ hw)
  have hl := lv_entry av (n := maxL) hn
  rw [lg_entry_eq]
  exact body p e s m below meth c _ ⟨B.exec, B.bytes, hml, findClass_of_methodNamed B.named, hts2, B.returns, B.notSynchronized, (name_of_methodNamed B.named B.method).1⟩ hl hB
/-- a method that the check passes keeps its contract -/
theorem chk_all_ok {l : Launch} {D : va_G} {kA : Nat → ClassId} {G : List rg_T} {y : MethodName} {cc : ByteArray} {nL : Nat} {rt : Option FieldType} {en : en_T} {FT : ft_L} {PT : pt_L} {CT : ct_L} {KT : kt_L} {NT : nt_L} {AN : List an_T} {OT : List or_T} (K F : Nat) (hOT : ∀ o ∈ OT, or_ok kA G o) (hy : plainFor y = true) (htb : tb_ok l D kA G y.cls FT PT CT KT NT) (h : chk_all cc nL rt en G FT PT CT KT NT AN OT K F = true) : ct_ok l D kA G y (Cond.code y cc nL rt :: lw_g) en := by
  intro sz ta0 ws0 av gv hv hth hag hgv hhv hpr
  unfold chk_all at h
  simp only [Bool.and_eq_true, decide_eq_true_eq] at h
  obtain ⟨⟨⟨⟨h0, hpe⟩, hall⟩, hpf⟩, hent⟩ := h
  have hR : (en.2.2.2.2.2.2.1 = [] ∧ en.2.2.2.2.2.2.2.2.2.2.2.1 = []) ∨ ∀ an ∈ AN, an_R an = en_nb en := by
    rcases Bool.or_eq_true_iff.mp hpe with q | q
    · rw [Bool.and_eq_true] at q
      exact Or.inl ⟨List.isEmpty_iff.mp q.1, List.isEmpty_iff.mp q.2⟩
    · exact Or.inr (fun an han => by simpa using List.all_eq_true.mp q an han)
  refine k_metF hy rfl (by rw [en_len hag]; exact h0) (fun p e s m below meth c ls X hl hB => ?_)
  obtain ⟨⟨hsz, hP, hK, hD, hN0⟩, hro⟩ := hB
  have hN : nsr kA (va_A ws0 sz) s := ⟨hN0, hro⟩
  have hA : ∀ q, s.heap.size ≤ q → va_A ws0 sz q := fun q hq => Or.inr (by omega)
  have hall2 := List.all_eq_true.mp hall
  -- every note, by what falls
  have main : ∀ v : List Nat, v.length = K → ∀ an ∈ AN, ∀ (H : Heap) (locs : List Loc) (ws : va_W) (ta : Nat → Option Nat), ta_le ta0 ta → (en.2.2.1 = true → (ta, ws) = (ta0, ws0)) → kp en.2.2.2.2.2.2.2.2 ta0 ws0 ws → va_P D classes ws H → va_D (va_A ws0 sz) ws → va_S (va_A ws0 sz) s.heap H locs → th_ok kA G ta ws → ∀ (vs : List Value) (ls : Array Slot) (st : List Value), sy_ok ta ws vs ls nL st (an_y an) → (∀ f ∈ an.2.2.2.2.2.2.2.2.2.2, fc_1 f ws vs) → ((en.2.2.2.2.2.2.1 = [] ∧ en.2.2.2.2.2.2.2.2.2.2.2.1 = []) ∨ av ++ gv ++ hv <+: vs) → an.2.2.2.2.1.map (me_val vs) = v → W p l e (rm_of en.2.2.2.1 en.2.2.2.2.1 en.2.2.2.2.2.1) s m av.toArray below meth c H locs an.2.2.2.1.1 an.2.2.2.1.2 (MQ below (qc_of D kA G en ta0 ws0 sz (av ++ gv ++ hv)) av.toArray s en.2.2.2.2.1 en.2.2.2.2.2.1 (va_A ws0 sz)) (F0 m an.1 ls st) := by
    refine lx_ind K _ (fun v hvK ih => ?_)
    intro an han H locs ws ta a1 a2 a2' a3 a4 a5 a6 vs ls st hs hfs hrd hm
    have hc := hall2 an han
    simp only [Bool.and_eq_true, decide_eq_true_eq] at hc
    obtain ⟨⟨⟨c1, c2⟩, c4⟩, c3⟩ := hc
    have hvl : vs.length = (an_ts an).length := by
      have := hs.1.1
      rw [this]
      show ((an_ts an).map nrm).length = _
      rw [List.length_map]
    have hav2 : (en.2.2.2.2.2.2.1 = [] ∧ en.2.2.2.2.2.2.2.2.2.2.2.1 = []) ∨ (av ++ gv ++ hv <+: vs ∧ (av ++ gv ++ hv).length = en_nb en) := by
      rcases hrd with q | q
      · exact Or.inl q
      · exact Or.inr ⟨q, by unfold en_nb; rw [List.length_append, List.length_append, ag_len hag, gv_len hgv, ag_len hhv]⟩
    refine chk_ok (v0 := vs) (old := an.2.2.2.2.1) (av := av ++ gv ++ hv) hOT hav2 hR htb X hK hN hA (fun o ho => ?_) (fun an' han' H' locs' ws' ta' b1 b2 b2' b3 b4 b5 b6 vs' ls' st' hs' hfs' hrd' hlt => ?_) F false (an.1, an_y an, an.2.2.2.1.1, an.2.2.2.1.2, an_fs OT an.2.2.2.2.2.2.2.2.2.2) c3 H locs ws ta a1 a2 a2' a3 a4 a5 a6 vs ls st (List.prefix_refl _) hs (an_fs_ok (fun f hf => ⟨by simpa using List.all_eq_true.mp c4 f hf, hfs f hf⟩))
    · have := List.all_eq_true.mp c2 o ho
      simp only [Bool.or_eq_true, decide_eq_true_eq] at this
      rw [hvl]; exact this
    · have hc' := hall2 an' han'
      simp only [Bool.and_eq_true, decide_eq_true_eq] at hc'
      rw [hm] at hlt
      exact ih _ (by rw [List.length_map]; exact hc'.1.1.1) hlt an' han' H' locs' ws' ta' b1 b2 b2' b3 b4 b5 b6 vs' ls' st' hs' hfs' hrd' rfl
  have hgl : gv.length = en.2.2.2.2.2.2.2.1.length := gv_len hgv
  have hbl : (av ++ gv ++ hv).length = en_nb en := by unfold en_nb; rw [List.length_append, List.length_append, ag_len hag, hgl, ag_len hhv]
  have hens : sy_env ta0 (en_ts en) (av ++ gv ++ hv) := by
    unfold en_ts
    refine sy_env_drop (sy_env_drop ⟨ag_len hag, fun i t v a b => ag_at hag i t v a b⟩ ⟨by rw [List.length_map]; exact hgl, fun i t v a b => ?_⟩) ⟨ag_len hhv, fun i t v a b => ag_at hhv i t v a b⟩
    rw [List.getElem?_map] at a
    obtain ⟨q, q1, q2⟩ := Option.map_eq_some_iff.mp a
    rw [← q2]
    exact (gv_at hgv _ q v q1 b).2
  have htv : ∀ (i : Nat) (t : tv_T) (v : Value), (en_ts en)[i]? = some t → (av ++ gv ++ hv)[i]? = some v → tv_ok ta0 t v := hens.2
  have htl : (en_ts en).length = (av ++ gv ++ hv).length := hens.1.symm
  have hse : sy_ok ta0 ws0 (av ++ gv ++ hv) ls nL [] (en_y en) := by
    refine ⟨⟨by show _ = ((en_ts en).map nrm).length; rw [List.length_map, htl], fun i t v e1 e2 => ?_⟩, ⟨hl.1, hl.2.1, ?_⟩, trivial, fun q hq => ?_, fun q hq => absurd hq List.not_mem_nil, fun q hq => ?_⟩
    · have e1' : ((en_ts en).map nrm)[i]? = some t := e1
      rw [List.getElem?_map] at e1'
      obtain ⟨t0, e3, e4⟩ := Option.map_eq_some_iff.mp e1'
      rw [← e4]
      exact nrm_ok (htv i t0 v e3 e2)
    · intro q hq
      obtain ⟨v, a1, a2⟩ := en_loc_ok (L := av) (pre := []) hag rfl hl.2.2 q hq
      exact ⟨v, by rw [List.append_assoc, List.getElem?_append_left (List.getElem?_eq_some_iff.mp a1).1]; exact a1, a2⟩
    · obtain ⟨i, lo, t, e1, e0, e2⟩ := an_mem_mem hq
      have hi := (List.getElem?_eq_some_iff.mp e1).1
      have hg := List.getElem?_eq_getElem (l := gv) (i := i) (by omega)
      obtain ⟨⟨a, ci, fs, g1, g2, g3⟩, _⟩ := gv_at hgv i _ _ e1 hg
      refine ⟨a, ci, fs, gv[i]'(by omega), ?_, g2, g3, ?_⟩
      · rw [e0, Nat.zero_add, List.append_assoc, List.getElem?_append_left (List.getElem?_eq_some_iff.mp g1).1]; exact g1
      · rw [e2, List.append_assoc, List.getElem?_append_right (by rw [ag_len hag]; omega), ag_len hag, show en.1.length + i - en.1.length = i by omega, List.getElem?_append_left (by omega)]; exact hg
    · obtain ⟨i, t, e1, e2, e3⟩ := an_dv_mem hq
      have hi := (List.getElem?_eq_some_iff.mp e1).1
      have hi2 : i < (av ++ gv ++ hv).length := by rw [← htl]; exact hi
      obtain ⟨x, ex, _, _, k, hk⟩ := tv_div (htv i t _ e1 (List.getElem?_eq_getElem hi2)) e2
      refine ⟨x, k, ?_, by rw [e3]; exact hk⟩
      rw [e3]
      show (av ++ gv ++ hv)[0 + i]? = _
      rw [Nat.zero_add, List.getElem?_eq_getElem hi2, ex]
  refine chk_ok (v0 := av ++ gv ++ hv) (old := List.replicate K me_0) (av := av ++ gv ++ hv) hOT (Or.inr ⟨List.prefix_refl _, hbl⟩) hR htb X hK hN hA (fun o ho => Or.inl (by rw [(List.mem_replicate.mp ho).2]; rfl)) (fun an' han' H' locs' ws' ta' b1 b2 b2' b3 b4 b5 b6 vs' ls' st' hs' hfs' hrd' _ => ?_) F true (0, en_y en, 0, 0, an_fs OT en.2.2.2.2.2.2.2.2.2.2.1) hent s.heap [] ws0 ta0 (fun _ _ q => q) (fun _ => rfl) kp_refl hP hD.self va_S.rf hth (av ++ gv ++ hv) ls [] (List.prefix_refl _) hse (an_fs_ok (fun f hf => ⟨by simpa using List.all_eq_true.mp hpf f hf, hpr f hf⟩))
  have hc' := hall2 an' han'
  simp only [Bool.and_eq_true, decide_eq_true_eq] at hc'
  exact main _ (by rw [List.length_map]; exact hc'.1.1.1) an' han' H' locs' ws' ta' b1 b2 b2' b3 b4 b5 b6 vs' ls' st' hs' hfs' hrd' rfl
/-- the check of a long method, note by note -/
def chk_an (cc : ByteArray) (nL : Nat) (rt : Option FieldType) (en : en_T) (G : List rg_T) (FT : ft_L) (PT : pt_L) (CT : ct_L) (KT : kt_L) (NT : nt_L) (AN : List an_T) (OT : List or_T) (K F : Nat) (an : an_T) : Bool := decide (an.2.2.2.2.1.length = K) && an.2.2.2.2.1.all (fun o => decide (o.1 = 0) || decide (o.2.1 < (an_ts an).length)) && an.2.2.2.2.2.2.2.2.2.2.all (fun f => decide (f.1 < 100)) && chk cc nL rt en G FT PT CT KT NT AN OT an.1 an.2.2.2.2.1 F false (an.1, an_y an, an.2.2.2.1.1, an.2.2.2.1.2, an_fs OT an.2.2.2.2.2.2.2.2.2.2)
def chk_0 (nL : Nat) (en : en_T) (AN : List an_T) : Bool := decide ((en.1.map (fun t => if t.1 = 1 then 2 else 1)).sum ≤ nL) && ((en.2.2.2.2.2.2.1.isEmpty && en.2.2.2.2.2.2.2.2.2.2.2.1.isEmpty) || AN.all (fun an => decide (an_R an = en_nb en))) && en.2.2.2.2.2.2.2.2.2.2.1.all (fun f => decide (f.1 < 100))
theorem chk_mk {cc : ByteArray} {nL : Nat} {rt : Option FieldType} {en : en_T} {G : List rg_T} {FT : ft_L} {PT : pt_L} {CT : ct_L} {KT : kt_L} {NT : nt_L} {AN : List an_T} {OT : List or_T} {K F : Nat} (h0 : chk_0 nL en AN = true) (h1 : ∀ an ∈ AN, chk_an cc nL rt en G FT PT CT KT NT AN OT K F an = true) (h2 : chk cc nL rt en G FT PT CT KT NT AN OT 100000 (List.replicate K me_0) F true (0, en_y en, 0, 0, an_fs OT en.2.2.2.2.2.2.2.2.2.2.1) = true) : chk_all cc nL rt en G FT PT CT KT NT AN OT K F = true := by
  unfold chk_0 at h0
  unfold chk_all
  rw [Bool.and_eq_true, Bool.and_eq_true] at h0
  rw [Bool.and_eq_true, Bool.and_eq_true, Bool.and_eq_true, Bool.and_eq_true]
  exact ⟨⟨⟨⟨h0.1.1, h0.1.2⟩, List.all_eq_true.mpr h1⟩, h0.2⟩, h2⟩
