/-! one step of the check -/
def tr1 (nL : Nat) (i : ClassFile.Instr) (len : Nat) (y : sy_T) : Option sy_T := match tr_pk i len y with
  | some z => some z
  | none => match tr_ld i len y with
    | some z => some z
    | none => match tr_st nL i len y with
      | some z => some z
      | none => match tr_opi i len y with
        | some z => some z
        | none => match tr_opl i len y with
          | some z => some z
          | none => match tr_dv i len y with
            | some z => some z
            | none => match tr_un i len y with
              | some z => some z
              | none => tr_inc nL i len y
abbrev ft_L : Type := List (Nat × Nat × Nat)
abbrev pt_L : Type := List (Nat × Nat × Nat × FieldType)
abbrev ct_L : Type := List (Nat × Nat × en_T)
abbrev kt_L : Type := List (Nat × Nat × Value × tv_T)
def op_of (k idx : Nat) : ClassFile.Instr := match k with
  | 0 => .invokestatic idx
  | 1 => .invokevirtual idx
  | _ => .invokespecial idx
def kt_op (k idx : Nat) : ClassFile.Instr × Nat := match k with
  | 0 => (.ldc idx, 2)
  | 1 => (.ldc_w idx, 3)
  | _ => (.ldc2_w idx, 3)
abbrev nx_T : Type := Nat × sy_T × Nat × Nat
def nx_call (G : List rg_T) (en : en_T) (CT : ct_L) (k idx pc : Nat) (y : sy_T) (ce sl : Nat) : Option (List nx_T) := match CT.find? (fun q => (q.1 == k || q.1 == k + 3 * (pc + 1)) && q.2.1 == idx) with
  | some q => if q.2.2.2.2.2.1 + 1 ≤ en.2.2.2.1 ∧ ce + q.2.2.2.2.2.2.1 ≤ en.2.2.2.2.1 ∧ sl + q.2.2.2.2.2.2.2.1 ≤ en.2.2.2.2.2.1 ∧ (en.2.2.1 = true → q.2.2.2.2.1 = true) ∧ (q.2.2.2.2.2.2.2.2.2.2.2.all (fun w => en.2.2.2.2.2.2.2.2.2.contains w)) = true ∧ q.2.2.2.2.2.2.2.2.2.2.1 ||| en.2.2.2.2.2.2.2.2.1 = en.2.2.2.2.2.2.2.2.1 then (tr_call G q.2.2 y).map (fun L => L.map (fun z => (pc + 3, z, ce + q.2.2.2.2.2.2.1, sl + q.2.2.2.2.2.2.2.1))) else none
  | none => none
def nx_kt (KT : kt_L) (k idx pc : Nat) (y : sy_T) (ce sl : Nat) : Option (List nx_T) := match KT.find? (fun q => q.1 == k && q.2.1 == idx) with
  | some q => some [(pc + (kt_op k idx).2, sy_push y q.2.2.2 y.2.2.1, ce, sl)]
  | none => none
def nx2 (en : en_T) (G : List rg_T) (FT : ft_L) (PT : pt_L) (CT : ct_L) (KT : kt_L) (pc : Nat) (i : ClassFile.Instr) (len : Nat) (y : sy_T) (ce sl : Nat) : Option (List nx_T) := match i with
  | .getfield idx => if len = 3 then (match FT.find? (fun q => q.1 == idx) with
    | some q => (tr_get G q.2.1 q.2.2 y).map (fun z => [(pc + 3, z, ce, sl)])
    | none => none) else none
  | .putfield idx => if len = 3 ∧ en.2.2.1 = false then (match PT.find? (fun q => q.1 == idx) with
    | some q => if en.2.2.2.2.2.2.2.2.2.contains (q.2.1, q.2.2.1) = true then (tr_put G q.2.1 q.2.2.1 q.2.2.2 y).map (fun z => [(pc + 3, z, ce, sl)]) else none
    | none => none) else none
  | .invokestatic idx => if len = 3 then nx_call G en CT 0 idx pc y ce sl else none
  | .invokevirtual idx => if len = 3 then nx_call G en CT 1 idx pc y ce sl else none
  | .invokespecial idx => if len = 3 then nx_call G en CT 2 idx pc y ce sl else none
  | .ldc idx => if len = 2 then nx_kt KT 0 idx pc y ce sl else none
  | .ldc_w idx => if len = 3 then nx_kt KT 1 idx pc y ce sl else none
  | .ldc2_w idx => if len = 3 then nx_kt KT 2 idx pc y ce sl else none
  | _ => if en.2.2.1 = false ∧ (ast_rs y).all (fun rr => en.2.2.2.2.2.2.2.2.1.testBit rr) = true then (tr_ast G i len y).map (fun z => [(pc + len, z, ce, sl)]) else none
def nx (nL : Nat) (en : en_T) (G : List rg_T) (FT : ft_L) (PT : pt_L) (CT : ct_L) (KT : kt_L) (pc : Nat) (i : ClassFile.Instr) (len : Nat) (y : sy_T) (ce sl : Nat) : Option (List nx_T) := match tr1 nL i len y with
  | some z => some [(pc + len, z, ce, sl)]
  | none => match br_next pc i len y with
    | some L => some (L.map (fun q => (q.1, q.2, ce, sl)))
    | none => match tr_sw pc i y with
      | some L => some (L.map (fun q => (q.1, q.2, ce, sl)))
      | none => match tr_ald G i len y with
        | some z => some [(pc + len, z, ce, sl)]
        | none => match tr_len G i len y with
          | some z => some [(pc + len, z, ce, sl)]
          | none => nx2 en G FT PT CT KT pc i len y ce sl
/-- the tables of a class are as they should be -/
def tb_ok (l : Launch) (D : va_G) (kA : Nat → ClassId) (G : List rg_T) (own : String) (FT : ft_L) (PT : pt_L) (CT : ct_L) (KT : kt_L) : Prop :=
  (∀ q ∈ FT, gf_rule own q.1 q.2.1 q.2.2) ∧ (∀ q ∈ PT, pf_rule own q.1 q.2.1 q.2.2.1 q.2.2.2) ∧ (∀ q ∈ CT, cl_ok l D kA G own (op_of (q.1 % 3) q.2.1) q.2.2) ∧ (∀ q ∈ KT, kt_rule own (kt_op q.1 q.2.1).1 (kt_op q.1 q.2.1).2 q.2.2.1 ∧ ∀ ta, tv_ok ta q.2.2.2 q.2.2.1)
section M13
variable {p : Program} {l : Launch} {e : Env} {s : State} {m : MethodId} {args : Array Value} {below : List Frame} {meth : Method} {c : Code} {Q : State → Prop} {cc : ByteArray} {pc : Nat} {i : ClassFile.Instr} {len nL : Nat} {v0 : List Value} {ta0 : Nat → Option Nat} {ws0 : va_W} {y : sy_T} {D : va_G} {kA : Nat → ClassId} {G : List rg_T} {A : Nat → Prop} {ret : Option FieldType} {own nm : String} {en : en_T} {FT : ft_L} {PT : pt_L} {CT : ct_L} {KT : kt_L} {ce sl : Nat}
/-- from every world that may be here -/
def sy_J (p : Program) (l : Launch) (e : Env) (s : State) (m : MethodId) (args : Array Value) (below : List Frame) (meth : Method) (c : Code) (Q : State → Prop) (D : va_G) (kA : Nat → ClassId) (G : List rg_T) (A : Nat → Prop) (en : en_T) (ta0 : Nat → Option Nat) (ws0 : va_W) (nL : Nat) (v0 : List Value) (n : nx_T) : Prop :=
  ∀ (H : Heap) (locs : List Loc) (ws : va_W) (ta : Nat → Option Nat), ta_le ta0 ta → (en.2.2.1 = true → (ta, ws) = (ta0, ws0)) → kp en.2.2.2.2.2.2.2.2 ta0 ws0 ws → va_P D classes ws H → va_D A ws → va_S A s.heap H locs → th_ok kA G ta ws → sy_go p l e (rm_of en.2.2.2.1 en.2.2.2.2.1 en.2.2.2.2.2.1) s m args below meth c H locs n.2.2.1 n.2.2.2 Q nL v0 ta ws n.1 n.2.1
theorem tr1_ok {H : Heap} {locs : List Loc} {R : Room} {cells slots : Nat} {ta : Nat → Option Nat} {ws : va_W} {z : sy_T} (hx : p.tables.exec = Jvm.exec) (hb : c.code = cc) (hd : decode cc pc = .ok (i, len)) (h : tr1 nL i len y = some z) (k : sy_go p l e R s m args below meth c H locs cells slots Q nL v0 ta ws (pc + len) z) : sy_go p l e R s m args below meth c H locs cells slots Q nL v0 ta ws pc y := by
  unfold tr1 at h
  split at h
  · rename_i h1; obtain rfl := Option.some.inj h; exact tr_pk_ok hx hb hd h1 k
  · split at h
    · rename_i h1; obtain rfl := Option.some.inj h; exact tr_ld_ok hx hb hd h1 k
    · split at h
      · rename_i h1; obtain rfl := Option.some.inj h; exact tr_st_ok hx hb hd h1 k
      · split at h
        · rename_i h1; obtain rfl := Option.some.inj h; exact tr_opi_ok hx hb hd h1 k
        · split at h
          · rename_i h1; obtain rfl := Option.some.inj h; exact tr_opl_ok hx hb hd h1 k
          · split at h
            · rename_i h1; obtain rfl := Option.some.inj h; exact tr_dv_ok hx hb hd h1 k
            · split at h
              · rename_i h1; obtain rfl := Option.some.inj h; exact tr_un_ok hx hb hd h1 k
              · exact tr_inc_ok hx hb hd h k
theorem or_bit {a b : Nat} (h : a ||| b = b) (r : Nat) (hb : b.testBit r = false) : a.testBit r = false := by
  rw [← h, Nat.testBit_or, Bool.or_eq_false_iff] at hb
  exact hb.1
theorem nx_call_ok {k idx : Nat} (hk3 : k < 3) {L : List nx_T} (hct : ∀ q ∈ CT, cl_ok l D kA G own (op_of (q.1 % 3) q.2.1) q.2.2) (X : cx p s m args meth c cc nL ret own nm) (hK : va_K D classes (TY kA) s) (hN : nst s) (hA : ∀ q, s.heap.size ≤ q → A q) (hd : decode cc pc = .ok (op_of k idx, 3)) (h : nx_call G en CT k idx pc y ce sl = some L)
    (kk : ∀ n ∈ L, sy_J p l e s m args below meth c Q D kA G A en ta0 ws0 nL v0 n) : sy_J p l e s m args below meth c Q D kA G A en ta0 ws0 nL v0 (pc, y, ce, sl) := by
  intro H locs ws ta hle hpu hkp hP hD hS hth
  unfold nx_call at h
  split at h
  · rename_i q hq
    split at h
    · rename_i hk
      obtain ⟨z, hz, rfl⟩ := Option.map_eq_some_iff.mp h
      have h2 := List.find?_some hq
      simp only [Bool.and_eq_true, Bool.or_eq_true, beq_iff_eq] at h2
      have hcl := hct q (List.mem_of_find?_eq_some hq)
      have h4 : q.1 % 3 = k := by have := h2.1; omega
      rw [h4, h2.2] at hcl
      refine tr_call_ok hcl X hK hN hA hP hD hS hth hk.1 (by show 64 * _ ≤ 64 * _; have := hk.1; omega) hk.2.1 hk.2.2.1 hd hz (fun z' hz' tb w1 H1 locs1 b1 b2 b3 b4 b5 b6 b7 => ?_)
      exact kk (pc + 3, z', _, _) (List.mem_map.mpr ⟨z', hz', rfl⟩) H1 locs1 w1 tb (fun a r hr => b1 a r (hle a r hr)) (fun hp => (b6 (hk.2.2.2.1 hp)).trans (hpu hp)) (kp_trans hle hkp (kp_mono (fun w hw => List.contains_iff_mem.mp (List.all_eq_true.mp hk.2.2.2.2.1 w hw)) (or_bit hk.2.2.2.2.2) b7)) b3 b4 b5 b2
    · cases h
  · cases h
theorem nx_kt_ok {k idx : Nat} {L : List nx_T} (hkt : ∀ q ∈ KT, kt_rule own (kt_op q.1 q.2.1).1 (kt_op q.1 q.2.1).2 q.2.2.1 ∧ ∀ ta, tv_ok ta q.2.2.2 q.2.2.1) (X : cx p s m args meth c cc nL ret own nm) (hd : decode cc pc = .ok (kt_op k idx)) (h : nx_kt KT k idx pc y ce sl = some L)
    (kk : ∀ n ∈ L, sy_J p l e s m args below meth c Q D kA G A en ta0 ws0 nL v0 n) : sy_J p l e s m args below meth c Q D kA G A en ta0 ws0 nL v0 (pc, y, ce, sl) := by
  intro H locs ws ta hle hpu hkp hP hD hS hth vs ls st hp0 hy
  unfold nx_kt at h
  split at h
  · rename_i q hq
    obtain rfl := Option.some.inj h
    have h2 := List.find?_some hq
    simp only [Bool.and_eq_true, beq_iff_eq] at h2
    have hr := hkt q (List.mem_of_find?_eq_some hq)
    rw [h2.1, h2.2] at hr
    exact hr.1 p l e _ s m args below meth c H locs ce sl Q cc pc nL ret nm ls st X hd (kk _ List.mem_cons_self H locs ws ta hle hpu hkp hP hD hS hth _ _ _ (pre_app hp0) (sy_pushed hy hy.2.2.1 (hr.2 ta)))
  · cases h
theorem nx_ok {L : List nx_T} (htb : tb_ok l D kA G own FT PT CT KT) (X : cx p s m args meth c cc nL ret own nm) (hK : va_K D classes (TY kA) s) (hN : nst s) (hA : ∀ q, s.heap.size ≤ q → A q) (hd : decode cc pc = .ok (i, len)) (h : nx nL en G FT PT CT KT pc i len y ce sl = some L)
    (kk : ∀ n ∈ L, sy_J p l e s m args below meth c Q D kA G A en ta0 ws0 nL v0 n) : sy_J p l e s m args below meth c Q D kA G A en ta0 ws0 nL v0 (pc, y, ce, sl) := by
  unfold nx at h
  split at h
  · rename_i z hz
    obtain rfl := Option.some.inj h
    exact fun H locs ws ta h1 h2 hk0 h3 h4 h5 h6 => tr1_ok X.1 X.2.1 hd hz (kk _ List.mem_cons_self H locs ws ta h1 h2 hk0 h3 h4 h5 h6)
  · split at h
    · rename_i L0 hz
      obtain rfl := Option.some.inj h
      exact fun H locs ws ta h1 h2 hk0 h3 h4 h5 h6 => br_next_ok X.1 X.2.1 hd hz (fun q hq => kk (q.1, q.2, ce, sl) (List.mem_map.mpr ⟨q, hq, rfl⟩) H locs ws ta h1 h2 hk0 h3 h4 h5 h6)
    · split at h
      · rename_i L0 hz
        obtain rfl := Option.some.inj h
        exact fun H locs ws ta h1 h2 hk0 h3 h4 h5 h6 => tr_sw_ok X.1 X.2.1 hd hz (fun q hq => kk (q.1, q.2, ce, sl) (List.mem_map.mpr ⟨q, hq, rfl⟩) H locs ws ta h1 h2 hk0 h3 h4 h5 h6)
      · split at h
        · rename_i z hz
          obtain rfl := Option.some.inj h
          exact fun H locs ws ta h1 h2 hk0 h3 h4 h5 h6 => tr_ald_ok X hK h3 h6 hd hz (kk _ List.mem_cons_self H locs ws ta h1 h2 hk0 h3 h4 h5 h6)
        · split at h
          · rename_i z hz
            obtain rfl := Option.some.inj h
            exact fun H locs ws ta h1 h2 hk0 h3 h4 h5 h6 => tr_len_ok X hK h3 h6 hd hz (kk _ List.mem_cons_self H locs ws ta h1 h2 hk0 h3 h4 h5 h6)
          · unfold nx2 at h
            split at h
            · split at h
              · rename_i hl3
                subst hl3
                split at h
                · rename_i q hq
                  obtain ⟨z, hz, rfl⟩ := Option.map_eq_some_iff.mp h
                  have h2 := List.find?_some hq
                  have h3 := eq_of_beq h2
                  have hr := htb.1 q (List.mem_of_find?_eq_some hq)
                  rw [h3] at hr
                  exact fun H locs ws ta h1 h2 hk0 h3 h4 h5 h6 => tr_get_ok hr X hK h3 h4 h6 hd hz (kk _ List.mem_cons_self H locs ws ta h1 h2 hk0 h3 h4 h5 h6)
                · cases h
              · cases h
            · split at h
              · rename_i hl3
                obtain ⟨rfl, hpu⟩ := hl3
                split at h
                · rename_i q hq
                  split at h
                  case isFalse => cases h
                  rename_i hmo
                  obtain ⟨z, hz, rfl⟩ := Option.map_eq_some_iff.mp h
                  have h2 := List.find?_some hq
                  have h3 := eq_of_beq h2
                  have hr := htb.2.1 q (List.mem_of_find?_eq_some hq)
                  rw [h3] at hr
                  exact fun H locs ws ta h1 h2 hk0 h3 h4 h5 h6 => tr_put_ok hr X hK h3 h4 h5 h6 hd hz (fun H1 locs1 w1 a1 a2 a3 a4 a5 => kk _ List.mem_cons_self H1 locs1 w1 ta h1 (fun q => by rw [hpu] at q; cases q) (kp_trans h1 hk0 (a5 _ (List.contains_iff_mem.mp hmo))) a1 a2 a3 a4)
                · cases h
              · cases h
            · split at h
              · rename_i hl3; subst hl3; exact nx_call_ok (k := 0) (by decide) htb.2.2.1 X hK hN hA hd h kk
              · cases h
            · split at h
              · rename_i hl3; subst hl3; exact nx_call_ok (k := 1) (by decide) htb.2.2.1 X hK hN hA hd h kk
              · cases h
            · split at h
              · rename_i hl3; subst hl3; exact nx_call_ok (k := 2) (by decide) htb.2.2.1 X hK hN hA hd h kk
              · cases h
            · split at h
              · rename_i hl3; subst hl3; exact nx_kt_ok (k := 0) htb.2.2.2 X hd h kk
              · cases h
            · split at h
              · rename_i hl3; subst hl3; exact nx_kt_ok (k := 1) htb.2.2.2 X hd h kk
              · cases h
            · split at h
              · rename_i hl3; subst hl3; exact nx_kt_ok (k := 2) htb.2.2.2 X hd h kk
              · cases h
            · split at h
              · rename_i hpu
                obtain ⟨z, hz, rfl⟩ := Option.map_eq_some_iff.mp h
                exact fun H locs ws ta h1 h2 hk0 h3 h4 h5 h6 => tr_ast_ok X hK h3 h4 h5 h6 hd hz (fun H1 locs1 w1 a1 a2 a3 a4 a5 => kk _ List.mem_cons_self H1 locs1 w1 ta h1 (fun q => by rw [hpu.1] at q; cases q) (kp_trans h1 hk0 (a5 _ (fun rr hrr => List.all_eq_true.mp hpu.2 rr hrr))) a1 a2 a3 a4)
              · cases h
end M13
