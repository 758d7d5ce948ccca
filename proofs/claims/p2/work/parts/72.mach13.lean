/-! one step of the check -/
def tr1 (nL : Nat) (i : ClassFile.Instr) (len : Nat) (y : sy_T) : Option sy_T := match tr_pk i len y with
  | some z => some z
  | none => match tr_ld i len y with
    | some z => some z
    | none => match tr_st nL i len y with
      | some z => some z
      | none => match tr_opi i len y with
        | some z => some z
        | none => match tr_opl i len y with
          | some z => some z
          | none => match tr_dv i len y with
            | some z => some z
            | none => match tr_un i len y with
              | some z => some z
              | none => tr_inc nL i len y
abbrev ft_L : Type := List (Nat × Nat × Nat)
abbrev pt_L : Type := List (Nat × Nat × Nat × FieldType)
abbrev ct_L : Type := List (Nat × Nat × en_T)
abbrev kt_L : Type := List (Nat × Nat × Value × tv_T)
def op_of (k idx : Nat) : ClassFile.Instr := match k with
  | 0 => .invokestatic idx
  | 1 => .invokevirtual idx
  | _ => .invokespecial idx
/-- what looks at things that never change: a pure call of its own -/
def ro_op (k idx : Nat) : ClassFile.Instr × Nat := match k with
  | 0 => (.ldc idx, 2)
  | 1 => (.ldc_w idx, 3)
  | 2 => (.getstatic idx, 3)
  | 3 => (.getfield idx, 3)
  | 4 => (.arraylength, 1)
  | 5 => (.baload, 1)
  | _ => (.iaload, 1)
def opl (k idx : Nat) : ClassFile.Instr × Nat := if k < 1000000 then (op_of (k % 3) idx, 3) else ro_op (k - 1000000) idx
def ro_k (i : ClassFile.Instr) : Nat × Nat := match i with
  | .ldc idx => (0, idx)
  | .ldc_w idx => (1, idx)
  | .getstatic idx => (2, idx)
  | .getfield idx => (3, idx)
  | .arraylength => (4, 0)
  | .baload => (5, 0)
  | .iaload => (6, 0)
  | _ => (9, 0)
def kt_op (k idx : Nat) : ClassFile.Instr × Nat := match k with
  | 0 => (.ldc idx, 2)
  | 1 => (.ldc_w idx, 3)
  | _ => (.ldc2_w idx, 3)
abbrev nx_T : Type := Nat × sy_T × Nat × Nat × List fc_T
/-! facts are written down where there is one already -/
def recs (fs L : List fc_T) : List fc_T := if fs.isEmpty then [] else L ++ fs
def ml_in (t u : tv_T) : Bool := decide (-2147483648 ≤ mn2 (mn2 (t.2.1 * u.2.1) (t.2.1 * u.2.2.1)) (mn2 (t.2.2.1 * u.2.1) (t.2.2.1 * u.2.2.1))) && decide (mx2 (mx2 (t.2.1 * u.2.1) (t.2.1 * u.2.2.1)) (mx2 (t.2.2.1 * u.2.1) (t.2.2.1 * u.2.2.1)) ≤ 2147483647)
def fc_op (i : ClassFile.Instr) (y : sy_T) : List fc_T := match y.2.2.1 with
  | b :: a :: _ => (match y.1[a]?, y.1[b]? with
    | some t, some u => if t.1 = 0 ∧ u.1 = 0 then (match i with
      | .iadd => if ad_in t u then [(1, [y.1.length, a, b], [])] else []
      | .isub => if sb_in t u then [(2, [y.1.length, a, b], [])] else []
      | .imul => if ml_in t u then [(3, [y.1.length, a, b], [])] else []
      | .ishr => if u.2.1 = u.2.2.1 ∧ 0 ≤ u.2.1 ∧ u.2.1 ≤ 31 then [(11, [y.1.length, a], [((2 ^ u.2.1.toNat : Nat) : Int)])] else []
      | .ishl => if u.2.1 = u.2.2.1 ∧ 0 ≤ u.2.1 ∧ u.2.1 ≤ 30 ∧ 0 ≤ t.2.1 ∧ t.2.2.1 * ((2 ^ u.2.1.toNat : Nat) : Int) ≤ 2147483647 then [(15, [y.1.length, a], [((2 ^ u.2.1.toNat : Nat) : Int)])] else []
      | .iand => if u.2.1 = u.2.2.1 ∧ 0 ≤ u.2.1 ∧ 0 ≤ t.2.1 ∧ u.2.1.toNat + 1 = 2 ^ (u.2.1.toNat + 1).log2 then [(12, [y.1.length, a], [u.2.1 + 1])] else []
      | .ior => if 0 ≤ t.2.1 ∧ 0 ≤ u.2.1 then [(13, [y.1.length, a, b], [])] else []
      | _ => []) else []
    | _, _ => [])
  | _ => []
/-- the same, by bits -/
def fc_bit (i : ClassFile.Instr) (y : sy_T) : List fc_T := match y.2.2.1 with
  | b :: a :: _ => (match y.1[a]?, y.1[b]? with
    | some t, some u => if t.1 = 0 ∧ u.1 = 0 then (match i with
      | .iand => [(16, [y.1.length, a, b], [0])]
      | .ior => [(16, [y.1.length, a, b], [1])]
      | .ixor => [(16, [y.1.length, a, b], [2])]
      | .ishl => if 0 ≤ u.2.1 ∧ u.2.2.1 ≤ 31 then [(16, [y.1.length, a, b], [3])] else []
      | .ishr => if 0 ≤ u.2.1 ∧ u.2.2.1 ≤ 31 ∧ 0 ≤ t.2.1 then [(16, [y.1.length, a, b], [4])] else []
      | _ => []) else []
    | _, _ => [])
  | _ => []
def fc_cv (i : ClassFile.Instr) (y : sy_T) : List fc_T := match un_r i, y.2.2.1 with
  | some q, a :: _ => (match y.1[a]? with
    | some t => if (t.1 = 0 ∨ t.1 = 1) ∧ q.1 ≤ t.2.1 ∧ t.2.2.1 ≤ q.2.1 then (if q.2.2 = 1 then [(22, [y.1.length, a], [])] else [(15, [y.1.length, a], [q.2.2])]) else []
    | none => [])
  | _, _ => []
def fc_inc (i : ClassFile.Instr) (y : sy_T) : List fc_T := match i with
  | .iinc j n => (match sy_find y.2.1 j with
    | some a => (match y.1[a]? with
      | some t => if t.1 = 0 ∧ of_in (Int32.ofInt n).toInt t = true then [(6, [y.1.length, a], [(Int32.ofInt n).toInt])] else []
      | none => [])
    | none => [])
  | _ => []
def fc_ald (i : ClassFile.Instr) (y : sy_T) : List fc_T := match i with
  | .aaload => (match y.2.2.1 with
    | b :: a :: _ => [(14, [y.1.length, a, b], [])]
    | _ => [])
  | _ => (match y.2.2.1 with
    | b :: a :: _ => [(10, [y.1.length, a, b], [])]
    | _ => [])
def fc_get (k : Nat) (y z : sy_T) : List fc_T := match y.2.2.1, z.2.2.1 with
  | a :: _, n :: _ => if sy_mfind z a k = some n then [(9, [n, a], [(k : Int)])] else []
  | _, _ => []
def fc_ast (i : ClassFile.Instr) (y : sy_T) : fc_T := match y.2.2.1 with
  | d :: b :: a :: _ => (match i with
    | .bastore => (match y.1[d]? with
      | some t => if t.1 = 0 ∧ 0 ≤ t.2.1 ∧ t.2.2.1 ≤ 1 then (100, [a, b, d], []) else (103, [a], [])
      | none => (103, [a], []))
    | _ => (100, [a, b, d], []))
  | _ => (104, [], [])
def fc_put (k : Nat) (y : sy_T) : fc_T := match y.2.2.1 with
  | d :: a :: _ => (101, [a, d], [(k : Int)])
  | _ => (104, [], [])
def stp (fs : List fc_T) (f : fc_T) : List fc_T := if fs.isEmpty then [] else f :: fs
def nx_call (G : List rg_T) (en : en_T) (CT : ct_L) (k idx pc : Nat) (y : sy_T) (ce sl : Nat) (fs : List fc_T) : Option (List nx_T) := match CT.find? (fun q => decide (q.1 < 1000000) && (q.1 == k || (q.1 == k + 3 * (pc + 1) && ag_chk y q.2.2.1 (y.2.2.1.take q.2.2.1.length).reverse)) && q.2.1 == idx) with
  | some q => if q.2.2.2.2.2.1 + 1 ≤ en.2.2.2.1 ∧ ce + q.2.2.2.2.2.2.1 ≤ en.2.2.2.2.1 ∧ sl + q.2.2.2.2.2.2.2.1 ≤ en.2.2.2.2.2.1 ∧ (en.2.2.1 = true → q.2.2.2.2.1 = true) ∧ (q.2.2.2.2.2.2.2.2.2.2.2.1.all (fun w => en.2.2.2.2.2.2.2.2.2.1.contains w)) = true ∧ q.2.2.2.2.2.2.2.2.2.2.1 ||| en.2.2.2.2.2.2.2.2.1 = en.2.2.2.2.2.2.2.2.1 then (tr_call G q.2.2 y fs).map (fun L => L.map (fun z => (pc + 3, z.1, ce + q.2.2.2.2.2.2.1, sl + q.2.2.2.2.2.2.2.1, z.2))) else none
  | none => none
def nx_kt (KT : kt_L) (k idx pc : Nat) (y : sy_T) (ce sl : Nat) (fs : List fc_T) : Option (List nx_T) := match KT.find? (fun q => q.1 == k && q.2.1 == idx) with
  | some q => some [(pc + (kt_op k idx).2, sy_push y q.2.2.2 y.2.2.1, ce, sl, fs)]
  | none => none
def nx2 (en : en_T) (G : List rg_T) (FT : ft_L) (PT : pt_L) (CT : ct_L) (KT : kt_L) (NT : nt_L) (pc : Nat) (i : ClassFile.Instr) (len : Nat) (y : sy_T) (ce sl : Nat) (fs : List fc_T) : Option (List nx_T) := match i with
  | .getfield idx => if len = 3 then (match FT.find? (fun q => q.1 == idx) with
    | some q => (tr_get G q.2.1 q.2.2 y).map (fun z => [(pc + 3, z, ce, sl, recs fs (fc_get q.2.2 y z))])
    | none => none) else none
  | .putfield idx => if len = 3 ∧ en.2.2.1 = false then (match PT.find? (fun q => q.1 == idx) with
    | some q => if en.2.2.2.2.2.2.2.2.2.1.contains (q.2.1, q.2.2.1) = true then (tr_put G q.2.1 q.2.2.1 q.2.2.2 y).map (fun z => [(pc + 3, z, ce, sl, stp fs (fc_put q.2.2.1 y))]) else none
    | none => none) else none
  | .invokestatic idx => if len = 3 then nx_call G en CT 0 idx pc y ce sl fs else none
  | .invokevirtual idx => if len = 3 then nx_call G en CT 1 idx pc y ce sl fs else none
  | .invokespecial idx => if len = 3 then nx_call G en CT 2 idx pc y ce sl fs else none
  | .ldc idx => if len = 2 then nx_kt KT 0 idx pc y ce sl fs else none
  | .ldc_w idx => if len = 3 then nx_kt KT 1 idx pc y ce sl fs else none
  | .ldc2_w idx => if len = 3 then nx_kt KT 2 idx pc y ce sl fs else none
  | _ => if en.2.2.1 = false ∧ (ast_rs y).all (fun rr => en.2.2.2.2.2.2.2.2.1.testBit rr) = true then (tr_ast G i len y fs).map (fun z => [(pc + len, z, ce, sl, stp fs (fc_ast i y))]) else none
/-- which kind of instruction, so that the right rule is tried at once -/
def ic (i : ClassFile.Instr) : Nat := match i with
  | .iconst _ => 0
  | .bipush _ => 0
  | .sipush _ => 0
  | .lconst _ => 0
  | .aconst_null => 0
  | .iload_n _ => 1
  | .iload _ => 1
  | .lload_n _ => 1
  | .lload _ => 1
  | .aload_n _ => 1
  | .aload _ => 1
  | .istore_n _ => 2
  | .istore _ => 2
  | .lstore_n _ => 2
  | .lstore _ => 2
  | .astore_n _ => 2
  | .astore _ => 2
  | .iadd => 3
  | .isub => 3
  | .imul => 3
  | .iand => 3
  | .ior => 3
  | .ixor => 3
  | .ishl => 3
  | .ishr => 3
  | .iushr => 3
  | .ladd => 4
  | .lsub => 4
  | .lmul => 4
  | .land => 4
  | .lor => 4
  | .lxor => 4
  | .idiv => 5
  | .irem => 5
  | .ldiv => 5
  | .lrem => 5
  | .lcmp => 5
  | .lshl => 5
  | .lshr => 5
  | .lushr => 5
  | .ineg => 6
  | .lneg => 6
  | .i2l => 6
  | .l2i => 6
  | .i2b => 6
  | .i2c => 6
  | .dup => 6
  | .pop => 6
  | .iinc _ _ => 7
  | .goto _ => 8
  | .if_icmp _ _ => 8
  | .ifCond _ _ => 8
  | .ifnull _ => 8
  | .ifnonnull _ => 8
  | .tableswitch _ _ _ _ => 9
  | .iaload => 10
  | .baload => 10
  | .laload => 10
  | .aaload => 10
  | .arraylength => 11
  | .newarray _ => 14
  | .dup2 => 13
  | .pop2 => 13
  | _ => 12
def nxo (nL : Nat) (en : en_T) (G : List rg_T) (FT : ft_L) (PT : pt_L) (CT : ct_L) (KT : kt_L) (NT : nt_L) (pc : Nat) (i : ClassFile.Instr) (len : Nat) (y : sy_T) (ce sl : Nat) (fs : List fc_T) : Option (List nx_T) := match ic i with
  | 0 => (tr_pk i len y).map (fun z => [(pc + len, z, ce, sl, fs)])
  | 1 => (tr_ld i len y).map (fun z => [(pc + len, z, ce, sl, fs)])
  | 2 => (tr_st nL i len y).map (fun z => [(pc + len, z, ce, sl, fs)])
  | 3 => (tr_opi i len y).map (fun z => [(pc + len, z, ce, sl, recs fs (fc_op i y ++ fc_bit i y))])
  | 4 => (tr_opl i len y).map (fun z => [(pc + len, z, ce, sl, recs fs (fc_opl i y))])
  | 5 => (match tr_dw i len y fs with
    | some z => some [(pc + len, z.1, ce, sl, recs fs z.2)]
    | none => (tr_dv i len y).map (fun z => [(pc + len, z, ce, sl, fs)]))
  | 6 => (tr_un i len y).map (fun z => [(pc + len, z, ce, sl, recs fs (fc_cv i y))])
  | 7 => (tr_inc nL i len y).map (fun z => [(pc + len, z, ce, sl, recs fs (fc_inc i y))])
  | 8 => (br_next pc i len y).map (fun L => L.map (fun q => (q.1, q.2.1, ce, sl, recs fs q.2.2)))
  | 9 => (tr_sw pc i y).map (fun L => L.map (fun q => (q.1, q.2, ce, sl, fs)))
  | 10 => (tr_ald G i len y).map (fun z => [(pc + len, z, ce, sl, recs fs (fc_ald i y))])
  | 11 => (tr_len G i len y).map (fun z => [(pc + len, z, ce, sl, fs)])
  | 12 => nx2 en G FT PT CT KT NT pc i len y ce sl fs
  | 14 => (match tr_new G NT pc i len y with
    | some q => if en.2.2.1 = false ∧ ce + 1 ≤ en.2.2.2.2.1 ∧ sl + q.2 ≤ en.2.2.2.2.2.1 then some [(pc + len, q.1, ce + 1, sl + q.2, stp fs (fc_call y.1.length (0, [], [], [], [])))] else none
    | none => none)
  | _ => (match tr_dv i len y with
    | some z => some [(pc + len, z, ce, sl, fs)]
    | none => (tr_un i len y).map (fun z => [(pc + len, z, ce, sl, fs)]))
def nx_ro (en : en_T) (G : List rg_T) (CT : ct_L) (pc : Nat) (i : ClassFile.Instr) (y : sy_T) (ce sl : Nat) (fs : List fc_T) : Option (List nx_T) := match CT.find? (fun q => q.1 == 1000000 + (ro_k i).1 && q.2.1 == (ro_k i).2 && ag_chk y q.2.2.1 (y.2.2.1.take q.2.2.1.length).reverse) with
  | some q => if q.2.2.2.2.2.1 + 1 ≤ en.2.2.2.1 ∧ ce + q.2.2.2.2.2.2.1 ≤ en.2.2.2.2.1 ∧ sl + q.2.2.2.2.2.2.2.1 ≤ en.2.2.2.2.2.1 ∧ (en.2.2.1 = true → q.2.2.2.2.1 = true) ∧ (q.2.2.2.2.2.2.2.2.2.2.2.1.all (fun w => en.2.2.2.2.2.2.2.2.2.1.contains w)) = true ∧ q.2.2.2.2.2.2.2.2.2.2.1 ||| en.2.2.2.2.2.2.2.2.1 = en.2.2.2.2.2.2.2.2.1 then (tr_call G q.2.2 y fs).map (fun L => L.map (fun z => (pc + (ro_op (ro_k i).1 (ro_k i).2).2, z.1, ce + q.2.2.2.2.2.2.1, sl + q.2.2.2.2.2.2.2.1, z.2))) else none
  | none => none
/-- a name that may be one of several things that never change: each of them by itself -/
def ro_many (y : sy_T) : Option (Nat × List Nat) := y.2.2.1.findSome? (fun n => match y.1[n]? with
  | some t => if t.1 = 2 ∧ 2 ≤ t.2.2.2.length ∧ t.2.2.2.length ≤ 4 ∧ (t.2.2.2.all (fun r => decide (5000 ≤ r))) = true then some (n, t.2.2.2) else none
  | none => none)
def nx (nL : Nat) (en : en_T) (G : List rg_T) (FT : ft_L) (PT : pt_L) (CT : ct_L) (KT : kt_L) (NT : nt_L) (pc : Nat) (i : ClassFile.Instr) (len : Nat) (y : sy_T) (ce sl : Nat) (fs : List fc_T) : Option (List nx_T) :=
  if (ro_k i).1 = 9 then (match i with
    | .invokevirtual _ => (match ro_many y with
      | some q => some (q.2.map (fun r => (pc, (y.1.set q.1 (2, 0, 0, [r]), y.2), ce, sl, fs)))
      | none => nxo nL en G FT PT CT KT NT pc i len y ce sl fs)
    | _ => nxo nL en G FT PT CT KT NT pc i len y ce sl fs) else match nx_ro en G CT pc i y ce sl fs with
  | some L => if len = (ro_op (ro_k i).1 (ro_k i).2).2 then some L else none
  | none => nxo nL en G FT PT CT KT NT pc i len y ce sl fs
/-- the tables of a class are as they should be -/
def tb_ok (l : Launch) (D : va_G) (kA : Nat → ClassId) (G : List rg_T) (own : String) (FT : ft_L) (PT : pt_L) (CT : ct_L) (KT : kt_L) (NT : nt_L) : Prop :=
  (∀ q ∈ FT, gf_rule own q.1 q.2.1 q.2.2) ∧ (∀ q ∈ PT, pf_rule own q.1 q.2.1 q.2.2.1 q.2.2.2) ∧ (∀ q ∈ CT, cl_ok l D kA G own (opl q.1 q.2.1).1 (opl q.1 q.2.1).2 q.2.2) ∧ (∀ q ∈ KT, kt_rule own (kt_op q.1 q.2.1).1 (kt_op q.1 q.2.1).2 q.2.2.1 ∧ ∀ ta, tv_ok ta q.2.2.2 q.2.2.1) ∧ (∀ q ∈ NT, Cond.arrayClass (newarray.typeOf q.2.2) ∈ lw_g) ∧ pl_good G
section M13
variable {p : Program} {l : Launch} {e : Env} {s : State} {m : MethodId} {args : Array Value} {below : List Frame} {meth : Method} {c : Code} {Q : State → Prop} {cc : ByteArray} {pc : Nat} {i : ClassFile.Instr} {len nL : Nat} {v0 : List Value} {ta0 : Nat → Option Nat} {ws0 : va_W} {y : sy_T} {D : va_G} {kA : Nat → ClassId} {G : List rg_T} {A : Nat → Prop} {ret : Option FieldType} {own nm : String} {en : en_T} {FT : ft_L} {PT : pt_L} {CT : ct_L} {KT : kt_L} {NT : nt_L} {ce sl : Nat} {fs : List fc_T}
/-- from every world that may be here -/
def sy_J (p : Program) (l : Launch) (e : Env) (s : State) (m : MethodId) (args : Array Value) (below : List Frame) (meth : Method) (c : Code) (Q : State → Prop) (D : va_G) (kA : Nat → ClassId) (G : List rg_T) (A : Nat → Prop) (en : en_T) (ta0 : Nat → Option Nat) (ws0 : va_W) (nL : Nat) (v0 : List Value) (n : nx_T) : Prop :=
  ∀ (H : Heap) (locs : List Loc) (ws : va_W) (ta : Nat → Option Nat), ta_le ta0 ta → (en.2.2.1 = true → (ta, ws) = (ta0, ws0)) → kp en.2.2.2.2.2.2.2.2 ta0 ws0 ws → va_P D classes ws H → va_D A ws → va_S A s.heap H locs → th_ok kA G ta ws → sF_go p l e (rm_of en.2.2.2.1 en.2.2.2.2.1 en.2.2.2.2.2.1) s m args below meth c H locs n.2.2.1 n.2.2.2.1 Q nL v0 ta ws n.1 n.2.1 n.2.2.2.2
theorem tr1_ok {H : Heap} {locs : List Loc} {R : Room} {cells slots : Nat} {ta : Nat → Option Nat} {ws : va_W} {z : sy_T} (hx : p.tables.exec = Jvm.exec) (hb : c.code = cc) (hd : decode cc pc = .ok (i, len)) (h : tr1 nL i len y = some z) (k : sy_go p l e R s m args below meth c H locs cells slots Q nL v0 ta ws (pc + len) z) : sy_go p l e R s m args below meth c H locs cells slots Q nL v0 ta ws pc y := by
  unfold tr1 at h
  split at h
  · rename_i h1; obtain rfl := Option.some.inj h; exact tr_pk_ok hx hb hd h1 k
  · split at h
    · rename_i h1; obtain rfl := Option.some.inj h; exact tr_ld_ok hx hb hd h1 k
    · split at h
      · rename_i h1; obtain rfl := Option.some.inj h; exact tr_st_ok hx hb hd h1 k
      · split at h
        · rename_i h1; obtain rfl := Option.some.inj h; exact tr_opi_ok hx hb hd h1 k
        · split at h
          · rename_i h1; obtain rfl := Option.some.inj h; exact tr_opl_ok hx hb hd h1 k
          · split at h
            · rename_i h1; obtain rfl := Option.some.inj h; exact tr_dv_ok hx hb hd h1 k
            · split at h
              · rename_i h1; obtain rfl := Option.some.inj h; exact tr_un_ok hx hb hd h1 k
              · exact tr_inc_ok hx hb hd h k
theorem fc_app {fs : List fc_T} {ta : Nat → Option Nat} {ws : va_W} {vs : List Value} (h : fc_ok fs ta ws vs) : ∀ {L : List fc_T}, (∀ f ∈ L, f.1 < 100 ∧ fc_1 f ws vs) → fc_ok (L ++ fs) ta ws vs
  | [], _ => h
  | f :: L, hL => fc_cons (hL f List.mem_cons_self).1 (hL f List.mem_cons_self).2 (fc_app h (fun g hg => hL g (List.mem_cons_of_mem _ hg)))
theorem recs_ok {fs L : List fc_T} {ta : Nat → Option Nat} {ws : va_W} {vs : List Value} (h : fc_ok fs ta ws vs) (hL : ∀ f ∈ L, f.1 < 100 ∧ fc_1 f ws vs) : fc_ok (recs fs L) ta ws vs := by
  unfold recs
  split
  · trivial
  · exact fc_app h hL
theorem stp_ok {fs : List fc_T} {f : fc_T} {ta : Nat → Option Nat} {ws w1 : va_W} {vs : List Value} (h : fc_ok fs ta ws vs) (hl : ¬ f.1 < 100) (hs : fc_s f ta ws w1 vs) : fc_ok (stp fs f) ta w1 vs := by
  unfold stp
  split
  · trivial
  · exact fc_step hl (fun _ _ q => q) hs h
theorem stp_call {N : Nat} {fs : List fc_T} {mo : mo_T} {ta tb : Nat → Option Nat} {ws w1 : va_W} {vs : List Value} (h : fc_ok fs ta ws vs) (hle : ta_le ta tb) (hs : fc_s (fc_call N mo) ta ws w1 vs) : fc_ok (stp fs (fc_call N mo)) tb w1 vs := by
  unfold stp
  split
  · trivial
  · exact fc_step (by simp [fc_call]) hle hs h
theorem pre_val {vs vs' : List Value} (h : vs <+: vs') {n : Nat} {v w : Value} (hn : n < vs.length) (hw : vs'[n]? = some w) : vs[n]? = some w := by
  obtain ⟨t, rfl⟩ := h
  rw [List.getElem?_append_left hn] at hw; exact hw
theorem n3 {P : Nat → Prop} {a b d : Nat} (h1 : P a) (h2 : P b) (h3 : P d) : ∀ n ∈ [a, b, d], P n := fun n hn => by
  rcases List.mem_cons.mp hn with rfl | hn
  · exact h1
  · rcases List.mem_cons.mp hn with rfl | hn
    · exact h2
    · obtain rfl := List.mem_singleton.mp hn; exact h3
theorem n2 {P : Nat → Prop} {a b : Nat} (h1 : P a) (h2 : P b) : ∀ n ∈ [a, b], P n := fun n hn => by
  rcases List.mem_cons.mp hn with rfl | hn
  · exact h1
  · obtain rfl := List.mem_singleton.mp hn; exact h2
theorem shl_eq {t : tv_T} {x z : Int32} {k : Int} (h0 : 0 ≤ t.2.1) (hm : t.2.2.1 * ((2 ^ k.toNat : Nat) : Int) ≤ 2147483647) (x1 : t.2.1 ≤ x.toInt) (x2 : x.toInt ≤ t.2.2.1) (ez : z.toInt = k) (k0 : 0 ≤ k) (k1 : k ≤ 30) : (x <<< (z &&& 31)).toInt = x.toInt * ((2 ^ k.toNat : Nat) : Int) := by
  have e := pk_shl x (z &&& 31) z.toInt.toNat (sh_at rfl (by omega) (by omega))
  obtain ⟨e1, e2⟩ := nn_nat (x := x) (by omega)
  rw [e1, ez] at e
  have p0 : 0 < 2 ^ k.toNat := Nat.pow_pos (by decide)
  generalize 2 ^ k.toNat = P at *
  have m1 : x.toInt * (P : Int) ≤ t.2.2.1 * (P : Int) := Int.mul_le_mul_of_nonneg_right x2 (by omega)
  have m3 : ((x.toInt.toNat * P : Nat) : Int) = x.toInt * (P : Nat) := by rw [Int.natCast_mul, Int.toNat_of_nonneg (by omega)]
  rw [Nat.mod_eq_of_lt (by omega)] at e
  have e5 := nat_nn (x := x <<< (z &&& 31)) (by omega)
  omega
theorem and_mod {x z : Int32} (hx : 0 ≤ x.toInt) (hz : 0 ≤ z.toInt) (h : z.toInt.toNat + 1 = 2 ^ (z.toInt.toNat + 1).log2) : (x &&& z).toInt = x.toInt % (z.toInt + 1) := by
  obtain ⟨e1, b1⟩ := nn_nat hx
  obtain ⟨e2, b2⟩ := nn_nat hz
  have e3 : (x &&& z).toBitVec.toNat = x.toBitVec.toNat &&& z.toBitVec.toNat := by rw [Int32.toBitVec_and, BitVec.toNat_and]
  have hz1 : z.toBitVec.toNat = 2 ^ (z.toInt.toNat + 1).log2 - 1 := by omega
  rw [hz1, Nat.and_two_pow_sub_one_eq_mod, ← h, e1] at e3
  have hlt : x.toInt.toNat % (z.toInt.toNat + 1) < z.toInt.toNat + 1 := Nat.mod_lt _ (by omega)
  rw [nat_nn (x := x &&& z) (by omega), e3]
  have q1 : ((x.toInt.toNat : Nat) : Int) = x.toInt := Int.toNat_of_nonneg hx
  have q2 : ((z.toInt.toNat + 1 : Nat) : Int) = z.toInt + 1 := by omega
  rw [Int.natCast_emod, q1, q2]
theorem or_le_add : ∀ (n a b : Nat), a ≤ n → a ||| b ≤ a + b
  | 0, a, b, h => by
    have : a = 0 := by omega
    subst this
    rw [Nat.zero_or]; omega
  | n + 1, a, b, h => by
    by_cases h0 : a = 0
    · subst h0; rw [Nat.zero_or]; omega
    · have ih := or_le_add n (a / 2) (b / 2) (by omega)
      have e1 : (a ||| b) / 2 = a / 2 ||| b / 2 := Nat.or_div_two
      have e2 : (a ||| b) % 2 ≤ a % 2 + b % 2 := by
        have q := Nat.or_mod_two_eq_one (a := a) (b := b)
        rcases Nat.mod_two_eq_zero_or_one (a ||| b) with z | z
        · omega
        · rcases q.mp z with w | w <;> omega
      omega
theorem or_bds {x z : Int32} (hx : 0 ≤ x.toInt) (hz : 0 ≤ z.toInt) : (x ||| z).toInt ≤ x.toInt + z.toInt ∧ x.toInt ≤ (x ||| z).toInt ∧ z.toInt ≤ (x ||| z).toInt ∧ (x ||| z).toInt.toNat = x.toInt.toNat ||| z.toInt.toNat := by
  obtain ⟨e1, b1⟩ := nn_nat hx
  obtain ⟨e2, b2⟩ := nn_nat hz
  have e3 : (x ||| z).toBitVec.toNat = x.toBitVec.toNat ||| z.toBitVec.toNat := by rw [Int32.toBitVec_or, BitVec.toNat_or]
  have h1 := or_le_add _ x.toBitVec.toNat z.toBitVec.toNat (Nat.le_refl _)
  have h2 : x.toBitVec.toNat ≤ x.toBitVec.toNat ||| z.toBitVec.toNat := Nat.left_le_or
  have h3 : z.toBitVec.toNat ≤ x.toBitVec.toNat ||| z.toBitVec.toNat := Nat.right_le_or
  have h4 : x.toBitVec.toNat ||| z.toBitVec.toNat < 2 ^ 31 := Nat.or_lt_two_pow b1 b2
  have h5 : x.toBitVec.toNat ||| z.toBitVec.toNat < 2147483648 := h4
  rw [nat_nn (x := x ||| z) (by omega), e3, ← e1, ← e2]
  refine ⟨?_, ?_, ?_, by rw [Int.toNat_natCast]⟩ <;> omega
theorem fc_op_ok {ta : Nat → Option Nat} {ws : va_W} {vs vs' : List Value} {ls : Array Slot} {st : List Value} (hy : sy_ok ta ws vs ls nL st y) (hp : vs <+: vs') (hX : op_X i y vs') : ∀ f ∈ fc_op i y, f.1 < 100 ∧ ∀ w, fc_1 f w vs' := by
  unfold fc_op
  split
  · rename_i b a r hst
    split
    · rename_i t u hta hub
      split
      · rename_i hk
        have la : a < vs.length := by rw [hy.1.1]; exact (List.getElem?_eq_some_iff.mp hta).1
        have lb : b < vs.length := by rw [hy.1.1]; exact (List.getElem?_eq_some_iff.mp hub).1
        have bd : ∀ {x z : Int32}, vs'[a]? = some (.int x) → vs'[b]? = some (.int z) → t.2.1 ≤ x.toInt ∧ x.toInt ≤ t.2.2.1 ∧ u.2.1 ≤ z.toInt ∧ z.toInt ≤ u.2.2.1 := fun h1 h2 => by
          obtain ⟨x', e1, x1, x2⟩ := tv_int (hy.1.2 a t _ hta (pre_val (v := .null) hp la h1)) hk.1
          obtain ⟨z', e2, z1, z2⟩ := tv_int (hy.1.2 b u _ hub (pre_val (v := .null) hp lb h2)) hk.2
          cases e1; cases e2
          exact ⟨x1, x2, z1, z2⟩
        split
        · split
          · rename_i hin
            intro f hf
            obtain rfl := List.mem_singleton.mp hf
            obtain ⟨x, z, h1, h2, h3⟩ := hX _ _ rfl a b r hst
            obtain ⟨x1, x2, z1, z2⟩ := bd h1 h2
            simp only [ad_in, Bool.and_eq_true, decide_eq_true_eq] at hin
            refine ⟨by simp, fun w => ⟨n3 (n_lt h3) (n_lt h1) (n_lt h2), ?_⟩⟩
            show n_iv vs' _ = n_iv vs' a + n_iv vs' b
            rw [n_iv_of h1, n_iv_of h2, n_iv_of h3, Int32.toInt_add, iv_bm (lo := t.2.1 + u.2.1) (hi := t.2.2.1 + u.2.2.1) (by omega) (by omega) hin.1 hin.2]
          · intro f hf; cases hf
        · split
          · rename_i hin
            intro f hf
            obtain rfl := List.mem_singleton.mp hf
            obtain ⟨x, z, h1, h2, h3⟩ := hX _ _ rfl a b r hst
            obtain ⟨x1, x2, z1, z2⟩ := bd h1 h2
            simp only [sb_in, Bool.and_eq_true, decide_eq_true_eq] at hin
            refine ⟨by simp, fun w => ⟨n3 (n_lt h3) (n_lt h1) (n_lt h2), ?_⟩⟩
            show n_iv vs' _ = n_iv vs' a - n_iv vs' b
            rw [n_iv_of h1, n_iv_of h2, n_iv_of h3, Int32.toInt_sub, iv_bm (lo := t.2.1 - u.2.2.1) (hi := t.2.2.1 - u.2.1) (by omega) (by omega) hin.1 hin.2]
          · intro f hf; cases hf
        · split
          · rename_i hin
            intro f hf
            obtain rfl := List.mem_singleton.mp hf
            obtain ⟨x, z, h1, h2, h3⟩ := hX _ _ rfl a b r hst
            obtain ⟨x1, x2, z1, z2⟩ := bd h1 h2
            simp only [ml_in, Bool.and_eq_true, decide_eq_true_eq] at hin
            have hm := mul_iv x1 x2 z1 z2
            refine ⟨by simp, fun w => ⟨n3 (n_lt h3) (n_lt h1) (n_lt h2), ?_⟩⟩
            show n_iv vs' _ = n_iv vs' a * n_iv vs' b
            rw [n_iv_of h1, n_iv_of h2, n_iv_of h3, Int32.toInt_mul, iv_bm hm.1 hm.2 hin.1 hin.2]
          · intro f hf; cases hf
        · split
          · rename_i hin
            intro f hf
            obtain rfl := List.mem_singleton.mp hf
            obtain ⟨x, z, h1, h2, h3⟩ := hX _ _ rfl a b r hst
            obtain ⟨x1, x2, z1, z2⟩ := bd h1 h2
            refine ⟨by simp, fun w => ⟨n2 (n_lt h3) (n_lt h1), ?_⟩⟩
            show n_iv vs' _ = n_iv vs' a / ((2 ^ u.2.1.toNat : Nat) : Int)
            have ez : z.toInt = u.2.1 := by omega
            rw [n_iv_of h1, n_iv_of h3, pk_shr x (z &&& 31) z.toInt.toNat (sh_at rfl (by omega) (by omega)), Int.shiftRight_eq_div_pow, ez]
          · intro f hf; cases hf
        · split
          · rename_i hin
            intro f hf
            obtain rfl := List.mem_singleton.mp hf
            obtain ⟨x, z, h1, h2, h3⟩ := hX _ _ rfl a b r hst
            obtain ⟨x1, x2, z1, z2⟩ := bd h1 h2
            refine ⟨by simp, fun w => ⟨n2 (n_lt h3) (n_lt h1), ?_⟩⟩
            show n_iv vs' _ = n_iv vs' a * ((2 ^ u.2.1.toNat : Nat) : Int)
            have ez : z.toInt = u.2.1 := by omega
            rw [n_iv_of h1, n_iv_of h3]
            exact shl_eq hin.2.2.2.1 hin.2.2.2.2 x1 x2 ez hin.2.1 hin.2.2.1
          · intro f hf; cases hf
        · split
          · rename_i hin
            intro f hf
            obtain rfl := List.mem_singleton.mp hf
            obtain ⟨x, z, h1, h2, h3⟩ := hX _ _ rfl a b r hst
            obtain ⟨x1, x2, z1, z2⟩ := bd h1 h2
            refine ⟨by simp, fun w => ⟨n2 (n_lt h3) (n_lt h1), ?_⟩⟩
            show n_iv vs' _ = n_iv vs' a % (u.2.1 + 1)
            have ez : z.toInt = u.2.1 := by omega
            rw [n_iv_of h1, n_iv_of h3, ← ez]
            exact and_mod (by omega) (by omega) (by rw [ez]; exact hin.2.2.2)
          · intro f hf; cases hf
        · split
          · rename_i hin
            intro f hf
            obtain rfl := List.mem_singleton.mp hf
            obtain ⟨x, z, h1, h2, h3⟩ := hX _ _ rfl a b r hst
            obtain ⟨x1, x2, z1, z2⟩ := bd h1 h2
            refine ⟨by simp, fun w => ⟨n3 (n_lt h3) (n_lt h1) (n_lt h2), ?_⟩⟩
            show n_iv vs' _ ≤ n_iv vs' a + n_iv vs' b ∧ n_iv vs' a ≤ n_iv vs' _ ∧ n_iv vs' b ≤ n_iv vs' _ ∧ (n_iv vs' _).toNat = (n_iv vs' a).toNat ||| (n_iv vs' b).toNat
            rw [n_iv_of h1, n_iv_of h2, n_iv_of h3]
            exact or_bds (by omega) (by omega)
          · intro f hf; cases hf
        · intro f hf; cases hf
      · intro f hf; cases hf
    · intro f hf; cases hf
  · intro f hf; cases hf
theorem bv_i (x : Int32) : bv x.toInt = x.toBitVec := by
  show BitVec.ofInt 32 x.toBitVec.toInt = x.toBitVec
  exact BitVec.ofInt_toInt
theorem fc_bit_ok {ta : Nat → Option Nat} {ws : va_W} {vs vs' : List Value} {ls : Array Slot} {st : List Value} (hy : sy_ok ta ws vs ls nL st y) (hp : vs <+: vs') (hX : op_X i y vs') : ∀ f ∈ fc_bit i y, f.1 < 100 ∧ ∀ w, fc_1 f w vs' := by
  unfold fc_bit
  split
  · rename_i b a r hst
    split
    · rename_i t u hta hub
      split
      · rename_i hk
        have la : a < vs.length := by rw [hy.1.1]; exact (List.getElem?_eq_some_iff.mp hta).1
        have lb : b < vs.length := by rw [hy.1.1]; exact (List.getElem?_eq_some_iff.mp hub).1
        have bd : ∀ {x z : Int32}, vs'[a]? = some (.int x) → vs'[b]? = some (.int z) → t.2.1 ≤ x.toInt ∧ x.toInt ≤ t.2.2.1 ∧ u.2.1 ≤ z.toInt ∧ z.toInt ≤ u.2.2.1 := fun h1 h2 => by
          obtain ⟨x', e1, x1, x2⟩ := tv_int (hy.1.2 a t _ hta (pre_val (v := .null) hp la h1)) hk.1
          obtain ⟨z', e2, z1, z2⟩ := tv_int (hy.1.2 b u _ hub (pre_val (v := .null) hp lb h2)) hk.2
          cases e1; cases e2
          exact ⟨x1, x2, z1, z2⟩
        split
        · intro f hf
          obtain rfl := List.mem_singleton.mp hf
          obtain ⟨x, z, h1, h2, h3⟩ := hX _ _ rfl a b r hst
          refine ⟨by simp, fun w => ⟨n3 (n_lt h3) (n_lt h1) (n_lt h2), ?_⟩⟩
          show bv (n_iv vs' _) = bv (n_iv vs' a) &&& bv (n_iv vs' b)
          rw [n_iv_of h1, n_iv_of h2, n_iv_of h3, bv_i, bv_i, bv_i, Int32.toBitVec_and]
        · intro f hf
          obtain rfl := List.mem_singleton.mp hf
          obtain ⟨x, z, h1, h2, h3⟩ := hX _ _ rfl a b r hst
          refine ⟨by simp, fun w => ⟨n3 (n_lt h3) (n_lt h1) (n_lt h2), ?_⟩⟩
          show bv (n_iv vs' _) = bv (n_iv vs' a) ||| bv (n_iv vs' b)
          rw [n_iv_of h1, n_iv_of h2, n_iv_of h3, bv_i, bv_i, bv_i, Int32.toBitVec_or]
        · intro f hf
          obtain rfl := List.mem_singleton.mp hf
          obtain ⟨x, z, h1, h2, h3⟩ := hX _ _ rfl a b r hst
          refine ⟨by simp, fun w => ⟨n3 (n_lt h3) (n_lt h1) (n_lt h2), ?_⟩⟩
          show bv (n_iv vs' _) = bv (n_iv vs' a) ^^^ bv (n_iv vs' b)
          rw [n_iv_of h1, n_iv_of h2, n_iv_of h3, bv_i, bv_i, bv_i, Int32.toBitVec_xor]
        · split
          · rename_i hin
            intro f hf
            obtain rfl := List.mem_singleton.mp hf
            obtain ⟨x, z, h1, h2, h3⟩ := hX _ _ rfl a b r hst
            obtain ⟨x1, x2, z1, z2⟩ := bd h1 h2
            refine ⟨by simp, fun w => ⟨n3 (n_lt h3) (n_lt h1) (n_lt h2), ?_⟩⟩
            show bv (n_iv vs' _) = bv (n_iv vs' a) <<< (n_iv vs' b).toNat
            rw [n_iv_of h1, n_iv_of h2, n_iv_of h3, bv_i, bv_i]
            apply BitVec.eq_of_toNat_eq
            rw [pk_shl x (z &&& 31) z.toInt.toNat (sh_at rfl (by omega) (by omega)), BitVec.toNat_shiftLeft, Nat.shiftLeft_eq]
          · intro f hf; cases hf
        · split
          · rename_i hin
            intro f hf
            obtain rfl := List.mem_singleton.mp hf
            obtain ⟨x, z, h1, h2, h3⟩ := hX _ _ rfl a b r hst
            obtain ⟨x1, x2, z1, z2⟩ := bd h1 h2
            refine ⟨by simp, fun w => ⟨n3 (n_lt h3) (n_lt h1) (n_lt h2), ?_⟩⟩
            show bv (n_iv vs' _) = bv (n_iv vs' a) >>> (n_iv vs' b).toNat
            rw [n_iv_of h1, n_iv_of h2, n_iv_of h3, bv_i, bv_i]
            have e1 := pk_shr x (z &&& 31) z.toInt.toNat (sh_at rfl (by omega) (by omega))
            rw [Int.shiftRight_eq_div_pow] at e1
            obtain ⟨e2, b2⟩ := nn_nat (x := x) (by omega)
            apply BitVec.eq_of_toNat_eq
            rw [BitVec.toNat_ushiftRight, Nat.shiftRight_eq_div_pow, e2]
            have q0 : 0 ≤ x.toInt / ((2 ^ z.toInt.toNat : Nat) : Int) := Int.ediv_nonneg (by omega) (Int.natCast_nonneg _)
            obtain ⟨e3, _⟩ := nn_nat (x := x >>> (z &&& 31)) (by rw [e1]; exact q0)
            rw [e3, e1]
            have e4 : ((x.toInt.toNat / 2 ^ z.toInt.toNat : Nat) : Int) = x.toInt / ((2 ^ z.toInt.toNat : Nat) : Int) := by rw [Int.natCast_ediv, Int.toNat_of_nonneg (by omega)]
            rw [← e4, Int.toNat_natCast]
          · intro f hf; cases hf
        · intro f hf; cases hf
      · intro f hf; cases hf
    · intro f hf; cases hf
  · intro f hf; cases hf
theorem fc_inc_ok {ta : Nat → Option Nat} {ws : va_W} {vs vs' : List Value} {ls : Array Slot} {st : List Value} (hy : sy_ok ta ws vs ls nL st y) (hp : vs <+: vs') (hX : inc_X i y vs') : ∀ f ∈ fc_inc i y, f.1 < 100 ∧ ∀ w, fc_1 f w vs' := by
  unfold fc_inc
  split
  · rename_i j n
    split
    · rename_i a hf0
      split
      · rename_i t hta
        split
        · rename_i hk
          intro f hf
          obtain rfl := List.mem_singleton.mp hf
          obtain ⟨x, h1, h3⟩ := hX j n rfl a hf0
          have la : a < vs.length := by rw [hy.1.1]; exact (List.getElem?_eq_some_iff.mp hta).1
          obtain ⟨x', e1, x1, x2⟩ := tv_int (hy.1.2 a t _ hta (pre_val (v := .null) hp la h1)) hk.1
          cases e1
          have hin := hk.2
          simp only [of_in, Bool.and_eq_true, decide_eq_true_eq] at hin
          refine ⟨by simp, fun w => ⟨n2 (n_lt h3) (n_lt h1), ?_⟩⟩
          show n_iv vs' _ = n_iv vs' a + (Int32.ofInt n).toInt
          rw [n_iv_of h1, n_iv_of h3, Int32.toInt_add, iv_bm (lo := t.2.1 + (Int32.ofInt n).toInt) (hi := t.2.2.1 + (Int32.ofInt n).toInt) (by omega) (by omega) hin.1 hin.2]
        · intro f hf; cases hf
      · intro f hf; cases hf
    · intro f hf; cases hf
  · intro f hf; cases hf
theorem fc_cv_ok {ta : Nat → Option Nat} {ws : va_W} {vs vs' : List Value} {ls : Array Slot} {st : List Value} (hy : sy_ok ta ws vs ls nL st y) (hp : vs <+: vs') (hX : un_X i y vs') : ∀ f ∈ fc_cv i y, f.1 < 100 ∧ ∀ w, fc_1 f w vs' := by
  unfold fc_cv
  split
  · rename_i q a r hq hst
    split
    · rename_i t hta
      split
      · rename_i hk
        obtain ⟨v, w, h1, h2, h3⟩ := hX q.1 q.2.1 q.2.2 hq a r hst
        have la : a < vs.length := by rw [hy.1.1]; exact (List.getElem?_eq_some_iff.mp hta).1
        have ht := hy.1.2 a t _ hta (pre_val (v := .null) hp la h1)
        have hb : t.2.1 ≤ v_iv v ∧ v_iv v ≤ t.2.2.1 := by
          rcases hk.1 with k0 | k1
          · obtain ⟨x, rfl, x1, x2⟩ := tv_int ht k0; exact ⟨x1, x2⟩
          · obtain ⟨x, rfl, x1, x2⟩ := tv_long ht k1; exact ⟨x1, x2⟩
        have e := h3 (by have := hk.2.1; omega) (by have := hk.2.2; omega)
        have ln : (y.1.length < vs'.length) := n_lt h2
        have e2 : v_iv (n_v vs' y.1.length) = q.2.2 * v_iv (n_v vs' a) := by rw [n_v_of h1, n_v_of h2]; exact e
        split
        · rename_i hs
          intro f hf
          obtain rfl := List.mem_singleton.mp hf
          refine ⟨by simp, fun w' => ⟨n2 ln (n_lt h1), ?_⟩⟩
          show v_iv (n_v vs' _) = v_iv (n_v vs' a)
          rw [e2, hs]; omega
        · intro f hf
          obtain rfl := List.mem_singleton.mp hf
          refine ⟨by simp, fun w' => ⟨n2 ln (n_lt h1), ?_⟩⟩
          show v_iv (n_v vs' _) = v_iv (n_v vs' a) * q.2.2
          rw [e2, Int.mul_comm]
      · intro f hf; cases hf
    · intro f hf; cases hf
  · intro f hf; cases hf
theorem w_el_arr {ws : va_W} {a j : Nat} {e : ClassId × vp_A} (h : w_at ws a = some (.inl e)) : w_el ws a j = el_E e j := by
  unfold w_el el_E
  rw [h]
  rcases e with ⟨c0, n0, f0 | f0 | f0 | f0 | f0⟩ <;> rfl
theorem n_ad_of {vs : List Value} {n a : Nat} (h : vs[n]? = some (.ref a)) : n_ad vs n = a := by unfold n_ad; rw [n_v_of h]; rfl
theorem fc_ald_ok {A : Nat → Prop} {ws : va_W} {vs' : List Value} (hD : va_D A ws) (hX : al_X i ws y vs') : ∀ f ∈ fc_ald i y, f.1 < 100 ∧ fc_1 f ws vs' := by
  unfold fc_ald
  split
  · split
    · rename_i b a r hst
      intro f hf
      obtain rfl := List.mem_singleton.mp hf
      obtain ⟨ad, x, e0, h1, h2, h3, h4, h5, h6⟩ := hX a b r hst
      refine ⟨by simp, n3 h5 (n_lt h1) (n_lt h2), ?_⟩
      show ((n_ad vs' _ : Nat) : Int) = w_el ws (n_ad vs' a) (n_iv vs' b).toNat
      rw [n_ad_of h1, n_iv_of h2, w_el_arr (w_at_mem hD h3)]
      rcases h6 with h6 | h6
      · exact h6.2
      · exact absurd rfl h6.1
    · intro f hf; cases hf
  · rename_i hni
    split
    · rename_i b a r hst
      intro f hf
      obtain rfl := List.mem_singleton.mp hf
      obtain ⟨ad, x, e0, h1, h2, h3, h4, h5, h6⟩ := hX a b r hst
      refine ⟨by simp, n3 h5 (n_lt h1) (n_lt h2), ?_⟩
      show n_iv vs' _ = w_el ws (n_ad vs' a) (n_iv vs' b).toNat
      rw [n_ad_of h1, n_iv_of h2, w_el_arr (w_at_mem hD h3)]
      rcases h6 with h6 | h6
      · exact absurd h6.1 hni
      · exact h6.2
    · intro f hf; cases hf
theorem fc_get_ok {A : Nat → Prop} {k : Nat} {ta : Nat → Option Nat} {ws : va_W} {vs' : List Value} {ls : Array Slot} {st : List Value} {z : sy_T} (hD : va_D A ws) (hz : sy_ok ta ws vs' ls nL st z) : ∀ f ∈ fc_get k y z, f.1 < 100 ∧ fc_1 f ws vs' := by
  unfold fc_get
  split
  · rename_i a r n r2 hst hst2
    split
    · rename_i hm
      intro f hf
      obtain rfl := List.mem_singleton.mp hf
      obtain ⟨ad, ci, fs, v, m1, m2, m3, m4⟩ := hz.2.2.2.1 _ (sy_mfind_ok hm)
      refine ⟨by simp, n2 (n_lt m4) (n_lt m1), ?_⟩
      show n_v vs' n = w_fd ws (n_ad vs' a) ((k : Int)).toNat
      rw [n_v_of m4, n_ad_of m1, Int.toNat_natCast]
      unfold w_fd
      rw [w_at_mem hD m2]
      simp only
      rw [List.getD_eq_getElem?_getD, m3]; rfl
    · intro f hf; cases hf
  · intro f hf; cases hf
theorem w_find_set {b ad : Nat} (hb : b ≠ ad) {e0 e1 : va_E} : ∀ {ws : va_W} {q0 : Nat}, ws[q0]? = some (ad, e0) → (ws.set q0 (ad, e1)).find? (fun q => q.1 == b) = ws.find? (fun q => q.1 == b)
  | [], _, h => by cases h
  | w :: ws, 0, h => by
    have e : w = (ad, e0) := Option.some.inj h
    have hne : (ad == b) = false := by simpa using fun e => hb e.symm
    rw [List.set_cons_zero, List.find?_cons, List.find?_cons, e]
    simp only [hne]
  | w :: ws, q + 1, h => by
    rw [List.set_cons_succ, List.find?_cons, List.find?_cons]
    split
    · rfl
    · exact w_find_set hb h
theorem w_at_set {A1 A2 : Nat → Prop} {ws : va_W} {q0 ad : Nat} {e0 e1 : va_E} (hD1 : va_D A2 (ws.set q0 (ad, e1))) (h : ws[q0]? = some (ad, e0)) (b : Nat) : w_at (ws.set q0 (ad, e1)) b = if b = ad then some e1 else w_at ws b := by
  split
  · rename_i e
    subst e
    exact w_at_mem hD1 (List.mem_iff_getElem?.mpr ⟨q0, by rw [List.getElem?_set_self (List.getElem?_eq_some_iff.mp h).1]⟩)
  · rename_i e
    unfold w_at
    rw [w_find_set e h]
theorem fc_ast_ok {A : Nat → Prop} {ta : Nat → Option Nat} {ws w1 : va_W} {vs vs' : List Value} {ls : Array Slot} {st : List Value} (hy : sy_ok ta ws vs ls nL st y) (hp : vs <+: vs') (hD : va_D A ws) (hD1 : va_D A w1) (hX : st_X i ws w1 y vs') : ¬ (fc_ast i y).1 < 100 ∧ fc_s (fc_ast i y) ta ws w1 vs' := by
  unfold fc_ast
  split
  · rename_i d b a r hst
    obtain ⟨ad, x, vd, q0, e0, e1, h1, h2, h3, h4, h5, rfl, h7, h8⟩ := hX d b a r hst
    have wa := w_at_set (A1 := A) hD1 h5
    have w0 : w_at ws ad = some (.inl e0) := w_at_mem hD (List.mem_of_getElem? h5)
    have fd : ∀ b k, w_fd (ws.set q0 (ad, .inl e1)) b k = w_fd ws b k := fun b k => by
      unfold w_fd
      rw [wa b]
      by_cases e : b = ad
      · rw [if_pos e, e, w0]
      · rw [if_neg e]
    have el : ∀ b j, b ≠ ad ∨ j ≠ x.toInt.toNat → w_el (ws.set q0 (ad, .inl e1)) b j = w_el ws b j := fun b j hbj => by
      by_cases e : b = ad
      · subst e
        rw [w_el_arr (e := e1) (by rw [wa b, if_pos rfl]), w_el_arr w0]
        exact h7 j (hbj.resolve_left (fun q => q rfl))
      · unfold w_el
        rw [wa b, if_neg e]
    have full : el_E e1 x.toInt.toNat = v_iv vd → fc_s (100, [a, b, d], []) ta ws (ws.set q0 (ad, .inl e1)) vs' := fun hv => by
      refine ⟨n3 (n_lt h1) (n_lt h2) (n_lt h3), ?_⟩
      refine ⟨fun b' j => ?_, fd⟩
      show w_el _ b' j = if b' = n_ad vs' a ∧ j = (n_iv vs' b).toNat then n_iv vs' d else _
      rw [n_ad_of h1, n_iv_of h2]
      split
      · rename_i e
        rw [e.1, e.2, w_el_arr (e := e1) (by rw [wa ad, if_pos rfl]), hv]
        unfold n_iv
        rw [n_v_of h3]
      · rename_i e
        refine el b' j ?_
        by_cases eb : b' = ad
        · exact Or.inr (fun ej => e ⟨eb, ej⟩)
        · exact Or.inl eb
    have part : fc_s (103, [a], []) ta ws (ws.set q0 (ad, .inl e1)) vs' := by
      refine ⟨fun n hn => by obtain rfl := List.mem_singleton.mp hn; exact n_lt h1, ?_⟩
      refine ⟨fun b' j hb' => ?_, fd⟩
      rw [n_ad_of h1] at hb'
      exact el b' j (Or.inl hb')
    split
    · split
      · rename_i t ht
        split
        · rename_i hk
          refine ⟨by simp, full ?_⟩
          rcases h8 with h8 | ⟨_, h8⟩
          · exact h8
          · have ld : d < vs.length := by rw [hy.1.1]; exact (List.getElem?_eq_some_iff.mp ht).1
            obtain ⟨z, ez, z1, z2⟩ := tv_int (hy.1.2 d t _ ht (pre_val (v := .null) hp ld h3)) hk.1
            subst ez
            refine h8 ?_ ?_
            · show 0 ≤ z.toInt; have := hk.2.1; omega
            · show z.toInt ≤ 1; have := hk.2.2; omega
        · exact ⟨by simp, part⟩
      · exact ⟨by simp, part⟩
    · rename_i hni
      refine ⟨by simp, full ?_⟩
      rcases h8 with h8 | ⟨h8, _⟩
      · exact h8
      · exact absurd h8 hni
  · exact ⟨by simp, fun n hn => (by cases hn), trivial⟩
theorem fc_put_ok {A : Nat → Prop} {k : Nat} {ta : Nat → Option Nat} {ws w1 : va_W} {vs' : List Value} (hD : va_D A ws) (hD1 : va_D A w1) (hX : pt_X k ws w1 y vs') : ¬ (fc_put k y).1 < 100 ∧ fc_s (fc_put k y) ta ws w1 vs' := by
  unfold fc_put
  split
  · rename_i d a r hst
    obtain ⟨ad, vd, q0, ci, fs, h1, h2, h3, h4, rfl⟩ := hX d a r hst
    have wa := w_at_set (A1 := A) hD1 h3
    have w0 : w_at ws ad = some (.inr (ci, fs)) := w_at_mem hD (List.mem_of_getElem? h3)
    refine ⟨by simp, n2 (n_lt h1) (n_lt h2), ?_⟩
    refine ⟨fun b j => ?_, fun b j => ?_⟩
    · unfold w_el
      rw [wa b]
      by_cases e : b = ad
      · rw [if_pos e, e, w0]
      · rw [if_neg e]
    · show w_fd _ b j = if b = n_ad vs' a ∧ j = ((k : Int)).toNat then n_v vs' d else _
      rw [n_ad_of h1, n_v_of h2, Int.toNat_natCast]
      unfold w_fd
      rw [wa b]
      by_cases e : b = ad
      · subst e
        rw [if_pos rfl, w0]
        simp only [true_and]
        by_cases ej : j = k
        · subst ej
          rw [if_pos rfl, List.getD_eq_getElem?_getD, List.getElem?_set_self h4]; rfl
        · rw [if_neg ej, List.getD_eq_getElem?_getD, List.getD_eq_getElem?_getD, List.getElem?_set_ne (fun q => ej q.symm)]
      · rw [if_neg e, if_neg (fun q => e q.1)]
  · exact ⟨by simp, fun n hn => (by cases hn), trivial⟩
theorem sF_lift {H : Heap} {locs : List Loc} {R : Room} {cells slots : Nat} {ta : Nat → Option Nat} {ws : va_W} {pc' : Nat} {y' : sy_T} (hold : ∀ v0, sy_go p l e R s m args below meth c H locs cells slots Q nL v0 ta ws pc' y' → sy_go p l e R s m args below meth c H locs cells slots Q nL v0 ta ws pc y) (k : sF_go p l e R s m args below meth c H locs cells slots Q nL v0 ta ws pc' y' fs) : sF_go p l e R s m args below meth c H locs cells slots Q nL v0 ta ws pc y fs :=
  fun vs ls st hp hy hf => hold vs (fun vs' ls' st' hp' hy' => k vs' ls' st' (hp.trans hp') hy' (fc_pre hp' hf)) vs ls st (List.prefix_refl _) hy
theorem or_bit {a b : Nat} (h : a ||| b = b) (r : Nat) (hb : b.testBit r = false) : a.testBit r = false := by
  rw [← h, Nat.testBit_or, Bool.or_eq_false_iff] at hb
  exact hb.1
theorem nx_call_ok {k idx : Nat} (hk3 : k < 3) {L : List nx_T} (hct : ∀ q ∈ CT, cl_ok l D kA G own (opl q.1 q.2.1).1 (opl q.1 q.2.1).2 q.2.2) (X : cx p s m args meth c cc nL ret own nm) (hK : va_K D classes (TY kA) s) (hN : nsr kA A s) (hA : ∀ q, s.heap.size ≤ q → A q) (hd : decode cc pc = .ok (op_of k idx, 3)) (h : nx_call G en CT k idx pc y ce sl fs = some L)
    (kk : ∀ n ∈ L, sy_J p l e s m args below meth c Q D kA G A en ta0 ws0 nL v0 n) : sy_J p l e s m args below meth c Q D kA G A en ta0 ws0 nL v0 (pc, y, ce, sl, fs) := by
  intro H locs ws ta hle hpu hkp hP hD hS hth
  unfold nx_call at h
  split at h
  · rename_i q hq
    split at h
    · rename_i hk
      obtain ⟨z, hz, rfl⟩ := Option.map_eq_some_iff.mp h
      have h2 := List.find?_some hq
      simp only [Bool.and_eq_true, Bool.or_eq_true, beq_iff_eq, decide_eq_true_eq] at h2
      have hcl := hct q (List.mem_of_find?_eq_some hq)
      have h4 : q.1 % 3 = k := by
        rcases h2.1.2 with h | h
        · omega
        · have := h.1; omega
      unfold opl at hcl
      rw [if_pos h2.1.1, h4, h2.2] at hcl
      refine tr_call_ok hcl X hK hN hA hP hD hS hth hk.1 (by show 64 * _ ≤ 64 * _; have := hk.1; omega) hk.2.1 hk.2.2.1 hd hz (fun z' hz' tb w1 H1 locs1 b1 b2 b3 b4 b5 b6 b7 => ?_)
      exact kk (pc + 3, z'.1, _, _, z'.2) (List.mem_map.mpr ⟨z', hz', rfl⟩) H1 locs1 w1 tb (fun a r hr => b1 a r (hle a r hr)) (fun hp => (b6 (hk.2.2.2.1 hp)).trans (hpu hp)) (kp_trans hle hkp (kp_mono (fun w hw => List.contains_iff_mem.mp (List.all_eq_true.mp hk.2.2.2.2.1 w hw)) (or_bit hk.2.2.2.2.2) b7)) b3 b4 b5 b2
    · cases h
  · cases h
theorem nx_kt_ok {k idx : Nat} {L : List nx_T} (hkt : ∀ q ∈ KT, kt_rule own (kt_op q.1 q.2.1).1 (kt_op q.1 q.2.1).2 q.2.2.1 ∧ ∀ ta, tv_ok ta q.2.2.2 q.2.2.1) (X : cx p s m args meth c cc nL ret own nm) (hd : decode cc pc = .ok (kt_op k idx)) (h : nx_kt KT k idx pc y ce sl fs = some L)
    (kk : ∀ n ∈ L, sy_J p l e s m args below meth c Q D kA G A en ta0 ws0 nL v0 n) : sy_J p l e s m args below meth c Q D kA G A en ta0 ws0 nL v0 (pc, y, ce, sl, fs) := by
  intro H locs ws ta hle hpu hkp hP hD hS hth vs ls st hp0 hy hf
  unfold nx_kt at h
  split at h
  · rename_i q hq
    obtain rfl := Option.some.inj h
    have h2 := List.find?_some hq
    simp only [Bool.and_eq_true, beq_iff_eq] at h2
    have hr := hkt q (List.mem_of_find?_eq_some hq)
    rw [h2.1, h2.2] at hr
    exact hr.1 p l e _ s m args below meth c H locs ce sl Q cc pc nL ret nm ls st X hd (kk _ List.mem_cons_self H locs ws ta hle hpu hkp hP hD hS hth _ _ _ (pre_app hp0) (sy_pushed hy hy.2.2.1 (hr.2 ta)) (fc_pre (List.prefix_append _ _) hf))
  · cases h
theorem nxo_ok {L : List nx_T} (htb : tb_ok l D kA G own FT PT CT KT NT) (X : cx p s m args meth c cc nL ret own nm) (hK : va_K D classes (TY kA) s) (hN : nsr kA A s) (hA : ∀ q, s.heap.size ≤ q → A q) (hd : decode cc pc = .ok (i, len)) (h : nxo nL en G FT PT CT KT NT pc i len y ce sl fs = some L)
    (kk : ∀ n ∈ L, sy_J p l e s m args below meth c Q D kA G A en ta0 ws0 nL v0 n) : sy_J p l e s m args below meth c Q D kA G A en ta0 ws0 nL v0 (pc, y, ce, sl, fs) := by
  unfold nxo at h
  split at h
  · obtain ⟨z, hz, rfl⟩ := Option.map_eq_some_iff.mp h
    exact fun H locs ws ta h1 h2 hk0 h3 h4 h5 h6 => sF_lift (fun v0 k => tr_pk_ok X.1 X.2.1 hd hz k) (kk _ List.mem_cons_self H locs ws ta h1 h2 hk0 h3 h4 h5 h6)
  · obtain ⟨z, hz, rfl⟩ := Option.map_eq_some_iff.mp h
    exact fun H locs ws ta h1 h2 hk0 h3 h4 h5 h6 => sF_lift (fun v0 k => tr_ld_ok X.1 X.2.1 hd hz k) (kk _ List.mem_cons_self H locs ws ta h1 h2 hk0 h3 h4 h5 h6)
  · obtain ⟨z, hz, rfl⟩ := Option.map_eq_some_iff.mp h
    exact fun H locs ws ta h1 h2 hk0 h3 h4 h5 h6 => sF_lift (fun v0 k => tr_st_ok X.1 X.2.1 hd hz k) (kk _ List.mem_cons_self H locs ws ta h1 h2 hk0 h3 h4 h5 h6)
  · obtain ⟨z, hz, rfl⟩ := Option.map_eq_some_iff.mp h
    intro H locs ws ta h1 h2 hk0 h3 h4 h5 h6 vs ls st hp hy hf
    exact tr_opi_okX (v0 := vs) X.1 X.2.1 hd hz (fun vs' ls' st' hp' hX hy' => kk _ List.mem_cons_self H locs ws ta h1 h2 hk0 h3 h4 h5 h6 vs' ls' st' (hp.trans hp') hy' (recs_ok (fc_pre hp' hf) (fun f hf2 => by
      rcases List.mem_append.mp hf2 with hf2 | hf2
      · exact ⟨(fc_op_ok hy hp' hX f hf2).1, (fc_op_ok hy hp' hX f hf2).2 ws⟩
      · exact ⟨(fc_bit_ok hy hp' hX f hf2).1, (fc_bit_ok hy hp' hX f hf2).2 ws⟩))) vs ls st (List.prefix_refl _) hy
  · obtain ⟨z, hz, rfl⟩ := Option.map_eq_some_iff.mp h
    intro H locs ws ta h1 h2 hk0 h3 h4 h5 h6 vs ls st hp hy hf
    exact tr_opl_okX (v0 := vs) X.1 X.2.1 hd hz (fun vs' ls' st' hp' hX hy' => kk _ List.mem_cons_self H locs ws ta h1 h2 hk0 h3 h4 h5 h6 vs' ls' st' (hp.trans hp') hy' (recs_ok (fc_pre hp' hf) (fun f hf2 => ⟨(fc_opl_ok hy hp' hX f hf2).1, (fc_opl_ok hy hp' hX f hf2).2 ws⟩))) vs ls st (List.prefix_refl _) hy
  · split at h
    · rename_i z hz
      obtain rfl := Option.some.inj h
      intro H locs ws ta h1 h2 hk0 h3 h4 h5 h6 vs ls st hp hy hf
      exact tr_dw_ok X.1 X.2.1 hd hz hy hf (fun vs' ls' st' hp' hy' hF => kk _ List.mem_cons_self H locs ws ta h1 h2 hk0 h3 h4 h5 h6 vs' ls' st' (hp.trans hp') hy' (recs_ok (fc_pre hp' hf) hF))
    · obtain ⟨z, hz, rfl⟩ := Option.map_eq_some_iff.mp h
      exact fun H locs ws ta h1 h2 hk0 h3 h4 h5 h6 => sF_lift (fun v0 k => tr_dv_ok X.1 X.2.1 hd hz k) (kk _ List.mem_cons_self H locs ws ta h1 h2 hk0 h3 h4 h5 h6)
  · obtain ⟨z, hz, rfl⟩ := Option.map_eq_some_iff.mp h
    intro H locs ws ta h1 h2 hk0 h3 h4 h5 h6 vs ls st hp hy hf
    exact tr_un_okX (v0 := vs) X.1 X.2.1 hd hz (fun vs' ls' st' hp' hX hy' => kk _ List.mem_cons_self H locs ws ta h1 h2 hk0 h3 h4 h5 h6 vs' ls' st' (hp.trans hp') hy' (recs_ok (fc_pre hp' hf) (fun f hf2 => ⟨(fc_cv_ok hy hp' hX f hf2).1, (fc_cv_ok hy hp' hX f hf2).2 ws⟩))) vs ls st (List.prefix_refl _) hy
  · obtain ⟨z, hz, rfl⟩ := Option.map_eq_some_iff.mp h
    intro H locs ws ta h1 h2 hk0 h3 h4 h5 h6 vs ls st hp hy hf
    exact tr_inc_okX (v0 := vs) X.1 X.2.1 hd hz (fun vs' ls' st' hp' hX hy' => kk _ List.mem_cons_self H locs ws ta h1 h2 hk0 h3 h4 h5 h6 vs' ls' st' (hp.trans hp') hy' (recs_ok (fc_pre hp' hf) (fun f hf2 => ⟨(fc_inc_ok hy hp' hX f hf2).1, (fc_inc_ok hy hp' hX f hf2).2 ws⟩))) vs ls st (List.prefix_refl _) hy
  · obtain ⟨L0, hz, rfl⟩ := Option.map_eq_some_iff.mp h
    intro H locs ws ta h1 h2 hk0 h3 h4 h5 h6 vs ls st hp hy hf
    exact br_next_ok (v0 := vs) X.1 X.2.1 hd hz (fun q hq vs' ls' st' hp' hX hy' => kk (q.1, q.2.1, ce, sl, recs fs q.2.2) (List.mem_map.mpr ⟨q, hq, rfl⟩) H locs ws ta h1 h2 hk0 h3 h4 h5 h6 vs' ls' st' (hp.trans hp') hy' (recs_ok (fc_pre hp' hf) (fun f hf2 => ⟨(hX f hf2).1, (hX f hf2).2 ws⟩))) vs ls st (List.prefix_refl _) hy
  · obtain ⟨L0, hz, rfl⟩ := Option.map_eq_some_iff.mp h
    intro H locs ws ta h1 h2 hk0 h3 h4 h5 h6 vs ls st hp hy hf
    exact tr_sw_ok (v0 := vs) X.1 X.2.1 hd hz (fun q hq vs' ls' st' hp' hy' => kk (q.1, q.2, ce, sl, fs) (List.mem_map.mpr ⟨q, hq, rfl⟩) H locs ws ta h1 h2 hk0 h3 h4 h5 h6 vs' ls' st' (hp.trans hp') hy' (fc_pre hp' hf)) vs ls st (List.prefix_refl _) hy
  · obtain ⟨z, hz, rfl⟩ := Option.map_eq_some_iff.mp h
    intro H locs ws ta h1 h2 hk0 h3 h4 h5 h6 vs ls st hp hy hf
    exact tr_ald_okX (v0 := vs) X hK h3 h6 hd hz (fun vs' ls' st' hp' hX hy' => kk _ List.mem_cons_self H locs ws ta h1 h2 hk0 h3 h4 h5 h6 vs' ls' st' (hp.trans hp') hy' (recs_ok (fc_pre hp' hf) (fc_ald_ok h4 hX))) vs ls st (List.prefix_refl _) hy
  · obtain ⟨z, hz, rfl⟩ := Option.map_eq_some_iff.mp h
    exact fun H locs ws ta h1 h2 hk0 h3 h4 h5 h6 => sF_lift (fun v0 k => tr_len_ok X hK h3 h6 hd hz k) (kk _ List.mem_cons_self H locs ws ta h1 h2 hk0 h3 h4 h5 h6)
  · unfold nx2 at h
    split at h
    · split at h
      · rename_i hl3
        subst hl3
        split at h
        · rename_i q hq
          obtain ⟨z, hz, rfl⟩ := Option.map_eq_some_iff.mp h
          have h2 := List.find?_some hq
          have h3 := eq_of_beq h2
          have hr := htb.1 q (List.mem_of_find?_eq_some hq)
          rw [h3] at hr
          exact fun H locs ws ta h1 h2 hk0 h3 h4 h5 h6 vs ls st hp hy hf => tr_get_ok (v0 := vs) hr X hK h3 h4 h6 hd hz (fun vs' ls' st' hp' hy' => kk _ List.mem_cons_self H locs ws ta h1 h2 hk0 h3 h4 h5 h6 vs' ls' st' (hp.trans hp') hy' (recs_ok (fc_pre hp' hf) (fc_get_ok h4 hy'))) vs ls st (List.prefix_refl _) hy
        · cases h
      · cases h
    · split at h
      · rename_i hl3
        obtain ⟨rfl, hpu⟩ := hl3
        split at h
        · rename_i q hq
          split at h
          case isFalse => cases h
          rename_i hmo
          obtain ⟨z, hz, rfl⟩ := Option.map_eq_some_iff.mp h
          have h2 := List.find?_some hq
          have h3 := eq_of_beq h2
          have hr := htb.2.1 q (List.mem_of_find?_eq_some hq)
          rw [h3] at hr
          exact fun H locs ws ta h1 h2 hk0 h3 h4 h5 h6 vs ls st hp hy hf => tr_put_ok (v0 := vs) hr X hK h3 h4 h5 h6 hd hz (fun H1 locs1 w1 a1 a2 a3 a4 a5 vs' ls' st' hp' hX hy' => kk _ List.mem_cons_self H1 locs1 w1 ta h1 (fun q => by rw [hpu] at q; cases q) (kp_trans h1 hk0 (a5 _ (List.contains_iff_mem.mp hmo))) a1 a2 a3 a4 vs' ls' st' (hp.trans hp') hy' (stp_ok (fc_pre hp' hf) (fc_put_ok (ta := ta) h4 a2 hX).1 (fc_put_ok h4 a2 hX).2)) vs ls st (List.prefix_refl _) hy
        · cases h
      · cases h
    · split at h
      · rename_i hl3; subst hl3; exact nx_call_ok (k := 0) (by decide) htb.2.2.1 X hK hN hA hd h kk
      · cases h
    · split at h
      · rename_i hl3; subst hl3; exact nx_call_ok (k := 1) (by decide) htb.2.2.1 X hK hN hA hd h kk
      · cases h
    · split at h
      · rename_i hl3; subst hl3; exact nx_call_ok (k := 2) (by decide) htb.2.2.1 X hK hN hA hd h kk
      · cases h
    · split at h
      · rename_i hl3; subst hl3; exact nx_kt_ok (k := 0) htb.2.2.2.1 X hd h kk
      · cases h
    · split at h
      · rename_i hl3; subst hl3; exact nx_kt_ok (k := 1) htb.2.2.2.1 X hd h kk
      · cases h
    · split at h
      · rename_i hl3; subst hl3; exact nx_kt_ok (k := 2) htb.2.2.2.1 X hd h kk
      · cases h
    · split at h
      · rename_i hpu
        obtain ⟨z, hz, rfl⟩ := Option.map_eq_some_iff.mp h
        exact fun H locs ws ta h1 h2 hk0 h3 h4 h5 h6 vs ls st hp hy hf => tr_ast_ok (v0 := vs) X hK h3 h4 h5 h6 htb.2.2.2.2.2 hd hz hf (fun H1 locs1 w1 a1 a2 a3 a4 a5 vs' ls' st' hp' hX hy' => kk _ List.mem_cons_self H1 locs1 w1 ta h1 (fun q => by rw [hpu.1] at q; cases q) (kp_trans h1 hk0 (a5 _ (fun rr hrr => List.all_eq_true.mp hpu.2 rr hrr))) a1 a2 a3 a4 vs' ls' st' (hp.trans hp') hy' (stp_ok (fc_pre hp' hf) (fc_ast_ok hy hp' h4 a2 hX).1 (fc_ast_ok hy hp' h4 a2 hX).2)) (List.prefix_refl _) hy
      · cases h
  · split at h
    · rename_i qn hz
      split at h
      · rename_i hk
        obtain rfl := Option.some.inj h
        exact fun H locs ws ta h1 h2 hk0 h3 h4 h5 h6 vs ls st hp hy hf => tr_new_ok (v0 := vs) htb.2.2.2.2.1 X hK hN.2.1 hA h3 h4 h5 h6 hd (y' := qn.1) (N := qn.2) hz hk.2.1 hk.2.2 (fun H1 w1 tb a0 a1 a2 a3 a4 a5 vs' ls' st' hp' hy' => kk _ List.mem_cons_self H1 locs w1 tb (fun a r hr => a0 a r (h1 a r hr)) (fun q => by rw [hk.1] at q; cases q) (kp_trans h1 hk0 (a5 _)) a1 a2 a3 a4 vs' ls' st' (hp.trans hp') hy' (stp_call (fc_pre hp' hf) a0 (fc_call_ok (by rw [← hy.1.1]; exact pre_le hp') (sy_old hy.1 hp') h6 a0 a4 h4 a2 (a5 _)))) vs ls st (List.prefix_refl _) hy
      · cases h
    · cases h
  · split at h
    · rename_i z hz
      obtain rfl := Option.some.inj h
      exact fun H locs ws ta h1 h2 hk0 h3 h4 h5 h6 => sF_lift (fun v0 k => tr_dv_ok X.1 X.2.1 hd hz k) (kk _ List.mem_cons_self H locs ws ta h1 h2 hk0 h3 h4 h5 h6)
    · obtain ⟨z, hz, rfl⟩ := Option.map_eq_some_iff.mp h
      exact fun H locs ws ta h1 h2 hk0 h3 h4 h5 h6 => sF_lift (fun v0 k => tr_un_ok X.1 X.2.1 hd hz k) (kk _ List.mem_cons_self H locs ws ta h1 h2 hk0 h3 h4 h5 h6)
theorem ro_k_op {i : ClassFile.Instr} (h : ¬ (ro_k i).1 = 9) : (ro_op (ro_k i).1 (ro_k i).2).1 = i := by
  cases i <;> first | rfl | exact absurd rfl h
theorem nx_ro_ok {L : List nx_T} (hct : ∀ q ∈ CT, cl_ok l D kA G own (opl q.1 q.2.1).1 (opl q.1 q.2.1).2 q.2.2) (X : cx p s m args meth c cc nL ret own nm) (hK : va_K D classes (TY kA) s) (hN : nsr kA A s) (hA : ∀ q, s.heap.size ≤ q → A q) (hd : decode cc pc = .ok (ro_op (ro_k i).1 (ro_k i).2)) (h : nx_ro en G CT pc i y ce sl fs = some L)
    (kk : ∀ n ∈ L, sy_J p l e s m args below meth c Q D kA G A en ta0 ws0 nL v0 n) : sy_J p l e s m args below meth c Q D kA G A en ta0 ws0 nL v0 (pc, y, ce, sl, fs) := by
  intro H locs ws ta hle hpu hkp hP hD hS hth
  unfold nx_ro at h
  split at h
  · rename_i q hq
    split at h
    · rename_i hk
      obtain ⟨z, hz, rfl⟩ := Option.map_eq_some_iff.mp h
      have h2 := List.find?_some hq
      simp only [Bool.and_eq_true, beq_iff_eq] at h2
      have hcl := hct q (List.mem_of_find?_eq_some hq)
      unfold opl at hcl
      rw [if_neg (by omega), h2.1.1, h2.1.2, Nat.add_sub_cancel_left] at hcl
      refine tr_call_ok hcl X hK hN hA hP hD hS hth hk.1 (by show 64 * _ ≤ 64 * _; have := hk.1; omega) hk.2.1 hk.2.2.1 hd hz (fun z' hz' tb w1 H1 locs1 b1 b2 b3 b4 b5 b6 b7 => ?_)
      exact kk (pc + _, z'.1, _, _, z'.2) (List.mem_map.mpr ⟨z', hz', rfl⟩) H1 locs1 w1 tb (fun a r hr => b1 a r (hle a r hr)) (fun hp => (b6 (hk.2.2.2.1 hp)).trans (hpu hp)) (kp_trans hle hkp (kp_mono (fun w hw => List.contains_iff_mem.mp (List.all_eq_true.mp hk.2.2.2.2.1 w hw)) (or_bit hk.2.2.2.2.2) b7)) b3 b4 b5 b2
    · cases h
  · cases h
theorem nx_ok {L : List nx_T} (htb : tb_ok l D kA G own FT PT CT KT NT) (X : cx p s m args meth c cc nL ret own nm) (hK : va_K D classes (TY kA) s) (hN : nsr kA A s) (hA : ∀ q, s.heap.size ≤ q → A q) (hd : decode cc pc = .ok (i, len)) (h : nx nL en G FT PT CT KT NT pc i len y ce sl fs = some L)
    (kk : ∀ n ∈ L, sy_J p l e s m args below meth c Q D kA G A en ta0 ws0 nL v0 n) : sy_J p l e s m args below meth c Q D kA G A en ta0 ws0 nL v0 (pc, y, ce, sl, fs) := by
  unfold nx at h
  split at h
  · split at h
    · split at h
      · rename_i q hq
        obtain rfl := Option.some.inj h
        intro H locs ws ta h1 h2 hk0 h3 h4 h5 h6 vs ls st hp hy hf
        unfold ro_many at hq
        obtain ⟨n, _, hn⟩ := List.exists_of_findSome?_eq_some hq
        split at hn
        · rename_i t ht
          split at hn
          · rename_i hc
            obtain rfl := Option.some.inj hn
            have hlt := (List.getElem?_eq_some_iff.mp ht).1
            have hv := List.getElem?_eq_getElem (l := vs) (i := n) (by rw [hy.1.1]; exact hlt)
            obtain ⟨a, r, e1, e2, e3⟩ := tv_ref (hy.1.2 n t _ ht hv) hc.1
            refine kk (pc, (y.1.set n (2, 0, 0, [r]), y.2), ce, sl, fs) (List.mem_map.mpr ⟨r, e3, rfl⟩) H locs ws ta h1 h2 hk0 h3 h4 h5 h6 vs ls st hp ?_ hf
            exact ⟨en_set_ok hy.1 hv (Or.inr (Or.inr (Or.inl ⟨rfl, a, r, e1, e2, List.mem_singleton.mpr rfl⟩))), hy.2⟩
          · cases hn
        · cases hn
      · exact nxo_ok htb X hK hN hA hd h kk
    · exact nxo_ok htb X hK hN hA hd h kk
  · rename_i h9
    split at h
    · rename_i L' hL
      split at h
      · rename_i hlen
        obtain rfl := Option.some.inj h
        refine nx_ro_ok htb.2.2.1 X hK hN hA ?_ hL kk
        rw [hd, hlen]
        exact congrArg Except.ok (Prod.ext (ro_k_op h9).symm rfl)
      · cases h
    · exact nxo_ok htb X hK hN hA hd h kk
end M13
