section
def ro_txt : List (List Int32) := [[110, 111, 100, 101], [103, 114, 111, 117, 112], [115, 105, 122, 101], [119, 101, 105, 103, 104, 116], [100, 101, 103, 32, 105, 110, 32, 111, 117, 116, 32, 115, 105, 122, 101, 32, 103, 114, 111, 117, 112, 32, 102, 97, 114, 32, 99, 111, 114, 101, 32, 99, 117, 116, 32, 120, 32, 121, 32], [58, 61, 44, 59, 123, 125, 60, 62, 43, 45, 42, 47, 40, 41], [110, 111, 100, 101, 32, 101, 100, 103, 101, 32], [119, 101, 105, 103, 104, 116, 32, 116, 117, 114, 110, 101, 100, 32, 98, 114, 105, 100, 103, 101, 32, 102, 114, 111, 109, 32, 116, 111, 32, 98, 108, 111, 99, 107, 32, 108, 111, 110, 103, 32, 111, 110, 101, 32], [105, 102, 32], [110, 111, 116, 32], [97, 110, 100, 32], [111, 114, 32], [99, 111, 108, 111, 114, 32, 119, 105, 100, 116, 104, 32, 102, 111, 114, 109, 32], [110, 111, 100, 101, 32], [32, 91, 115, 105, 122, 101, 61], [59, 10], [103, 114, 111, 117, 112, 32], [32, 123, 10], [125, 10], [32, 62, 32], [32, 45, 32], [32, 91, 119, 101, 105, 103, 104, 116, 61], [101, 100, 103, 101], [105, 102], [110, 111, 116], [100, 101, 103], [105, 110], [111, 117, 116], [102, 97, 114], [99, 111, 114, 101], [99, 117, 116], [120], [121], [116, 117, 114, 110, 101, 100], [98, 114, 105, 100, 103, 101], [102, 114, 111, 109], [116, 111], [98, 108, 111, 99, 107], [108, 111, 110, 103], [111, 110, 101], [97, 110, 100], [111, 114], [99, 111, 108, 111, 114], [119, 105, 100, 116, 104], [102, 111, 114, 109], [93]]
def ro_tab : List (String × Nat × String × Nat) := [("DrawingHouse$Reader", 93, "node", 0), ("DrawingHouse$Reader", 99, "group", 1), ("DrawingHouse$Reader", 130, "size", 2), ("DrawingHouse$Reader", 166, "weight", 3), ("DrawingHouse$Styler", 40, "deg in out size group far core cut x y ", 4), ("DrawingHouse$Styler", 92, ":=,;{}<>+-*/()", 5), ("DrawingHouse$Styler", 112, "node edge ", 6), ("DrawingHouse$Styler", 121, "weight turned bridge from to block long one ", 7), ("DrawingHouse$Styler", 123, "if ", 8), ("DrawingHouse$Styler", 150, "not ", 9), ("DrawingHouse$Styler", 148, "and ", 10), ("DrawingHouse$Styler", 143, "or ", 11), ("DrawingHouse$Styler", 135, "color width form ", 12), ("DrawingHouse", 459, "node ", 13), ("DrawingHouse", 469, " [size=", 14), ("DrawingHouse", 474, ";\n", 15), ("DrawingHouse", 476, "group ", 16), ("DrawingHouse", 478, " {\n", 17), ("DrawingHouse", 480, "}\n", 18), ("DrawingHouse", 482, " > ", 19), ("DrawingHouse", 484, " - ", 20), ("DrawingHouse", 486, " [weight=", 21), ("DrawingHouseModel", 467, "node", 0), ("DrawingHouseModel", 473, "group", 1), ("DrawingHouseModel", 497, "size", 2), ("DrawingHouseModel", 519, "weight", 3), ("DrawingHouseModel", 1193, "edge", 22), ("DrawingHouseModel", 1198, "if", 23), ("DrawingHouseModel", 1230, "not", 24), ("DrawingHouseModel", 1254, "deg", 25), ("DrawingHouseModel", 1256, "in", 26), ("DrawingHouseModel", 1257, "out", 27), ("DrawingHouseModel", 1259, "far", 28), ("DrawingHouseModel", 1261, "core", 29), ("DrawingHouseModel", 1262, "cut", 30), ("DrawingHouseModel", 1263, "x", 31), ("DrawingHouseModel", 1265, "y", 32), ("DrawingHouseModel", 1267, "turned", 33), ("DrawingHouseModel", 1268, "bridge", 34), ("DrawingHouseModel", 1270, "from", 35), ("DrawingHouseModel", 1271, "to", 36), ("DrawingHouseModel", 1272, "block", 37), ("DrawingHouseModel", 1274, "long", 38), ("DrawingHouseModel", 1276, "one", 39), ("DrawingHouseModel", 1228, "and", 40), ("DrawingHouseModel", 1223, "or", 41), ("DrawingHouseModel", 1206, "color", 42), ("DrawingHouseModel", 1208, "width", 43), ("DrawingHouseModel", 1210, "form", 44), ("DrawingHouseModel", 1288, "node ", 13), ("DrawingHouseModel", 1296, " [size=", 14), ("DrawingHouseModel", 1301, "]", 45), ("DrawingHouseModel", 1303, ";\n", 15), ("DrawingHouseModel", 1305, "group ", 16), ("DrawingHouseModel", 1307, " {\n", 17), ("DrawingHouseModel", 1312, "}\n", 18), ("DrawingHouseModel", 1314, " > ", 19), ("DrawingHouseModel", 1316, " - ", 20), ("DrawingHouseModel", 1318, " [weight=", 21)]
def ro_N : Nat := 46
def ro_id (r : Nat) : Bool := (decide (5000 ≤ r) && decide (r < 5046)) || (decide (5200 ≤ r) && decide (r < 5246)) || decide (r = 5400) || decide (r = 5401) || decide (r = 5500) || decide (r = 5999)
def ro_cnt : List Int32 := [1, 1, 2, 6, 24, 120, 720]
def ro_sta : List Int32 := [0, 0, 1, 3, 9, 33, 153]
/-! things that never change: String constants, their bytes, static rows of ints; where they lie: kA of 5000 on (Strings), 5200 on (their bytes), 5400 and 5401 -/
def ro_S (kA : Nat → ClassId) (A : Nat → Prop) (U : State) (i : Nat) : Prop :=
  va_O "java/lang/String" (kA (5000 + i)) A U U.heap ∧ va_OF "java/lang/String" "coder" "B" (.int 0) (kA (5000 + i)) A U U.heap ∧ va_OF "java/lang/String" "value" "[B" (.ref (kA (5200 + i))) (kA (5000 + i)) A U U.heap ∧ va_T .byte (kA (5200 + i)) (ro_txt.getD i []).length (fun j => .int ((ro_txt.getD i []).getD j 0)) A U U.heap
def ro (kA : Nat → ClassId) (A : Nat → Prop) (U : State) : Prop :=
  (∀ r, ro_id r = true → ¬ A (kA r)) ∧ (∀ i, i < ro_N → ro_S kA A U i) ∧ (∀ q ∈ ro_tab, vk_R q.1 q.2.1 q.2.2.1 (kA (5000 + q.2.2.2)) U) ∧ va_Z "java/lang/String" "COMPACT_STRINGS" "Z" (.int 1) A U U.heap ∧
  (va_Z "DrawingHouse" "ORDER_COUNTS" "[I" (.ref (kA 5400)) A U U.heap ∧ va_T .int (kA 5400) 7 (fun j => .int (ro_cnt.getD j 0)) A U U.heap) ∧ va_Z "DrawingHouse" "ORDER_STARTS" "[I" (.ref (kA 5401)) A U U.heap ∧ va_T .int (kA 5401) 7 (fun j => .int (ro_sta.getD j 0)) A U U.heap ∧ ∃ v : Value, (v = .null ∨ ∃ a : Nat, v = .ref a) ∧ va_Z "jdk/internal/util/Preconditions" "SIOOBE_FORMATTER" "Ljava/util/function/BiFunction;" v A U U.heap
theorem ro_go {kA : Nat → ClassId} {A B : Nat → Prop} {s U : State} {locs : List Loc} (h : ro kA A s) (hW : s.WarmedH U.vm) (hS : va_S A s.heap U.heap locs) (hAB : ∀ q, B q → A q) : ro kA B U := by
  have hq := hS.2.1
  have hv := hW.alike
  obtain ⟨h1, h2, h3, h4, ⟨h5, h6⟩, h7, h8, v9, u9, h9⟩ := h
  refine ⟨fun r hr hb => h1 r hr (hAB _ hb), fun i hi => ?_, fun q hq2 => vk_R.warm hW (h3 q hq2), ((h4.kept hq).moved hv).narrow hAB, ⟨((h5.kept hq).moved hv).narrow hAB, ((h6.kept hq).moved hv).narrow hAB⟩, ((h7.kept hq).moved hv).narrow hAB, ((h8.kept hq).moved hv).narrow hAB, v9, u9, ((h9.kept hq).moved hv).narrow hAB⟩
  obtain ⟨a, b, d, e⟩ := h2 i hi
  exact ⟨((a.kept hq).moved hv).narrow hAB, ((b.kept hq).moved hv).narrow hAB, ((d.kept hq).moved hv).narrow hAB, ((e.kept hq).moved hv).narrow hAB⟩
theorem ro_vm {kA : Nat → ClassId} {A : Nat → Prop} {s U : State} (h : ro kA A s) (e1 : U.vm = s.vm) (e2 : U.heap = s.heap) : ro kA A U := by
  have hv : s.vm.Alike U.vm := by rw [e1]; exact Vm.Alike.refl _
  obtain ⟨h1, h2, h3, h4, ⟨h5, h6⟩, h7, h8, v9, u9, h9⟩ := h
  rw [← e2] at h4 h5 h6 h7 h8 h9
  refine ⟨h1, fun i hi => ?_, fun q hq2 => vk_R.same e1 (h3 q hq2), h4.moved hv, ⟨h5.moved hv, h6.moved hv⟩, h7.moved hv, h8.moved hv, v9, u9, h9.moved hv⟩
  obtain ⟨a, b, d, e⟩ := h2 i hi
  rw [← e2] at a b d e
  exact ⟨a.moved hv, b.moved hv, d.moved hv, e.moved hv⟩
/-- what rides in every contract -/
def nsr (kA : Nat → ClassId) (A : Nat → Prop) (s : State) : Prop := nst s ∧ ro kA A s
def wpr (kA : Nat → ClassId) (D : va_G) (sz : Nat) (ws : va_W) (U : State) : Prop := wp D classes (TY kA) sz ws U ∧ ro kA (va_A ws sz) U
theorem wpr_blind {kA : Nat → ClassId} {D : va_G} {sz : Nat} {ws : va_W} {av : List Value} : FrameBlind (va_Pc av (wpr kA D sz ws)) :=
  fun a U g mk q => by
    obtain ⟨q0, q1, q2⟩ := q
    have h := wp_blind (av := av) a U g mk ⟨q0, q1⟩
    exact ⟨h.1, h.2, ro_vm (s := U) (U := U.calling g mk a) q2 rfl rfl⟩
section RO
variable {p : Program} {l : Launch} {e : Env} {R : Room} {s : State} {m : MethodId} {args : Array Value} {below : List Frame} {meth : Method} {c : Code} {H : Heap} {locs : List Loc} {cells slots : Nat} {Q : State → Prop} {cc : ByteArray} {pc : Nat} {ls : Array Slot} {rest : List Value}
theorem va_ldcwS (hexec : p.tables.exec = Jvm.exec) (hb : c.code = cc) {own tx : String} {index q : Nat} (hown : s.vm.findClass own = some m.cls) (hZ : vk_R own index tx q s) (hdg : decode cc pc = .ok (.ldc_w index, 3))
    (k : W p l e R s m args below meth c H locs cells slots Q (F0 m (pc + 3) ls (.ref q :: rest))) : W p l e R s m args below meth c H locs cells slots Q (F0 m pc ls rest) := by
  intro T hT X
  obtain ⟨t, a1, b1⟩ := k T hT X
  refine ⟨t, ?_, b1⟩
  obtain ⟨k0, cf, i, a_zq, hk, hcf, hcp, -, hr, hev_zq⟩ := Cond.stringRef_spec hown hZ.1
  cases hZ.2.symm.trans hev_zq
  obtain ⟨k_zq, hk_zq, he⟩ := X.warmed.alike.2.2 _ _ hk
  have hr_zq : k_zq.resolved[index]? = some (some (.string q)) := by
    rcases X.warmed.entry hk hk_zq index with h | ⟨h, -⟩
    · rw [h]; exact hr
    · rw [hr] at h; cases h
  have hdg_zq : decode c.code (F0 m pc ls rest).pc = .ok (.ldc_w index, 3) := by rw [hb]; exact hdg
  jvm_step X.here [hexec, hdg_zq, ldc_w.wp_string (e := e) (s := T) (f := F0 m pc ls rest) X.here.top hk_zq (by rw [he]; exact hcf) hcp hr_zq]
  exact a1
end RO
end
section
def ta_le (ta tb : Nat → Option Nat) : Prop := ∀ a r, ta a = some r → tb a = some r
/-! reading the world -/
def w_at (ws : va_W) (a : Nat) : Option va_E := (ws.find? (fun q => q.1 == a)).map (fun q => q.2)
def w_fd (ws : va_W) (a k : Nat) : Value := match w_at ws a with
  | some (.inr (_, fs)) => fs.getD k .null
  | _ => .null
def w_el (ws : va_W) (a j : Nat) : Int := match w_at ws a with
  | some (.inl (_, _, .inl f)) => (f j).toInt
  | some (.inl (_, _, .inr (.inl f))) => (f j).toInt
  | some (.inl (_, _, .inr (.inr (.inr (.inr f))))) => (match f j with | some b => ((b : Nat) : Int) | none => 0)
  | _ => 0
def v_iv (v : Value) : Int := match v with
  | .int x => x.toInt
  | .long x => x.toInt
  | _ => 0
def v_ad (v : Value) : Nat := match v with
  | .ref a => a
  | _ => 0
/-- the array in a field, the int in a field -/
def w_ar (ws : va_W) (o : Value) (k : Nat) : Nat := v_ad (w_fd ws (v_ad o) k)
def w_fi (ws : va_W) (o : Value) (k : Nat) : Int := v_iv (w_fd ws (v_ad o) k)
/-- the sum of the first elements -/
def w_sum (ws : va_W) (a : Nat) : Nat → Int
  | 0 => 0
  | n + 1 => w_sum ws a n + w_el ws a n
/-- an int as bits; how many are set -/
def bv (x : Int) : BitVec 32 := BitVec.ofInt 32 x
def pcB (b : BitVec 32) : Nat := ((List.range 32).filter (fun i => b.getLsbD i)).length
def pcn (x : Int) : Int := ((pcB (bv x) : Nat) : Int)
/-- a bit of an int -/
def bitn (x i : Int) : Int := if (bv x).getLsbD i.toNat then 1 else 0
/-- a sum of terms: (factor, 0, _) a name; (factor, 1, k) the int in field k of a name; (factor, 2, k) the element, at a name, of the array in field k of a name; (factor, 3, 1000000 * k + 1000 * j + c) the element of that array at the int in field j and c -/
def lt_v : List Int → List Value → va_W → Int
  | q :: t :: k :: r, x :: xs, ws => if t = 0 then q * v_iv x + lt_v r xs ws else if t = 1 then q * w_fi ws x k.toNat + lt_v r xs ws else if t = 3 then q * w_el ws (w_ar ws x (k.toNat / 1000000)) (w_fi ws x (k.toNat / 1000 % 1000) + ((k.toNat % 1000 : Nat) : Int)).toNat + lt_v r xs ws else if t = 5 then q * pcn (v_iv x) + lt_v r xs ws else if t = 6 then q * pcn (w_fi ws x k.toNat) + lt_v r xs ws else (match xs with
    | i :: xs => if t = 4 then q * w_el ws (w_ar ws x (k.toNat / 1000000000)) (((k.toNat / 1000 % 1000 : Nat) : Int) * w_fi ws x (k.toNat / 1000000 % 1000) + v_iv i + ((k.toNat % 1000 : Nat) : Int)).toNat + lt_v r xs ws else q * w_el ws (w_ar ws x k.toNat) (v_iv i).toNat + lt_v r xs ws
    | [] => 0)
  | _, _, _ => 0
/-- four bytes of an int, each with its most -/
def pk4 (ms : List Nat) (x : Int) : Prop := match ms with
  | [a, b, c, d] => 0 ≤ x ∧ x % 256 ≤ a ∧ x / 256 % 256 ≤ b ∧ x / 65536 % 256 ≤ c ∧ x / 16777216 ≤ d
  | _ => False
/-- what an element is by its place -/
abbrev pl_T : Type := Nat × Int × Int × List Nat
def pl_L (c : Nat) : List pl_T := match c with
  | 1 => [(0, 0, 24, []), (0, 0, 48, []), (0, 0, 8, [])] ++ List.replicate 192 (0, -1, 255, []) ++ List.replicate 24 (0, 0, 8, []) ++ List.replicate 24 (0, 0, 99, []) ++ List.replicate 24 (0, 0, 7, []) ++ List.replicate 96 (0, 0, 23, []) ++ List.replicate 48 (0, 0, 9, []) ++ List.replicate 48 (0, 0, 1, []) ++ List.replicate 64 (0, -1, 255, []) ++ List.replicate 8 (0, 0, 8, []) ++ [(0, -1, 0, []), (0, -1, 0, []), (0, -1, 1, []), (0, -1, 2, []), (0, -1, 3, []), (0, -1, 4, []), (0, -1, 5, []), (0, -1, 6, [])]
  | 2 => [(0, 0, 24, []), (0, 0, 48, [])] ++ (List.replicate 24 [(0, -2147483648, 2147483647, []), (0, -2147483648, 2147483647, []), (8, 0, 0, [8, 99, 7, 0])]).flatten ++ List.replicate 48 (8, 0, 0, [23, 23, 9, 1])
  | _ => []
def pl_k (t : pl_T) (x : Int) : Prop := if t.1 = 0 then t.2.1 ≤ x ∧ x ≤ t.2.2.1 else if t.1 = 8 then pk4 t.2.2.2 x else False
def pl_ok (c j : Nat) (x : Int) : Prop := ∀ t, (pl_L c)[j % (pl_L c).length]? = some t → pl_k t x
/-- how many names a sum takes -/
def lt_n : List Int → Nat
  | _ :: t :: _ :: r => (if t = 0 then 1 else if t = 1 then 1 else if t = 3 then 1 else if t = 5 then 1 else if t = 6 then 1 else 2) + lt_n r
  | _ => 0
def lt_h (is : List Int) (xs : List Value) (ws : va_W) : Prop := match is with
  | c :: r => lt_v r xs ws ≤ c
  | [] => False
/-- how many of the first elements are at most t; their sum -/
def cntN (f : Int → Int) (t : Int) : Nat → Int
  | 0 => 0
  | n + 1 => cntN f t n + (if f ((n : Nat) : Int) ≤ t then 1 else 0)
def sumN (f : Int → Int) : Nat → Int
  | 0 => 0
  | n + 1 => sumN f n + f ((n : Nat) : Int)
/-- by choice, so that neither the elaborator nor the kernel ever unfolds them -/
noncomputable def cntE (f : Int → Int) (t n : Int) : Int := Classical.choose (⟨cntN f t n.toNat, rfl⟩ : ∃ c : Int, c = cntN f t n.toNat)
theorem cntE_is (f : Int → Int) (t n : Int) : cntE f t n = cntN f t n.toNat := Classical.choose_spec (⟨cntN f t n.toNat, rfl⟩ : ∃ c : Int, c = cntN f t n.toNat)
noncomputable def sumE (f : Int → Int) (n : Int) : Int := Classical.choose (⟨sumN f n.toNat, rfl⟩ : ∃ c : Int, c = sumN f n.toNat)
theorem sumE_is (f : Int → Int) (n : Int) : sumE f n = sumN f n.toNat := Classical.choose_spec (⟨sumN f n.toNat, rfl⟩ : ∃ c : Int, c = sumN f n.toNat)
/-- the first elements as the digits of a number -/
def numN (f : Int → Int) : Nat → Int
  | 0 => 0
  | n + 1 => 32 * numN f n + f ((n : Nat) : Int)
noncomputable def numE (f : Int → Int) (n : Int) : Int := Classical.choose (⟨numN f n.toNat, rfl⟩ : ∃ c : Int, c = numN f n.toNat)
theorem numE_is (f : Int → Int) (n : Int) : numE f n = numN f n.toNat := Classical.choose_spec (⟨numN f n.toNat, rfl⟩ : ∃ c : Int, c = numN f n.toNat)
/-- terms and formulas as rows of numbers (each first part has its length ahead): over names, fields and elements of arrays in fields -/
noncomputable def tm_v (F : Nat → Nat → Int) (E : Nat → Nat → Int → Int) (xs bs : List Int) : Nat → List Int → Int
  | n + 1, t :: r => match t.toNat, r with
    | 0, [c] => c
    | 1, [i] => xs.getD i.toNat 0
    | 2, [i, k] => F i.toNat k.toNat
    | 3, i :: k :: r => E i.toNat k.toNat (tm_v F E xs bs n r)
    | 4, l :: r => tm_v F E xs bs n (r.take l.toNat) + tm_v F E xs bs n (r.drop l.toNat)
    | 5, l :: r => tm_v F E xs bs n (r.take l.toNat) - tm_v F E xs bs n (r.drop l.toNat)
    | 6, l :: r => tm_v F E xs bs n (r.take l.toNat) * tm_v F E xs bs n (r.drop l.toNat)
    | 7, [i] => bs.getD i.toNat 0
    | 8, l :: r => tm_v F E xs bs n (r.take l.toNat) / tm_v F E xs bs n (r.drop l.toNat)
    | 9, l :: r => tm_v F E xs bs n (r.take l.toNat) % tm_v F E xs bs n (r.drop l.toNat)
    | 10, l :: r => bitn (tm_v F E xs bs n (r.take l.toNat)) (tm_v F E xs bs n (r.drop l.toNat))
    | 11, r => pcn (tm_v F E xs bs n r)
    | 12, l :: r => (bv (tm_v F E xs bs n (r.take l.toNat)) &&& bv (tm_v F E xs bs n (r.drop l.toNat))).toInt
    | 15, i :: k :: l :: r => cntE (E i.toNat k.toNat) (tm_v F E xs bs n (r.drop l.toNat)) (tm_v F E xs bs n (r.take l.toNat))
    | 16, i :: k :: r => sumE (E i.toNat k.toNat) (tm_v F E xs bs n r)
    | 17, i :: k :: r => numE (E i.toNat k.toNat) (tm_v F E xs bs n r)
    | 14, i :: k :: M :: r => E i.toNat (1000 * M.toNat + k.toNat) (tm_v F E xs bs n r)
    | 13, l :: r => (bv (tm_v F E xs bs n (r.take l.toNat)) ||| bv (tm_v F E xs bs n (r.drop l.toNat))).toInt
    | _, _ => 0
  | _, _ => 0
def fm_v (F : Nat → Nat → Int) (E : Nat → Nat → Int → Int) (xs : List Int) : Nat → List Int → List Int → Prop
  | n + 1, t :: l :: r, bs => match t.toNat with
    | 0 => tm_v F E xs bs 20 (r.take l.toNat) ≤ tm_v F E xs bs 20 (r.drop l.toNat)
    | 1 => tm_v F E xs bs 20 (r.take l.toNat) = tm_v F E xs bs 20 (r.drop l.toNat)
    | 2 => fm_v F E xs n (r.take l.toNat) bs ∧ fm_v F E xs n (r.drop l.toNat) bs
    | 3 => fm_v F E xs n (r.take l.toNat) bs ∨ fm_v F E xs n (r.drop l.toNat) bs
    | 4 => fm_v F E xs n (r.take l.toNat) bs → fm_v F E xs n (r.drop l.toNat) bs
    | 5 => ∀ j : Int, 0 ≤ j → j < tm_v F E xs bs 20 (r.take l.toNat) → fm_v F E xs n (r.drop l.toNat) (bs ++ [j])
    | 6 => ∃ j : Int, 0 ≤ j ∧ j < tm_v F E xs bs 20 (r.take l.toNat) ∧ fm_v F E xs n (r.drop l.toNat) (bs ++ [j])
    | 7 => tm_v F E xs bs 20 (r.take l.toNat) ≠ tm_v F E xs bs 20 (r.drop l.toNat)
    | _ => True
  | _, _, _ => True
/-- the element at an int -/
def w_ei (ws : va_W) (a : Nat) (z : Int) : Int := w_el ws a z.toNat
/-- what such a formula sees of the world: the fields and arrays that it names, 1000 * name + field -/
def vw_F (fs : List Int) (xs : List Value) (ws : va_W) (i k : Nat) : Int := match xs[i]? with
  | some x => bif fs.contains ((1000 * i + k : Nat) : Int) && decide (k < 1000) then w_fi ws x k else 0
  | none => 0
def vw_E (fs : List Int) (xs : List Value) (ws : va_W) (i k : Nat) (z : Int) : Int := match xs[i]? with
  | some x => bif fs.contains ((1000 * i + k : Nat) : Int) && decide (k < 1000) then w_ei ws (w_ar ws x k) z else 0
  | none => 0
/-- a field of the object at a place of an array of references -/
def w_rfi (ws : va_W) (a : Nat) (z : Int) (len kf : Nat) : Int := bif decide (0 ≤ z) && decide (z < ((len : Nat) : Int)) then w_fi ws (.ref (w_ei ws a z).toNat) kf else 0
/-- the same, as formulas see it: M = 1000 * how many places count + the field -/
def vw_R (rs : List Int) (xs : List Value) (ws : va_W) (i k M : Nat) (z : Int) : Int := match xs[i]? with
  | some x => bif rs.contains ((1000000 * M + 1000 * i + k : Nat) : Int) && (decide (i < 1000) && decide (k < 1000)) then w_rfi ws (w_ar ws x k) z (M / 1000) (M % 1000) else 0
  | none => 0
def vw_E2 (as rs : List Int) (xs : List Value) (ws : va_W) (i k : Nat) (z : Int) : Int := if k < 1000 then vw_E as xs ws i k z else vw_R rs xs ws i (k % 1000) (k / 1000) z
/-- what predicates of the whole world may see: arrays of references in fields of an object, and of the objects there some fields and the arrays in some fields -/
abbrev fp_T : Type := List (Nat × Nat × List Nat × List Nat)
def fp_eq (F : fp_T) (v : Value) (w0 w1 : va_W) : Prop := ∀ q ∈ F, w_fd w1 (v_ad v) q.1 = w_fd w0 (v_ad v) q.1 ∧ (∀ j, j < q.2.1 → w_el w1 (w_ar w0 v q.1) j = w_el w0 (w_ar w0 v q.1) j) ∧ ∀ j, j < q.2.1 → (∀ k ∈ q.2.2.1, w_fd w1 (w_el w0 (w_ar w0 v q.1) j).toNat k = w_fd w0 (w_el w0 (w_ar w0 v q.1) j).toNat k) ∧ ∀ k ∈ q.2.2.2, ∀ d, w_fd w0 (w_el w0 (w_ar w0 v q.1) j).toNat k = .ref d → ∀ i, w_el w1 d i = w_el w0 d i
/-- the house's places: graphs, facts, nets -/
def fpH : fp_T := [(0, 4, [0, 1, 7, 8, 14, 16, 17, 18], [7, 8, 14, 16]), (1, 4, [0, 1, 2, 4, 9], [4, 9]), (2, 4, [0, 3, 5, 6, 7, 8, 9, 12, 16], [7, 8, 9, 12, 16])]
/-- the house's layers: field 17 of the house, and in it the array in field 17 -/
def fl_eq (v : Value) (w0 w1 : va_W) : Prop := w_fd w1 (v_ad v) 17 = w_fd w0 (v_ad v) 17 ∧ ∀ o, w_fd w0 (v_ad v) 17 = .ref o → w_fd w1 o 17 = w_fd w0 o 17 ∧ ∀ d, w_fd w0 o 17 = .ref d → ∀ i, w_el w1 d i = w_el w0 d i
/-- the house's drawings: field 3 of the house, and of each drawing the heights, field 3 -/
def fpD : fp_T := [(3, 4, [3, 0], [3]), (0, 4, [], [])]
def fq_eq (k : Nat) (v : Value) (w0 w1 : va_W) : Prop := match Nat.blt k 1000000 with
  | true => fp_eq fpH v w0 w1
  | false => (match Nat.blt k 2000000 with
    | true => fl_eq v w0 w1
    | false => fp_eq fpD v w0 w1)
/-- predicates that have a number, over what they see of the world -/
abbrev pq_T : Type := (Nat → (Nat → Nat → Int) → (Nat → Nat → Int → Int) → List Int → Prop) × {f : Nat → List Value → va_W → Prop // ∀ k v xs w0 w1, fq_eq k v w0 w1 → f k (v :: xs) w0 → f k (v :: xs) w1}
/-- what the tokens of facts say -/
def tk_ok (PQ : pq_T) (t : Nat) (is : List Int) (xs : List Value) (ws : va_W) : Prop := match t, is, xs with
  | 1, [k, n, c, d], [h, o, b] => v_iv h = c + d * w_sum ws (w_ar ws o k.toNat) n.toNat + v_iv b
  | 2, [k, n, c, d], [h, o, b] => c + d * w_sum ws (w_ar ws o k.toNat) n.toNat + v_iv b + 1 ≤ v_iv h
  | 5, [k, c], [o, j] => w_el ws (w_ar ws o k.toNat) (v_iv j).toNat = c
  | 6, [k, lo, hi], [o, n] => ∀ j : Nat, (j : Int) < v_iv n → lo ≤ w_el ws (w_ar ws o k.toNat) j ∧ w_el ws (w_ar ws o k.toNat) j ≤ hi
  | 7, [k, k2, lo, hi], [o] => ∀ j : Nat, (j : Int) < w_fi ws o k2.toNat → lo ≤ w_el ws (w_ar ws o k.toNat) j ∧ w_el ws (w_ar ws o k.toNat) j ≤ hi
  | 8, [lo, hi, d], [a, n] => ∀ j : Nat, (j : Int) < v_iv n + d → lo ≤ w_el ws (v_ad a) j ∧ w_el ws (v_ad a) j ≤ hi
  | 30, c :: is, xs => lt_v is xs ws ≤ c
  | 31, n :: c :: is, xs => lt_v (is.take (3 * n.toNat)) (xs.take (lt_n (is.take (3 * n.toNat)))) ws ≤ c ∨ lt_h (is.drop (3 * n.toNat)) (xs.drop (lt_n (is.take (3 * n.toNat)))) ws
  | 51, nf :: na :: nr :: is, xs => fm_v (vw_F (is.take nf.toNat) xs ws) (vw_E2 ((is.drop nf.toNat).take na.toNat) (((is.drop nf.toNat).drop na.toNat).take nr.toNat) xs ws) (xs.map v_iv) 20 (((is.drop nf.toNat).drop na.toNat).drop nr.toNat) []
  | 60, nf :: na :: k :: is, xs => PQ.1 k.toNat (vw_F (is.take nf.toNat) xs ws) (vw_E ((is.drop nf.toNat).take na.toNat) xs ws) (xs.map v_iv)
  | 62, k :: _, xs => PQ.2.1 k.toNat xs ws
  | 61, na :: k :: _, xs => PQ.1 k.toNat (fun _ _ => 0) (fun i _ z => match xs[i]? with | some x => if i < na.toNat then w_ei ws (v_ad x) z else 0 | none => 0) (xs.map v_iv)
  | 50, nf :: na :: is, xs => fm_v (vw_F (is.take nf.toNat) xs ws) (vw_E ((is.drop nf.toNat).take na.toNat) xs ws) (xs.map v_iv) 20 ((is.drop nf.toNat).drop na.toNat) []
  | _, _, _ => True
end
section
variable {PQ : pq_T}
/-! what is known exactly: facts about names and about the world, oldest last; those from 100 on change the world -/
def n_v (vs : List Value) (n : Nat) : Value := (vs[n]?).getD .null
def n_iv (vs : List Value) (n : Nat) : Int := v_iv (n_v vs n)
def n_ad (vs : List Value) (n : Nat) : Nat := v_ad (n_v vs n)
abbrev fc_T : Type := Nat × List Nat × List Int
def cq (q x y : Int) : Prop := match q with
  | 0 => x = y
  | 1 => x ≠ y
  | 2 => x < y
  | 3 => y ≤ x
  | 4 => y < x
  | 5 => x ≤ y
  | _ => True
def v_lin : List Int → List Value → Int
  | k :: ks, x :: xs => k * v_iv x + v_lin ks xs
  | _, _ => 0
def fc_m (PQ : pq_T) (c : Nat) (xs : List Value) (is : List Int) (ws : va_W) : Prop := match c, xs, is with
  | 1, [n, a, b], _ => v_iv n = v_iv a + v_iv b
  | 2, [n, a, b], _ => v_iv n = v_iv a - v_iv b
  | 3, [n, a, b], _ => v_iv n = v_iv a * v_iv b
  | 4, [n, a, b], _ => v_iv n = (v_iv a).tdiv (v_iv b)
  | 5, [n, a, b], _ => v_iv n = (v_iv a).tmod (v_iv b)
  | 6, [n, a], [d] => v_iv n = v_iv a + d
  | 7, [a, b], [q] => cq q (v_iv a) (v_iv b)
  | 8, [a], [q] => cq q (v_iv a) 0
  | 9, [n, o], [k] => n = w_fd ws (v_ad o) k.toNat
  | 10, [n, a, i], _ => v_iv n = w_el ws (v_ad a) (v_iv i).toNat
  | 11, [n, a], [d] => v_iv n = v_iv a / d
  | 12, [n, a], [d] => v_iv n = v_iv a % d
  | 13, [n, a, b], _ => v_iv n ≤ v_iv a + v_iv b ∧ v_iv a ≤ v_iv n ∧ v_iv b ≤ v_iv n ∧ (v_iv n).toNat = (v_iv a).toNat ||| (v_iv b).toNat
  | 14, [n, a, i], _ => ((v_ad n : Nat) : Int) = w_el ws (v_ad a) (v_iv i).toNat
  | 15, [n, a], [d] => v_iv n = v_iv a * d
  | 16, [n, a, b], [o] => bv (v_iv n) = (match o with | 0 => bv (v_iv a) &&& bv (v_iv b) | 1 => bv (v_iv a) ||| bv (v_iv b) | 2 => bv (v_iv a) ^^^ bv (v_iv b) | 3 => bv (v_iv a) <<< (v_iv b).toNat | 4 => bv (v_iv a) >>> (v_iv b).toNat | 5 => bv (v_iv a) * bv (v_iv b) | _ => bv (v_iv n))
  | 17, [n, a], _ => v_iv n = (v_iv a + 128) % 256 - 128
  | 18, [j, v], [c] => pl_ok c.toNat (v_iv j).toNat (v_iv v)
  | 19, [n, a, b], _ => v_iv n = v_iv a / ((2 ^ (v_iv b).toNat : Nat) : Int)
  | 20, xs, t :: is => tk_ok PQ t.toNat is xs ws
  | 21, [a, b], [c] => v_iv a + v_iv b ≤ c
  | 22, [n, a], _ => v_iv n = v_iv a
  | 23, xs, c :: ks => v_lin ks xs ≤ c
  | 24, [a, b], _ => a = b
  | _, _, _ => True
def fc_1 (PQ : pq_T) (f : fc_T) (ws : va_W) (vs : List Value) : Prop := (∀ n ∈ f.2.1, n < vs.length) ∧ fc_m PQ f.1 (f.2.1.map (n_v vs)) f.2.2 ws
def fc_s (f : fc_T) (ta0 : Nat → Option Nat) (w0 w1 : va_W) (vs : List Value) : Prop := (∀ n ∈ f.2.1, n < vs.length) ∧ match f with
  | (100, [a, i, v], _) => (∀ b j, w_el w1 b j = if b = n_ad vs a ∧ j = (n_iv vs i).toNat then n_iv vs v else w_el w0 b j) ∧ ∀ b k, w_fd w1 b k = w_fd w0 b k
  | (101, [o, v], [k]) => (∀ b j, w_el w1 b j = w_el w0 b j) ∧ ∀ b j, w_fd w1 b j = if b = n_ad vs o ∧ j = k.toNat then n_v vs v else w_fd w0 b j
  | (102, ns, m :: ks) => (∀ b r, ta0 b = some r → m.toNat.testBit r = false → ∀ j, w_el w1 b j = w_el w0 b j) ∧ (∀ b r k, ta0 b = some r → ((1000 * r + k : Nat) : Int) ∉ ks → w_fd w1 b k = w_fd w0 b k) ∧ (∀ n0 ∈ ns, ∀ n, n ≤ n0 → ∀ a, n_v vs n = .ref a → (ta0 a).isSome = true) ∧ (∀ b r k, ta0 b = some r → ((1000 * r + k : Nat) : Int) ∉ ks → w_fd w1 b k = w_fd w0 b k) ∧ (∀ b k c, (ta0 b).isSome = true → w_fd w0 b k = .ref c → (ta0 c).isSome = true) ∧ ∀ b r j c, ta0 b = some r → m.toNat.testBit r = false → (∃ cl n f, w_at w1 b = some (.inl (cl, n, .inr (.inr (.inr (.inr f))))) ∧ j < n ∧ f j = some c) → (ta0 c).isSome = true
  | (103, [a], _) => (∀ b j, b ≠ n_ad vs a → w_el w1 b j = w_el w0 b j) ∧ ∀ b k, w_fd w1 b k = w_fd w0 b k
  | _ => True
def fc_ok (PQ : pq_T) : List fc_T → (Nat → Option Nat) → va_W → List Value → Prop
  | [], _, _, _ => True
  | f :: r, ta, ws, vs => if f.1 < 100 then fc_1 PQ f ws vs ∧ fc_ok PQ r ta ws vs else ∃ ta0 w0, ta_le ta0 ta ∧ fc_s f ta0 w0 ws vs ∧ fc_ok PQ r ta0 w0 vs
theorem n_v_pre {vs vs_zq : List Value} (h : vs <+: vs_zq) {n : Nat} (hn : n < vs.length) : n_v vs_zq n = n_v vs n := by
  obtain ⟨t, rfl⟩ := h
  unfold n_v
  rw [List.getElem?_append_left hn]
theorem n_iv_pre {vs vs_zq : List Value} (h : vs <+: vs_zq) {n : Nat} (hn : n < vs.length) : n_iv vs_zq n = n_iv vs n := by unfold n_iv; rw [n_v_pre h hn]
theorem n_ad_pre {vs vs_zq : List Value} (h : vs <+: vs_zq) {n : Nat} (hn : n < vs.length) : n_ad vs_zq n = n_ad vs n := by unfold n_ad; rw [n_v_pre h hn]
theorem pre_len {vs vs_zq : List Value} (h : vs <+: vs_zq) {n : Nat} (hn : n < vs.length) : n < vs_zq.length := by
  obtain ⟨t, rfl⟩ := h
  rw [List.length_append]; omega
theorem fc_1_pre {vs vs_zq : List Value} (h : vs <+: vs_zq) {f : fc_T} {ws : va_W} (hf : fc_1 PQ f ws vs) : fc_1 PQ f ws vs_zq := by
  obtain ⟨h1, h2⟩ := hf
  refine ⟨fun n hn => pre_len h (h1 n hn), ?_⟩
  rw [show f.2.1.map (n_v vs_zq) = f.2.1.map (n_v vs) from List.map_congr_left (fun n hn => n_v_pre h (h1 n hn))]
  exact h2
/-- names set otherwise -/
def fc_map (g : Nat → Nat) (f : fc_T) : fc_T := (f.1, f.2.1.map g, f.2.2)
theorem fc_1_map {f : fc_T} {g : Nat → Nat} {ws : va_W} {vs vs2 : List Value} (h : ∀ n ∈ f.2.1, n < vs2.length → g n < vs.length ∧ n_v vs (g n) = n_v vs2 n) (hf : fc_1 PQ f ws vs2) : fc_1 PQ (fc_map g f) ws vs := by
  obtain ⟨h1, h2⟩ := hf
  refine ⟨fun n hn => ?_, ?_⟩
  · obtain ⟨q, hq, e⟩ := List.mem_map.mp hn
    rw [← e]; exact (h q hq (h1 q hq)).1
  · show fc_m PQ f.1 ((f.2.1.map g).map (n_v vs)) f.2.2 ws
    rw [List.map_map, show f.2.1.map (n_v vs ∘ g) = f.2.1.map (n_v vs2) from List.map_congr_left (fun n hn => (h n hn (h1 n hn)).2)]
    exact h2
theorem fc_1_unmap {f : fc_T} {g : Nat → Nat} {ws : va_W} {vs vs2 : List Value} (h : ∀ n ∈ f.2.1, g n < vs.length → n < vs2.length ∧ n_v vs (g n) = n_v vs2 n) (hf : fc_1 PQ (fc_map g f) ws vs) : fc_1 PQ f ws vs2 := by
  obtain ⟨h1, h2⟩ := hf
  have h3 : ∀ n ∈ f.2.1, g n < vs.length := fun n hn => h1 (g n) (List.mem_map_of_mem hn)
  refine ⟨fun n hn => (h n hn (h3 n hn)).1, ?_⟩
  have h2_zq : fc_m PQ f.1 ((f.2.1.map g).map (n_v vs)) f.2.2 ws := h2
  rw [List.map_map, show f.2.1.map (n_v vs ∘ g) = f.2.1.map (n_v vs2) from List.map_congr_left (fun n hn => (h n hn (h3 n hn)).2)] at h2_zq
  exact h2_zq
theorem fc_s_pre {vs vs_zq : List Value} (h : vs <+: vs_zq) {f : fc_T} {ta0 : Nat → Option Nat} {w0 w1 : va_W} (hf : fc_s f ta0 w0 w1 vs) : fc_s f ta0 w0 w1 vs_zq := by
  obtain ⟨h1, h2⟩ := hf
  refine ⟨fun n hn => pre_len h (h1 n hn), ?_⟩
  have iv : ∀ n ∈ f.2.1, n_iv vs_zq n = n_iv vs n := fun n hn => n_iv_pre h (h1 n hn)
  have ad : ∀ n ∈ f.2.1, n_ad vs_zq n = n_ad vs n := fun n hn => n_ad_pre h (h1 n hn)
  have vv : ∀ n ∈ f.2.1, n_v vs_zq n = n_v vs n := fun n hn => n_v_pre h (h1 n hn)
  split
  · simp only [List.mem_cons, List.not_mem_nil, or_false, forall_eq_or_imp, forall_eq] at iv ad; simp only at h2; rw [ad.1, iv.2.1, iv.2.2]; exact h2
  · simp only [List.mem_cons, List.not_mem_nil, or_false, forall_eq_or_imp, forall_eq] at ad vv; simp only at h2; rw [ad.1, vv.2]; exact h2
  · rename_i ns m ks
    have h2_zq := h2
    simp only at h2_zq ⊢
    refine ⟨h2_zq.1, h2_zq.2.1, fun n0 hn0 n hn a ha => ?_, h2_zq.2.2.2⟩
    have hl := h1 n0 hn0
    rw [n_v_pre h (Nat.lt_of_le_of_lt hn hl)] at ha
    exact h2_zq.2.2.1 n0 hn0 n hn a ha
  · simp only [List.mem_cons, List.not_mem_nil, or_false, forall_eq] at ad; simp only at h2; rw [ad]; exact h2
  · trivial
theorem fc_pre {vs vs_zq : List Value} (h : vs <+: vs_zq) : ∀ {fs : List fc_T} {ta : Nat → Option Nat} {ws : va_W}, fc_ok PQ fs ta ws vs → fc_ok PQ fs ta ws vs_zq
  | [], _, _, _ => trivial
  | f :: r, ta, ws, hf => by
    unfold fc_ok at hf ⊢
    split at hf
    · rename_i hq; rw [if_pos hq]; exact ⟨fc_1_pre h hf.1, fc_pre h hf.2⟩
    · rename_i hq
      rw [if_neg hq]
      obtain ⟨ta0, w0, a, b, d⟩ := hf
      exact ⟨ta0, w0, a, fc_s_pre h b, fc_pre h d⟩
theorem fc_cons {f : fc_T} {fs : List fc_T} {ta : Nat → Option Nat} {ws : va_W} {vs : List Value} (hl : f.1 < 100) (h1 : fc_1 PQ f ws vs) (h : fc_ok PQ fs ta ws vs) : fc_ok PQ (f :: fs) ta ws vs := by
  unfold fc_ok; rw [if_pos hl]; exact ⟨h1, h⟩
theorem fc_step {f : fc_T} {fs : List fc_T} {ta tb : Nat → Option Nat} {ws w1 : va_W} {vs : List Value} (hl : ¬ f.1 < 100) (hle : ta_le ta tb) (h1 : fc_s f ta ws w1 vs) (h : fc_ok PQ fs ta ws vs) : fc_ok PQ (f :: fs) tb w1 vs := by
  unfold fc_ok; rw [if_neg hl]; exact ⟨ta, ws, hle, h1, h⟩
/-- the facts of the present world -/
def fc_now : List fc_T → List fc_T
  | [] => []
  | f :: r => if f.1 < 100 then f :: fc_now r else []
theorem fc_now_ok : ∀ {fs : List fc_T} {ta : Nat → Option Nat} {ws : va_W} {vs : List Value}, fc_ok PQ fs ta ws vs → ∀ f ∈ fc_now fs, f.1 < 100 ∧ fc_1 PQ f ws vs
  | [], _, _, _, _, f, hf => by cases hf
  | g :: r, ta, ws, vs, h, f, hf => by
    unfold fc_ok at h
    unfold fc_now at hf
    split at h
    · rename_i hq
      rw [if_pos hq] at hf
      rcases List.mem_cons.mp hf with rfl | hf
      · exact ⟨hq, h.1⟩
      · exact fc_now_ok h.2 f hf
    · rename_i hq
      rw [if_neg hq] at hf
      cases hf
/-- some facts left out -/
def fc_sub : List fc_T → List fc_T → Bool
  | [], _ => true
  | f :: r, [] => false
  | f :: r, g :: s => if f = g then fc_sub r s else if g.1 < 100 then fc_sub (f :: r) s else false
theorem fc_sub_ok : ∀ {fs gs : List fc_T} {ta : Nat → Option Nat} {ws : va_W} {vs : List Value}, fc_sub fs gs = true → fc_ok PQ gs ta ws vs → fc_ok PQ fs ta ws vs
  | [], _, _, _, _, _, _ => trivial
  | f :: r, [], _, _, _, h, _ => by cases h
  | f :: r, g :: s, ta, ws, vs, h, hg => by
    unfold fc_sub at h
    unfold fc_ok at hg
    split at h
    · rename_i e
      subst e
      split at hg
      · rename_i hq; exact fc_cons hq hg.1 (fc_sub_ok h hg.2)
      · rename_i hq
        obtain ⟨ta0, w0, a, b, d⟩ := hg
        exact fc_step hq a b (fc_sub_ok h d)
    · split at h
      · rename_i hq
        rw [if_pos hq] at hg
        exact fc_sub_ok h hg.2
      · cases h
theorem w_at_mem {A : Nat → Prop} {ws : va_W} (hD : va_D A ws) {a : Nat} {e : va_E} (h : (a, e) ∈ ws) : w_at ws a = some e := by
  unfold w_at
  obtain ⟨j, hj⟩ := List.mem_iff_getElem?.mp h
  cases hf : ws.find? (fun q => q.1 == a) with
  | none => exact absurd (List.find?_eq_none.mp hf _ h) (by simp)
  | some q =>
    have h1 := List.mem_of_find?_eq_some hf
    have h2 : q.1 = a := by simpa using List.find?_some hf
    obtain ⟨i, hi⟩ := List.mem_iff_getElem?.mp h1
    have e1 := hD.1 i j _ _ hi hj h2
    rw [e1, hj] at hi
    rw [← Option.some.inj hi]; rfl
end
section
/-! values by kinds: (0, lo, hi, _) ints, (1, lo, hi, _) longs, (2, _, _, rs) references into the regions rs, (3, ..) the same or null, (5, lo, hi, [M]) ints that M divides -/
abbrev tv_T : Type := Nat × Int × Int × List Nat
def tv_ok (ta : Nat → Option Nat) (t : tv_T) (v : Value) : Prop :=
  (t.1 = 0 ∧ ∃ x : Int32, v = .int x ∧ t.2.1 ≤ x.toInt ∧ x.toInt ≤ t.2.2.1) ∨
  (t.1 = 1 ∧ ∃ x : Int64, v = .long x ∧ t.2.1 ≤ x.toInt ∧ x.toInt ≤ t.2.2.1) ∨
  (t.1 = 2 ∧ ∃ (a r : Nat), v = .ref a ∧ ta a = some r ∧ r ∈ t.2.2.2) ∨
  (t.1 = 3 ∧ (v = .null ∨ ∃ (a r : Nat), v = .ref a ∧ ta a = some r ∧ r ∈ t.2.2.2)) ∨
  (t.1 = 5 ∧ ∃ x : Int32, v = .int x ∧ t.2.1 ≤ x.toInt ∧ x.toInt ≤ t.2.2.1 ∧ ∃ q : Int, x.toInt = (t.2.2.2.headD 1 : Nat) * q) ∨
  (t.1 = 8 ∧ ∃ x : Int32, v = .int x ∧ pk4 t.2.2.2 x.toInt)
theorem tv_int {ta : Nat → Option Nat} {t : tv_T} {v : Value} (h : tv_ok ta t v) (h0 : t.1 = 0) : ∃ x : Int32, v = .int x ∧ t.2.1 ≤ x.toInt ∧ x.toInt ≤ t.2.2.1 := by
  rcases h with h | h | h | h | h | h
  · exact h.2
  · exact absurd (h0.symm.trans h.1) (by decide)
  · exact absurd (h0.symm.trans h.1) (by decide)
  · exact absurd (h0.symm.trans h.1) (by decide)
  · exact absurd (h0.symm.trans h.1) (by decide)
  · exact absurd (h0.symm.trans h.1) (by decide)
theorem tv_long {ta : Nat → Option Nat} {t : tv_T} {v : Value} (h : tv_ok ta t v) (h0 : t.1 = 1) : ∃ x : Int64, v = .long x ∧ t.2.1 ≤ x.toInt ∧ x.toInt ≤ t.2.2.1 := by
  rcases h with h | h | h | h | h | h
  · exact absurd (h0.symm.trans h.1) (by decide)
  · exact h.2
  · exact absurd (h0.symm.trans h.1) (by decide)
  · exact absurd (h0.symm.trans h.1) (by decide)
  · exact absurd (h0.symm.trans h.1) (by decide)
  · exact absurd (h0.symm.trans h.1) (by decide)
theorem tv_ref {ta : Nat → Option Nat} {t : tv_T} {v : Value} (h : tv_ok ta t v) (h0 : t.1 = 2) : ∃ (a r : Nat), v = .ref a ∧ ta a = some r ∧ r ∈ t.2.2.2 := by
  rcases h with h | h | h | h | h | h
  · exact absurd (h0.symm.trans h.1) (by decide)
  · exact absurd (h0.symm.trans h.1) (by decide)
  · exact h.2
  · exact absurd (h0.symm.trans h.1) (by decide)
  · exact absurd (h0.symm.trans h.1) (by decide)
  · exact absurd (h0.symm.trans h.1) (by decide)
theorem tv_nref {ta : Nat → Option Nat} {t : tv_T} {v : Value} (h : tv_ok ta t v) (h0 : t.1 = 3) : v = .null ∨ ∃ (a r : Nat), v = .ref a ∧ ta a = some r ∧ r ∈ t.2.2.2 := by
  rcases h with h | h | h | h | h | h
  · exact absurd (h0.symm.trans h.1) (by decide)
  · exact absurd (h0.symm.trans h.1) (by decide)
  · exact absurd (h0.symm.trans h.1) (by decide)
  · exact h.2
  · exact absurd (h0.symm.trans h.1) (by decide)
  · exact absurd (h0.symm.trans h.1) (by decide)
theorem tv_div {ta : Nat → Option Nat} {t : tv_T} {v : Value} (h : tv_ok ta t v) (h0 : t.1 = 5) : ∃ x : Int32, v = .int x ∧ t.2.1 ≤ x.toInt ∧ x.toInt ≤ t.2.2.1 ∧ ∃ q : Int, x.toInt = (t.2.2.2.headD 1 : Nat) * q := by
  rcases h with h | h | h | h | h | h
  · exact absurd (h0.symm.trans h.1) (by decide)
  · exact absurd (h0.symm.trans h.1) (by decide)
  · exact absurd (h0.symm.trans h.1) (by decide)
  · exact absurd (h0.symm.trans h.1) (by decide)
  · exact h.2
  · exact absurd (h0.symm.trans h.1) (by decide)
/-- the kind says how wide a value is -/
theorem tv_cat {ta : Nat → Option Nat} {t : tv_T} {v : Value} (h : tv_ok ta t v) : (t.1 = 1 → v.category = 2) ∧ (t.1 ≠ 1 → v.category = 1) := by
  rcases h with ⟨h, x, rfl, _⟩ | ⟨h, x, rfl, _⟩ | ⟨h, a, r, rfl, _⟩ | ⟨h, h2⟩ | ⟨h, x, rfl, _⟩ | ⟨h, x, rfl, _⟩
  · exact ⟨fun e => absurd (h.symm.trans e) (by decide), fun _ => rfl⟩
  · exact ⟨fun _ => rfl, fun e => absurd h e⟩
  · exact ⟨fun e => absurd (h.symm.trans e) (by decide), fun _ => rfl⟩
  · refine ⟨fun e => absurd (h.symm.trans e) (by decide), fun _ => ?_⟩
    rcases h2 with rfl | ⟨a, r, rfl, _⟩ <;> rfl
  · exact ⟨fun e => absurd (h.symm.trans e) (by decide), fun _ => rfl⟩
  · exact ⟨fun e => absurd (h.symm.trans e) (by decide), fun _ => rfl⟩
/-- a wider kind -/
def tv_le (t u : tv_T) : Bool :=
  if t.1 = 0 then decide (u.1 = 0) && decide (u.2.1 ≤ t.2.1) && decide (t.2.2.1 ≤ u.2.2.1)
  else if t.1 = 1 then decide (u.1 = 1) && decide (u.2.1 ≤ t.2.1) && decide (t.2.2.1 ≤ u.2.2.1)
  else if t.1 = 2 then (decide (u.1 = 2) || decide (u.1 = 3)) && t.2.2.2.all (fun r => u.2.2.2.contains r)
  else if t.1 = 3 then decide (u.1 = 3) && t.2.2.2.all (fun r => u.2.2.2.contains r)
  else decide (t.1 = 5) && decide (u.1 = 5) && decide (u.2.1 ≤ t.2.1) && decide (t.2.2.1 ≤ u.2.2.1) && decide (t.2.2.2.headD 1 = u.2.2.2.headD 1)
theorem tv_le_ok {ta : Nat → Option Nat} {t u : tv_T} {v : Value} (h : tv_le t u = true) (hv : tv_ok ta t v) : tv_ok ta u v := by
  unfold tv_le at h
  by_cases h0 : t.1 = 0
  · rw [if_pos h0] at h
    simp only [Bool.and_eq_true, decide_eq_true_eq] at h
    obtain ⟨x, e, a, b⟩ := tv_int hv h0
    exact Or.inl ⟨h.1.1, x, e, by omega, by omega⟩
  · rw [if_neg h0] at h
    by_cases h1 : t.1 = 1
    · rw [if_pos h1] at h
      simp only [Bool.and_eq_true, decide_eq_true_eq] at h
      obtain ⟨x, e, a, b⟩ := tv_long hv h1
      exact Or.inr (Or.inl ⟨h.1.1, x, e, by omega, by omega⟩)
    · rw [if_neg h1] at h
      by_cases h2 : t.1 = 2
      · rw [if_pos h2] at h
        simp only [Bool.and_eq_true, Bool.or_eq_true, decide_eq_true_eq, List.all_eq_true, List.contains_iff_mem] at h
        obtain ⟨a, r, e, e2, e3⟩ := tv_ref hv h2
        rcases h.1 with h3 | h3
        · exact Or.inr (Or.inr (Or.inl ⟨h3, a, r, e, e2, h.2 r e3⟩))
        · exact Or.inr (Or.inr (Or.inr (Or.inl ⟨h3, Or.inr ⟨a, r, e, e2, h.2 r e3⟩⟩)))
      · rw [if_neg h2] at h
        by_cases h3 : t.1 = 3
        · rw [if_pos h3] at h
          simp only [Bool.and_eq_true, decide_eq_true_eq, List.all_eq_true, List.contains_iff_mem] at h
          rcases tv_nref hv h3 with e | ⟨a, r, e, e2, e3⟩
          · exact Or.inr (Or.inr (Or.inr (Or.inl ⟨h.1, Or.inl e⟩)))
          · exact Or.inr (Or.inr (Or.inr (Or.inl ⟨h.1, Or.inr ⟨a, r, e, e2, h.2 r e3⟩⟩)))
        · rw [if_neg h3] at h
          simp only [Bool.and_eq_true, decide_eq_true_eq] at h
          obtain ⟨x, e, a, b, q, hq⟩ := tv_div hv h.1.1.1.1
          exact Or.inr (Or.inr (Or.inr (Or.inr (Or.inl ⟨h.1.1.1.2, x, e, by omega, by omega, q, by rw [← h.2]; exact hq⟩))))
theorem tv_mono {ta tb : Nat → Option Nat} {t : tv_T} {v : Value} (h : ta_le ta tb) (hv : tv_ok ta t v) : tv_ok tb t v := by
  rcases hv with hv | hv | ⟨k, a, r, e, e2, e3⟩ | ⟨k, e | ⟨a, r, e, e2, e3⟩⟩ | hv | hv
  · exact Or.inl hv
  · exact Or.inr (Or.inl hv)
  · exact Or.inr (Or.inr (Or.inl ⟨k, a, r, e, h a r e2, e3⟩))
  · exact Or.inr (Or.inr (Or.inr (Or.inl ⟨k, Or.inl e⟩)))
  · exact Or.inr (Or.inr (Or.inr (Or.inl ⟨k, Or.inr ⟨a, r, e, h a r e2, e3⟩⟩)))
  · exact Or.inr (Or.inr (Or.inr (Or.inr (Or.inl hv))))
  · exact Or.inr (Or.inr (Or.inr (Or.inr (Or.inr hv))))
theorem pl_tv {ta : Nat → Option Nat} {t : tv_T} {x : Int32} (h : pl_k t x.toInt) : tv_ok ta t (.int x) := by
  unfold pl_k at h
  split at h
  · rename_i h0; exact Or.inl ⟨h0, x, rfl, h.1, h.2⟩
  · split at h
    · rename_i h8; exact Or.inr (Or.inr (Or.inr (Or.inr (Or.inr ⟨h8, x, rfl, h⟩))))
    · exact h.elim
theorem tv_pl {ta : Nat → Option Nat} {t : tv_T} {x : Int32} (h : tv_ok ta t (.int x)) (hk : t.1 = 0 ∨ t.1 = 8) : pl_k t x.toInt := by
  unfold pl_k
  rcases hk with hk | hk
  · rw [if_pos hk]
    obtain ⟨x_zq, e, a, b⟩ := tv_int h hk
    cases e; exact ⟨a, b⟩
  · rw [if_neg (by omega), if_pos hk]
    rcases h with h | h | h | h | h | ⟨_, x_zq, e, h⟩
    · omega
    · omega
    · omega
    · omega
    · omega
    · cases e; exact h
/-! regions: (kind, least length, most length, what an element is, what each field is); kinds 0 to 3: arrays of ints, bytes, booleans, longs; 4 to 9: of references; 10 + c: objects of class c; an array of ints whose fields are not none: what an element is, by its place modulo their number -/
abbrev rg_T : Type := Nat × Nat × Nat × tv_T × List tv_T
def rg_ok (kA : Nat → ClassId) (ta : Nat → Option Nat) (g : rg_T) (e : va_E) : Prop :=
  (g.1 < 3 ∧ ∃ (n : Nat) (f : Nat → Int32), e = .inl (kA g.1, n, .inl f) ∧ g.2.1 ≤ n ∧ n ≤ g.2.2.1 ∧ g.2.2.2.1.1 = 0 ∧ (∀ j, j < n → tv_ok ta g.2.2.2.1 (.int (f j))) ∧ ∀ (j : Nat) (t : tv_T), j < n → g.2.2.2.2[j % g.2.2.2.2.length]? = some t → tv_ok ta t (.int (f j))) ∨
  (g.1 = 3 ∧ ∃ (n : Nat) (f : Nat → Int64), e = .inl (kA 3, n, .inr (.inl f)) ∧ g.2.1 ≤ n ∧ n ≤ g.2.2.1 ∧ g.2.2.2.1.1 = 1 ∧ ∀ j, j < n → tv_ok ta g.2.2.2.1 (.long (f j))) ∨
  (4 ≤ g.1 ∧ g.1 < 10 ∧ ∃ (n : Nat) (f : Nat → Option Nat), e = .inl (kA g.1, n, .inr (.inr (.inr (.inr f)))) ∧ g.2.1 ≤ n ∧ n ≤ g.2.2.1 ∧ ∀ j, j < n → tv_ok ta g.2.2.2.1 (va_rf (f j))) ∨
  (10 ≤ g.1 ∧ ∃ fs : List Value, e = .inr (g.1 - 10, fs) ∧ fs.length = g.2.2.2.2.length ∧ ∀ (j : Nat) (t : tv_T) (v : Value), g.2.2.2.2[j]? = some t → fs[j]? = some v → tv_ok ta t v)
theorem rg_mono {kA : Nat → ClassId} {ta tb : Nat → Option Nat} {g : rg_T} {e : va_E} (h : ta_le ta tb) (hg : rg_ok kA ta g e) : rg_ok kA tb g e := by
  rcases hg with ⟨k, n, f, e1, a, b, q, c, d⟩ | ⟨k, n, f, e1, a, b, q, c⟩ | ⟨k, k2, n, f, e1, a, b, c⟩ | ⟨k, fs, e1, a, c⟩
  · exact Or.inl ⟨k, n, f, e1, a, b, q, fun j hj => tv_mono h (c j hj), fun j t hj ht => tv_mono h (d j t hj ht)⟩
  · exact Or.inr (Or.inl ⟨k, n, f, e1, a, b, q, fun j hj => tv_mono h (c j hj)⟩)
  · exact Or.inr (Or.inr (Or.inl ⟨k, k2, n, f, e1, a, b, fun j hj => tv_mono h (c j hj)⟩))
  · exact Or.inr (Or.inr (Or.inr ⟨k, fs, e1, a, fun j t v h1 h2 => tv_mono h (c j t v h1 h2)⟩))
/-- the world is as the regions say -/
def th_ro (kA : Nat → ClassId) (G : List rg_T) (ws : va_W) (a r : Nat) : Prop := G[r]? = none ∧ ro_id r = true ∧ a = kA r ∧ ∀ e, (a, e) ∉ ws
def th_ok (kA : Nat → ClassId) (G : List rg_T) (ta : Nat → Option Nat) (ws : va_W) : Prop := (∀ a r, ta a = some r → (∃ g e, G[r]? = some g ∧ (a, e) ∈ ws ∧ rg_ok kA ta g e) ∨ th_ro kA G ws a r) ∧ ∀ r, ro_id r = true → ∃ r_zq, ro_id r_zq = true ∧ ta (kA r) = some r_zq ∧ (r < 5500 → r_zq = r)
theorem th_in {kA : Nat → ClassId} {G : List rg_T} {ta : Nat → Option Nat} {ws : va_W} (h : th_ok kA G ta ws) {a r : Nat} (ha : ta a = some r) {g : rg_T} (hg : G[r]? = some g) : ∃ e, (a, e) ∈ ws ∧ rg_ok kA ta g e := by
  rcases h.1 a r ha with ⟨g_zq, e, h1, h2, h3⟩ | h
  · rw [hg] at h1
    obtain rfl := Option.some.inj h1
    exact ⟨e, h2, h3⟩
  · rw [h.1] at hg; cases hg
/-- a cell of the world is set anew -/
theorem th_set {kA : Nat → ClassId} {G : List rg_T} {ta : Nat → Option Nat} {ws : va_W} {A : Nat → Prop} (hD : va_D A ws) (h : th_ok kA G ta ws) {q0 a : Nat} {e0 e1 : va_E} (hq : ws[q0]? = some (a, e0)) {r : Nat} {g : rg_T} (hr : ta a = some r) (hg : G[r]? = some g) (he : rg_ok kA ta g e1) : th_ok kA G ta (ws.set q0 (a, e1)) := by
  have hlt := (List.getElem?_eq_some_iff.mp hq).1
  refine ⟨fun a_zq r_zq hr_zq => ?_, h.2⟩
  by_cases ha : a_zq = a
  · subst ha
    rw [hr] at hr_zq
    obtain rfl := Option.some.inj hr_zq
    exact Or.inl ⟨g, e1, hg, List.mem_iff_getElem?.mpr ⟨q0, by rw [List.getElem?_set_self hlt]⟩, he⟩
  · rcases h.1 a_zq r_zq hr_zq with ⟨g_zq, e_zq, hg_zq, hm, ho⟩ | ⟨z1, z2, z3, z4⟩
    · obtain ⟨i, hi⟩ := List.mem_iff_getElem?.mp hm
      refine Or.inl ⟨g_zq, e_zq, hg_zq, List.mem_iff_getElem?.mpr ⟨i, ?_⟩, ho⟩
      rw [List.getElem?_set_ne (fun e => by subst e; rw [hq] at hi; exact ha (Prod.mk.inj (Option.some.inj hi)).1.symm)]
      exact hi
    · refine Or.inr ⟨z1, z2, z3, fun e he_zq => ?_⟩
      rcases List.mem_or_eq_of_mem_set he_zq with q | q
      · exact z4 e q
      · exact ha (Prod.mk.inj q).1
/-- a new cell -/
theorem th_new {kA : Nat → ClassId} {G : List rg_T} {ta : Nat → Option Nat} {ws : va_W} (h : th_ok kA G ta ws) {a : Nat} {e1 : va_E} (hn : ta a = none) {r : Nat} {g : rg_T} (hg : G[r]? = some g) (he : rg_ok kA (fun q => if q = a then some r else ta q) g e1) : ta_le ta (fun q => if q = a then some r else ta q) ∧ th_ok kA G (fun q => if q = a then some r else ta q) (ws ++ [(a, e1)]) := by
  have hle : ta_le ta (fun q => if q = a then some r else ta q) := fun q r_zq hq => by
    show (if q = a then some r else ta q) = some r_zq
    by_cases e : q = a
    · subst e; rw [hn] at hq; cases hq
    · rw [if_neg e]; exact hq
  refine ⟨hle, fun a_zq r_zq hr_zq => ?_, fun q hq => by obtain ⟨q2, z1, z2, z3⟩ := h.2 q hq; exact ⟨q2, z1, hle _ _ z2, z3⟩⟩
  have hr2 : (if a_zq = a then some r else ta a_zq) = some r_zq := hr_zq
  by_cases e : a_zq = a
  · subst e
    rw [if_pos rfl] at hr2
    obtain rfl := Option.some.inj hr2
    exact Or.inl ⟨g, e1, hg, List.mem_append_right _ (List.mem_singleton.mpr rfl), he⟩
  · rw [if_neg e] at hr2
    rcases h.1 a_zq r_zq hr2 with ⟨g_zq, e_zq, hg_zq, hm, ho⟩ | ⟨z1, z2, z3, z4⟩
    · exact Or.inl ⟨g_zq, e_zq, hg_zq, List.mem_append_left _ hm, rg_mono hle ho⟩
    · refine Or.inr ⟨z1, z2, z3, fun e2 he2 => ?_⟩
      rcases List.mem_append.mp he2 with q | q
      · exact z4 e2 q
      · exact e (Prod.mk.inj (List.mem_singleton.mp q)).1
/-! the picture of a frame: (kinds of the names, locals by names, stack of names, fields whose values have names, how far names lie apart, which names a number divides) -/
abbrev of_T : Type := Nat × Nat × Int × Int
abbrev sy_T : Type := List tv_T × List (Nat × Nat) × List Nat × List ((Nat × Nat) × Nat) × List of_T × List (Nat × Nat)
def sy_mem (vs : List Value) (ws : va_W) (q : (Nat × Nat) × Nat) : Prop := ∃ (a ci : Nat) (fs : List Value) (v : Value), vs[q.1.1]? = some (.ref a) ∧ (a, .inr (ci, fs)) ∈ ws ∧ fs[q.1.2]? = some v ∧ vs[q.2]? = some v
def sy_ofs (vs : List Value) (q : of_T) : Prop := ∃ x y : Int32, vs[q.1]? = some (.int x) ∧ vs[q.2.1]? = some (.int y) ∧ y.toInt + q.2.2.1 ≤ x.toInt ∧ x.toInt ≤ y.toInt + q.2.2.2
def sy_dv (vs : List Value) (q : Nat × Nat) : Prop := ∃ (x : Int32) (k : Int), vs[q.1]? = some (.int x) ∧ x.toInt = (q.2 : Nat) * k
def sy_loc (vs : List Value) (ls : Array Slot) (q : Nat × Nat) : Prop := ∃ v, vs[q.2]? = some v ∧ ls[q.1]? = some (.val v)
def sy_st (vs : List Value) : List Nat → List Value → Prop
  | [], [] => True
  | i :: r, v :: t => vs[i]? = some v ∧ sy_st vs r t
  | _, _ => False
def sy_env (ta : Nat → Option Nat) (env : List tv_T) (vs : List Value) : Prop := vs.length = env.length ∧ ∀ (i : Nat) (t : tv_T) (v : Value), env[i]? = some t → vs[i]? = some v → tv_ok ta t v
def sy_ok (ta : Nat → Option Nat) (ws : va_W) (vs : List Value) (ls : Array Slot) (nL : Nat) (st : List Value) (y : sy_T) : Prop :=
  sy_env ta y.1 vs ∧ (ls.size = nL ∧ lv_wf ls ∧ ∀ q ∈ y.2.1, sy_loc vs ls q) ∧ sy_st vs y.2.2.1 st ∧ (∀ q ∈ y.2.2.2.1, sy_mem vs ws q) ∧ (∀ q ∈ y.2.2.2.2.1, sy_ofs vs q) ∧ ∀ q ∈ y.2.2.2.2.2, sy_dv vs q
theorem sy_app {vs : List Value} {w : Value} {i : Nat} {v : Value} (h : vs[i]? = some v) : (vs ++ [w])[i]? = some v := by
  rw [List.getElem?_append_left (List.getElem?_eq_some_iff.mp h).1]; exact h
theorem sy_st_app {vs : List Value} {w : Value} : ∀ {is : List Nat} {st : List Value}, sy_st vs is st → sy_st (vs ++ [w]) is st
  | [], [], _ => trivial
  | _ :: _, _ :: _, h => ⟨sy_app h.1, sy_st_app h.2⟩
  | [], _ :: _, h => h.elim
  | _ :: _, [], h => h.elim
theorem sy_env_app {ta : Nat → Option Nat} {env : List tv_T} {vs : List Value} {t : tv_T} {v : Value} (h : sy_env ta env vs) (hv : tv_ok ta t v) : sy_env ta (env ++ [t]) (vs ++ [v]) := by
  refine ⟨by rw [List.length_append, List.length_append, h.1]; rfl, fun i t_zq v_zq h1 h2 => ?_⟩
  by_cases hi : i < env.length
  · rw [List.getElem?_append_left hi] at h1
    rw [List.getElem?_append_left (by rw [h.1]; exact hi)] at h2
    exact h.2 i t_zq v_zq h1 h2
  · have hb := (List.getElem?_eq_some_iff.mp h1).1
    rw [List.length_append] at hb
    have hb2 : i < env.length + 1 := hb
    have e : i = env.length := by omega
    subst e
    rw [List.getElem?_append_right (Nat.le_refl _), Nat.sub_self] at h1
    have hlen : vs.length = env.length := h.1
    rw [List.getElem?_append_right (by omega), show env.length - vs.length = 0 by omega] at h2
    have e1 : t = t_zq := Option.some.inj h1
    have e2 : v = v_zq := Option.some.inj h2
    rw [← e1, ← e2]; exact hv
/-- a new name -/
def sy_push (y : sy_T) (t : tv_T) (st : List Nat) : sy_T := (y.1 ++ [t], y.2.1, y.1.length :: st, y.2.2.2.1, y.2.2.2.2)
theorem sy_pushed {ta : Nat → Option Nat} {ws : va_W} {vs : List Value} {ls : Array Slot} {nL : Nat} {st st_zq : List Value} {y : sy_T} {is : List Nat} {t : tv_T} {v : Value} (h : sy_ok ta ws vs ls nL st y) (hs : sy_st vs is st_zq) (hv : tv_ok ta t v) : sy_ok ta ws (vs ++ [v]) ls nL (v :: st_zq) (sy_push y t is) := by
  obtain ⟨he, ⟨hl1, hl2, hl3⟩, _, hm, ho, hd⟩ := h
  refine ⟨sy_env_app he hv, ⟨hl1, hl2, fun q hq => ?_⟩, ⟨?_, sy_st_app hs⟩, fun q hq => ?_, fun q hq => ?_, fun q hq => ?_⟩
  · obtain ⟨w, h1, h2⟩ := hl3 q hq; exact ⟨w, sy_app h1, h2⟩
  · rw [← he.1, List.getElem?_append_right (Nat.le_refl _), Nat.sub_self]; rfl
  · obtain ⟨a, ci, fs, w, h1, h2, h3, h4⟩ := hm q hq; exact ⟨a, ci, fs, w, sy_app h1, h2, h3, sy_app h4⟩
  · obtain ⟨x, z, h1, h2, h3⟩ := ho q hq; exact ⟨x, z, sy_app h1, sy_app h2, h3⟩
  · obtain ⟨x, z, h1, h2⟩ := hd q hq; exact ⟨x, z, sy_app h1, h2⟩
/-- another stack over the same names -/
theorem sy_stack {ta : Nat → Option Nat} {ws : va_W} {vs : List Value} {ls : Array Slot} {nL : Nat} {st st_zq : List Value} {y : sy_T} {is : List Nat} (h : sy_ok ta ws vs ls nL st y) (hs : sy_st vs is st_zq) : sy_ok ta ws vs ls nL st_zq (y.1, y.2.1, is, y.2.2.2.1, y.2.2.2.2) := ⟨h.1, h.2.1, hs, h.2.2.2⟩
theorem sy_name {ta : Nat → Option Nat} {env : List tv_T} {vs : List Value} (h : sy_env ta env vs) {i : Nat} {v : Value} (hv : vs[i]? = some v) : ∃ t, env[i]? = some t ∧ tv_ok ta t v := by
  have hi := (List.getElem?_eq_some_iff.mp hv).1
  rw [h.1] at hi
  exact ⟨env[i], List.getElem?_eq_getElem hi, h.2 i _ v (List.getElem?_eq_getElem hi) hv⟩
end
section
/-! intervals -/
def iv_top : tv_T := (0, -2147483648, 2147483647, [])
def lv_top : tv_T := (1, -9223372036854775808, 9223372036854775807, [])
theorem iv_any {ta : Nat → Option Nat} (x : Int32) : tv_ok ta iv_top (.int x) := Or.inl ⟨rfl, x, rfl, by have := x.le_toInt; show (-2147483648 : Int) ≤ x.toInt; omega, by have := x.toInt_lt; show x.toInt ≤ 2147483647; omega⟩
theorem lv_any {ta : Nat → Option Nat} (x : Int64) : tv_ok ta lv_top (.long x) := Or.inr (Or.inl ⟨rfl, x, rfl, by have := x.le_toInt; show (-9223372036854775808 : Int) ≤ x.toInt; omega, by have := x.toInt_lt; show x.toInt ≤ 9223372036854775807; omega⟩)
def iv_mk (lo hi : Int) : tv_T := if decide (-2147483648 ≤ lo) && decide (hi ≤ 2147483647) then (0, lo, hi, []) else iv_top
def lv_mk (lo hi : Int) : tv_T := if decide (-9223372036854775808 ≤ lo) && decide (hi ≤ 9223372036854775807) then (1, lo, hi, []) else lv_top
theorem iv_bm {z lo hi : Int} (h1 : lo ≤ z) (h2 : z ≤ hi) (a : -2147483648 ≤ lo) (b : hi ≤ 2147483647) : z.bmod (2 ^ 32) = z := Int.bmod_eq_of_le_mul_two (by show -(4294967296 : Int) ≤ z * 2; omega) (by show z * 2 < (4294967296 : Int); omega)
theorem lv_bm {z lo hi : Int} (h1 : lo ≤ z) (h2 : z ≤ hi) (a : -9223372036854775808 ≤ lo) (b : hi ≤ 9223372036854775807) : z.bmod (2 ^ 64) = z := Int.bmod_eq_of_le_mul_two (by show -(18446744073709551616 : Int) ≤ z * 2; omega) (by show z * 2 < (18446744073709551616 : Int); omega)
theorem iv_mk_ok {ta : Nat → Option Nat} {x : Int32} {z lo hi : Int} (e : x.toInt = z.bmod (2 ^ 32)) (h1 : lo ≤ z) (h2 : z ≤ hi) : tv_ok ta (iv_mk lo hi) (.int x) := by
  unfold iv_mk
  by_cases h : (decide (-2147483648 ≤ lo) && decide (hi ≤ 2147483647)) = true
  · rw [if_pos h]
    simp only [Bool.and_eq_true, decide_eq_true_eq] at h
    rw [iv_bm h1 h2 h.1 h.2] at e
    exact Or.inl ⟨rfl, x, rfl, by show lo ≤ x.toInt; omega, by show x.toInt ≤ hi; omega⟩
  · rw [if_neg h]; exact iv_any x
theorem lv_mk_ok {ta : Nat → Option Nat} {x : Int64} {z lo hi : Int} (e : x.toInt = z.bmod (2 ^ 64)) (h1 : lo ≤ z) (h2 : z ≤ hi) : tv_ok ta (lv_mk lo hi) (.long x) := by
  unfold lv_mk
  by_cases h : (decide (-9223372036854775808 ≤ lo) && decide (hi ≤ 9223372036854775807)) = true
  · rw [if_pos h]
    simp only [Bool.and_eq_true, decide_eq_true_eq] at h
    rw [lv_bm h1 h2 h.1 h.2] at e
    exact Or.inr (Or.inl ⟨rfl, x, rfl, by show lo ≤ x.toInt; omega, by show x.toInt ≤ hi; omega⟩)
  · rw [if_neg h]; exact lv_any x
def mn2 (a b : Int) : Int := if a ≤ b then a else b
def mx2 (a b : Int) : Int := if a ≤ b then b else a
theorem mn2_l (a b : Int) : mn2 a b ≤ a := by unfold mn2; split <;> omega
theorem mn2_r (a b : Int) : mn2 a b ≤ b := by unfold mn2; split <;> omega
theorem mx2_l (a b : Int) : a ≤ mx2 a b := by unfold mx2; split <;> omega
theorem mx2_r (a b : Int) : b ≤ mx2 a b := by unfold mx2; split <;> omega
theorem mul_lo {a b x y : Int} (h1 : a ≤ x) (h2 : x ≤ b) : mn2 (a * y) (b * y) ≤ x * y ∧ x * y ≤ mx2 (a * y) (b * y) := by
  rcases Int.le_total 0 y with hy | hy
  · have e1 := Int.mul_le_mul_of_nonneg_right h1 hy
    have e2 := Int.mul_le_mul_of_nonneg_right h2 hy
    exact ⟨Int.le_trans (mn2_l _ _) e1, Int.le_trans e2 (mx2_r _ _)⟩
  · have e1 := Int.mul_le_mul_of_nonpos_right h1 hy
    have e2 := Int.mul_le_mul_of_nonpos_right h2 hy
    exact ⟨Int.le_trans (mn2_r _ _) e2, Int.le_trans e1 (mx2_l _ _)⟩
theorem mul_iv {a b x c d y : Int} (h1 : a ≤ x) (h2 : x ≤ b) (h3 : c ≤ y) (h4 : y ≤ d) : mn2 (mn2 (a * c) (a * d)) (mn2 (b * c) (b * d)) ≤ x * y ∧ x * y ≤ mx2 (mx2 (a * c) (a * d)) (mx2 (b * c) (b * d)) := by
  have e := mul_lo (y := y) h1 h2
  have f1 := mul_lo (y := a) h3 h4
  have f2 := mul_lo (y := b) h3 h4
  rw [Int.mul_comm c a, Int.mul_comm d a, Int.mul_comm y a] at f1
  rw [Int.mul_comm c b, Int.mul_comm d b, Int.mul_comm y b] at f2
  refine ⟨Int.le_trans ?_ e.1, Int.le_trans e.2 ?_⟩
  · generalize a * y = p at *
    generalize b * y = q at *
    have g1 := mn2_l (mn2 (a * c) (a * d)) (mn2 (b * c) (b * d))
    have g2 := mn2_r (mn2 (a * c) (a * d)) (mn2 (b * c) (b * d))
    unfold mn2 at *
    split <;> omega
  · generalize a * y = p at *
    generalize b * y = q at *
    have g1 := mx2_l (mx2 (a * c) (a * d)) (mx2 (b * c) (b * d))
    have g2 := mx2_r (mx2 (a * c) (a * d)) (mx2 (b * c) (b * d))
    have h5 := f1.2
    have h6 := f2.2
    generalize mx2 (a * c) (a * d) = P at *
    generalize mx2 (b * c) (b * d) = Q at *
    generalize mx2 P Q = Z at *
    unfold mx2
    split <;> omega
theorem nn_nat {x : Int32} (h : 0 ≤ x.toInt) : x.toBitVec.toNat = x.toInt.toNat ∧ x.toBitVec.toNat < 2147483648 := by
  have e : x.toInt = x.toBitVec.toInt := rfl
  rw [e] at h ⊢
  rw [BitVec.toInt_eq_toNat_cond] at h ⊢
  have hb := x.toBitVec.isLt
  split at h
  · rename_i q
    rw [if_pos q]
    exact ⟨by omega, by omega⟩
  · exact absurd h (by omega)
theorem nat_nn {x : Int32} (h : x.toBitVec.toNat < 2147483648) : x.toInt = x.toBitVec.toNat := by
  have e : x.toInt = x.toBitVec.toInt := rfl
  rw [e, BitVec.toInt_eq_toNat_cond, if_pos (by omega)]
def iv_and (t u : tv_T) : tv_T := if 0 ≤ u.2.1 then (if 0 ≤ t.2.1 then (0, 0, mn2 t.2.2.1 u.2.2.1, []) else (0, 0, u.2.2.1, [])) else if 0 ≤ t.2.1 then (0, 0, t.2.2.1, []) else iv_top
theorem and_r {x y : Int32} (h : 0 ≤ y.toInt) : 0 ≤ (x &&& y).toInt ∧ (x &&& y).toInt ≤ y.toInt := by
  obtain ⟨e, b⟩ := nn_nat h
  have e2 : (x &&& y).toBitVec.toNat = x.toBitVec.toNat &&& y.toBitVec.toNat := by rw [Int32.toBitVec_and, BitVec.toNat_and]
  have e3 : (x &&& y).toBitVec.toNat ≤ y.toBitVec.toNat := by rw [e2]; exact Nat.and_le_right
  rw [nat_nn (x := x &&& y) (by omega)]
  omega
theorem and_l {x y : Int32} (h : 0 ≤ x.toInt) : 0 ≤ (x &&& y).toInt ∧ (x &&& y).toInt ≤ x.toInt := by
  obtain ⟨e, b⟩ := nn_nat h
  have e2 : (x &&& y).toBitVec.toNat = x.toBitVec.toNat &&& y.toBitVec.toNat := by rw [Int32.toBitVec_and, BitVec.toNat_and]
  have e3 : (x &&& y).toBitVec.toNat ≤ x.toBitVec.toNat := by rw [e2]; exact Nat.and_le_left
  rw [nat_nn (x := x &&& y) (by omega)]
  omega
theorem iv_and_ok {ta : Nat → Option Nat} {t u : tv_T} {x y : Int32} (h1 : t.2.1 ≤ x.toInt) (h2 : x.toInt ≤ t.2.2.1) (h3 : u.2.1 ≤ y.toInt) (h4 : y.toInt ≤ u.2.2.1) : tv_ok ta (iv_and t u) (.int (x &&& y)) := by
  unfold iv_and
  split
  · rename_i hu
    have a := and_r (x := x) (y := y) (by omega)
    split
    · rename_i hq
      have b := and_l (x := x) (y := y) (by omega)
      refine Or.inl ⟨rfl, _, rfl, a.1, ?_⟩
      show (x &&& y).toInt ≤ mn2 t.2.2.1 u.2.2.1
      unfold mn2
      split <;> omega
    · exact Or.inl ⟨rfl, _, rfl, a.1, by show (x &&& y).toInt ≤ u.2.2.1; omega⟩
  · split
    · have b := and_l (x := x) (y := y) (by omega)
      exact Or.inl ⟨rfl, _, rfl, b.1, by show (x &&& y).toInt ≤ t.2.2.1; omega⟩
    · exact iv_any _
def pw2 (n : Int) : Int := ((2 ^ (n.toNat.log2 + 1) : Nat) : Int) - 1
theorem pw2_lt {n : Int} {k : Nat} (h : (k : Int) ≤ n) : k < 2 ^ (n.toNat.log2 + 1) := by
  have h2 : n.toNat < 2 ^ (n.toNat.log2 + 1) := Nat.lt_log2_self
  omega
def iv_or (t u : tv_T) : tv_T := if decide (0 ≤ t.2.1) && decide (0 ≤ u.2.1) && decide (pw2 (mx2 t.2.2.1 u.2.2.1) ≤ 2147483647) then (0, 0, pw2 (mx2 t.2.2.1 u.2.2.1), []) else iv_top
theorem iv_or_ok {ta : Nat → Option Nat} {t u : tv_T} {x y : Int32} (z : Int32) (hz : z.toBitVec.toNat = x.toBitVec.toNat ||| y.toBitVec.toNat ∨ z.toBitVec.toNat = x.toBitVec.toNat ^^^ y.toBitVec.toNat) (h1 : t.2.1 ≤ x.toInt) (h2 : x.toInt ≤ t.2.2.1) (h3 : u.2.1 ≤ y.toInt) (h4 : y.toInt ≤ u.2.2.1) : tv_ok ta (iv_or t u) (.int z) := by
  unfold iv_or
  split
  · rename_i h
    simp only [Bool.and_eq_true, decide_eq_true_eq] at h
    obtain ⟨⟨a, b⟩, q⟩ := h
    obtain ⟨e1, _⟩ := nn_nat (x := x) (by omega)
    obtain ⟨e2, _⟩ := nn_nat (x := y) (by omega)
    have m1 := mx2_l t.2.2.1 u.2.2.1
    have m2 := mx2_r t.2.2.1 u.2.2.1
    generalize mx2 t.2.2.1 u.2.2.1 = M at *
    have p1 : x.toBitVec.toNat < 2 ^ (M.toNat.log2 + 1) := pw2_lt (by omega)
    have p2 : y.toBitVec.toNat < 2 ^ (M.toNat.log2 + 1) := pw2_lt (by omega)
    have p3 : z.toBitVec.toNat < 2 ^ (M.toNat.log2 + 1) := by
      rcases hz with hz | hz
      · rw [hz]; exact Nat.or_lt_two_pow p1 p2
      · rw [hz]; exact Nat.xor_lt_two_pow p1 p2
    unfold pw2 at q ⊢
    generalize 2 ^ (M.toNat.log2 + 1) = B at *
    have e3 := nat_nn (x := z) (by omega)
    exact Or.inl ⟨rfl, _, rfl, by show (0 : Int) ≤ z.toInt; omega, by show z.toInt ≤ (B : Int) - 1; omega⟩
  · exact iv_any _
end
section
/-- constants that an instruction pushes -/
def pk_c (i : ClassFile.Instr) (len : Nat) : Option (Value × tv_T) := match i, len with
  | .iconst n, 1 => some (.int (Int32.ofInt n), (0, (Int32.ofInt n).toInt, (Int32.ofInt n).toInt, []))
  | .bipush n, 2 => some (.int (Int8.ofInt n).toInt32, (0, (Int8.ofInt n).toInt32.toInt, (Int8.ofInt n).toInt32.toInt, []))
  | .sipush n, 3 => some (.int (Int16.ofInt n).toInt32, (0, (Int16.ofInt n).toInt32.toInt, (Int16.ofInt n).toInt32.toInt, []))
  | .lconst n, 1 => some (.long (Int64.ofNat (n : Nat)), (1, (Int64.ofNat (n : Nat)).toInt, (Int64.ofNat (n : Nat)).toInt, []))
  | .aconst_null, 1 => some (.null, (3, 0, 0, []))
  | _, _ => none
theorem pk_ty {ta : Nat → Option Nat} {i : ClassFile.Instr} {len : Nat} {v : Value} {t : tv_T} (h : pk_c i len = some (v, t)) : tv_ok ta t v := by
  unfold pk_c at h
  split at h <;> first | (cases h; exact Or.inl ⟨rfl, _, rfl, Int.le_refl _, Int.le_refl _⟩) | (cases h; exact Or.inr (Or.inl ⟨rfl, _, rfl, Int.le_refl _, Int.le_refl _⟩)) | (cases h; exact Or.inr (Or.inr (Or.inr (Or.inl ⟨rfl, Or.inl rfl⟩)))) | cases h
/-- loads and stores: which slot, which kind -/
def ld_c (i : ClassFile.Instr) (len : Nat) : Option (Nat × Nat) := match i, len with
  | .iload_n k, 1 => some (k, 0)
  | .iload k, 2 => some (k, 0)
  | .lload_n k, 1 => some (k, 1)
  | .lload k, 2 => some (k, 1)
  | .aload_n k, 1 => some (k, 2)
  | .aload k, 2 => some (k, 2)
  | _, _ => none
def st_c (i : ClassFile.Instr) (len : Nat) : Option (Nat × Nat) := match i, len with
  | .istore_n k, 1 => some (k, 0)
  | .istore k, 2 => some (k, 0)
  | .lstore_n k, 1 => some (k, 1)
  | .lstore k, 2 => some (k, 1)
  | .astore_n k, 1 => some (k, 2)
  | .astore k, 2 => some (k, 2)
  | _, _ => none
/-- what is of a kind -/
def kd_ok (k : Nat) (v : Value) : Prop := (k = 0 ∧ ∃ x : Int32, v = .int x) ∨ (k = 1 ∧ ∃ x : Int64, v = .long x) ∨ (k = 2 ∧ ∃ x : Nat, v = .ref x)
theorem kd_of {ta : Nat → Option Nat} {t : tv_T} {v : Value} (h : tv_ok ta t v) (hk : t.1 < 3) : kd_ok t.1 v := by
  rcases h with ⟨a, x, e, _⟩ | ⟨a, x, e, _⟩ | ⟨a, x, _, e, _⟩ | ⟨a, _⟩ | ⟨a, _⟩ | ⟨a, _⟩
  · exact Or.inl ⟨a, x, e⟩
  · exact Or.inr (Or.inl ⟨a, x, e⟩)
  · exact Or.inr (Or.inr ⟨a, x, e⟩)
  · omega
  · omega
  · omega
/-- two ints to an int -/
def op_i (i : ClassFile.Instr) : Option ((Int32 → Int32 → Int32) × (tv_T → tv_T → tv_T)) := match i with
  | .iadd => some (fun x y => x + y, fun t u => iv_mk (t.2.1 + u.2.1) (t.2.2.1 + u.2.2.1))
  | .isub => some (fun x y => x - y, fun t u => iv_mk (t.2.1 - u.2.2.1) (t.2.2.1 - u.2.1))
  | .imul => some (fun x y => x * y, fun t u => iv_mk (mn2 (mn2 (t.2.1 * u.2.1) (t.2.1 * u.2.2.1)) (mn2 (t.2.2.1 * u.2.1) (t.2.2.1 * u.2.2.1))) (mx2 (mx2 (t.2.1 * u.2.1) (t.2.1 * u.2.2.1)) (mx2 (t.2.2.1 * u.2.1) (t.2.2.1 * u.2.2.1))))
  | .iand => some (fun x y => x &&& y, iv_and)
  | .ior => some (fun x y => x ||| y, iv_or)
  | .ixor => some (fun x y => x ^^^ y, iv_or)
  | .ishl => some (fun x y => x <<< (y &&& 31), fun _ _ => iv_top)
  | .ishr => some (fun x y => x >>> (y &&& 31), fun _ _ => iv_top)
  | .iushr => some (fun x y => (x.toUInt32 >>> (y.toUInt32 &&& Int32.toUInt32 31)).toInt32, fun _ _ => iv_top)
  | _ => none
theorem op_i_ty {ta : Nat → Option Nat} {i : ClassFile.Instr} {f : Int32 → Int32 → Int32} {g : tv_T → tv_T → tv_T} (h : op_i i = some (f, g)) {t u : tv_T} {x y : Int32} (h1 : t.2.1 ≤ x.toInt) (h2 : x.toInt ≤ t.2.2.1) (h3 : u.2.1 ≤ y.toInt) (h4 : y.toInt ≤ u.2.2.1) : tv_ok ta (g t u) (.int (f x y)) := by
  unfold op_i at h
  split at h
  · cases h; exact iv_mk_ok (Int32.toInt_add x y) (by omega) (by omega)
  · cases h; exact iv_mk_ok (Int32.toInt_sub x y) (by omega) (by omega)
  · cases h; exact iv_mk_ok (Int32.toInt_mul x y) (mul_iv h1 h2 h3 h4).1 (mul_iv h1 h2 h3 h4).2
  · cases h; exact iv_and_ok h1 h2 h3 h4
  · cases h; exact iv_or_ok _ (Or.inl (by rw [Int32.toBitVec_or, BitVec.toNat_or])) h1 h2 h3 h4
  · cases h; exact iv_or_ok _ (Or.inr (by rw [Int32.toBitVec_xor, BitVec.toNat_xor])) h1 h2 h3 h4
  · cases h; exact iv_any _
  · cases h; exact iv_any _
  · cases h; exact iv_any _
  · cases h
/-- two longs to a long -/
def op_l (i : ClassFile.Instr) : Option ((Int64 → Int64 → Int64) × (tv_T → tv_T → tv_T)) := match i with
  | .ladd => some (fun x y => x + y, fun t u => lv_mk (t.2.1 + u.2.1) (t.2.2.1 + u.2.2.1))
  | .lsub => some (fun x y => x - y, fun t u => lv_mk (t.2.1 - u.2.2.1) (t.2.2.1 - u.2.1))
  | .lmul => some (fun x y => x * y, fun t u => lv_mk (mn2 (mn2 (t.2.1 * u.2.1) (t.2.1 * u.2.2.1)) (mn2 (t.2.2.1 * u.2.1) (t.2.2.1 * u.2.2.1))) (mx2 (mx2 (t.2.1 * u.2.1) (t.2.1 * u.2.2.1)) (mx2 (t.2.2.1 * u.2.1) (t.2.2.1 * u.2.2.1))))
  | .land => some (fun x y => x &&& y, fun _ _ => lv_top)
  | .lor => some (fun x y => x ||| y, fun _ _ => lv_top)
  | .lxor => some (fun x y => x ^^^ y, fun _ _ => lv_top)
  | _ => none
theorem op_l_ty {ta : Nat → Option Nat} {i : ClassFile.Instr} {f : Int64 → Int64 → Int64} {g : tv_T → tv_T → tv_T} (h : op_l i = some (f, g)) {t u : tv_T} {x y : Int64} (h1 : t.2.1 ≤ x.toInt) (h2 : x.toInt ≤ t.2.2.1) (h3 : u.2.1 ≤ y.toInt) (h4 : y.toInt ≤ u.2.2.1) : tv_ok ta (g t u) (.long (f x y)) := by
  unfold op_l at h
  split at h
  · cases h; exact lv_mk_ok (Int64.toInt_add x y) (by omega) (by omega)
  · cases h; exact lv_mk_ok (Int64.toInt_sub x y) (by omega) (by omega)
  · cases h; exact lv_mk_ok (Int64.toInt_mul x y) (mul_iv h1 h2 h3 h4).1 (mul_iv h1 h2 h3 h4).2
  · cases h; exact lv_any _
  · cases h; exact lv_any _
  · cases h; exact lv_any _
  · cases h
section M3
variable {p : Program} {l : Launch} {e : Env} {R : Room} {s : State} {m : MethodId} {args : Array Value} {below : List Frame} {meth : Method} {c : Code} {H : Heap} {locs : List Loc} {cells slots : Nat} {Q : State → Prop} {cc : ByteArray} {pc : Nat} {ls : Array Slot} {rest : List Value} {i : ClassFile.Instr} {len : Nat}
theorem pk_go (hx : p.tables.exec = Jvm.exec) (hb : c.code = cc) (hd : decode cc pc = .ok (i, len)) {v : Value} {t : tv_T} (h : pk_c i len = some (v, t)) (k : W p l e R s m args below meth c H locs cells slots Q (F0 m (pc + len) ls (v :: rest))) : W p l e R s m args below meth c H locs cells slots Q (F0 m pc ls rest) := by
  unfold pk_c at h
  split at h
  · cases h; exact lv_iconst hx hb hd rfl k
  · cases h; exact lv_bipush hx hb hd rfl k
  · cases h; exact lv_sipush hx hb hd rfl k
  · cases h; exact lv_lconst hx hb hd rfl k
  · cases h; exact lv_null hx hb hd k
  · cases h
theorem ld_go (hx : p.tables.exec = Jvm.exec) (hb : c.code = cc) (hd : decode cc pc = .ok (i, len)) {j kd : Nat} (h : ld_c i len = some (j, kd)) {v : Value} (hl : ls[j]? = some (.val v)) (hv : kd_ok kd v) (k : W p l e R s m args below meth c H locs cells slots Q (F0 m (pc + len) ls (v :: rest))) : W p l e R s m args below meth c H locs cells slots Q (F0 m pc ls rest) := by
  have hv0 : kd = 0 → ∃ x : Int32, v = .int x := fun q => by subst q; rcases hv with h | h | h; exact h.2; exact absurd h.1 (by decide); exact absurd h.1 (by decide)
  have hv1 : kd = 1 → ∃ x : Int64, v = .long x := fun q => by subst q; rcases hv with h | h | h; exact absurd h.1 (by decide); exact h.2; exact absurd h.1 (by decide)
  have hv2 : kd = 2 → ∃ x : Nat, v = .ref x := fun q => by subst q; rcases hv with h | h | h; exact absurd h.1 (by decide); exact absurd h.1 (by decide); exact h.2
  unfold ld_c at h
  split at h
  · cases h; obtain ⟨x, rfl⟩ := hv0 rfl; exact lv_iload_n hx hb hd rfl hl k
  · cases h; obtain ⟨x, rfl⟩ := hv0 rfl; exact lv_iload hx hb hd hl k
  · cases h; obtain ⟨x, rfl⟩ := hv1 rfl; exact lv_lload_n hx hb hd rfl hl k
  · cases h; obtain ⟨x, rfl⟩ := hv1 rfl; exact lv_lload hx hb hd hl k
  · cases h; obtain ⟨x, rfl⟩ := hv2 rfl; exact lv_aload_n hx hb hd rfl hl k
  · cases h; obtain ⟨x, rfl⟩ := hv2 rfl; exact lv_aload hx hb hd hl k
  · cases h
def st_keep (j kd : Nat) (q : Nat × Value) : Bool := !(q.1 == j) && !(kd == 1 && q.1 == j + 1) && !(q.1 + 1 == j && q.2.category == 2)
theorem st_go (hx : p.tables.exec = Jvm.exec) (hb : c.code = cc) (hd : decode cc pc = .ok (i, len)) {j kd nL : Nat} (h : st_c i len = some (j, kd)) {v : Value} (hv : kd_ok kd v) {lv : List (Nat × Value)} (hl : lv_has ls nL lv) (hn : j + 1 < nL ∨ (kd ≠ 1 ∧ j < nL))
    (k : ∀ ls_zq : Array Slot, lv_has ls_zq nL ((j, v) :: lv.filter (st_keep j kd)) → W p l e R s m args below meth c H locs cells slots Q (F0 m (pc + len) ls_zq rest)) : W p l e R s m args below meth c H locs cells slots Q (F0 m pc ls (v :: rest)) := by
  have hv0 : kd = 0 → ∃ x : Int32, v = .int x := fun q => by subst q; rcases hv with h | h | h; exact h.2; exact absurd h.1 (by decide); exact absurd h.1 (by decide)
  have hv1 : kd = 1 → ∃ x : Int64, v = .long x := fun q => by subst q; rcases hv with h | h | h; exact absurd h.1 (by decide); exact h.2; exact absurd h.1 (by decide)
  have hv2 : kd = 2 → ∃ x : Nat, v = .ref x := fun q => by subst q; rcases hv with h | h | h; exact absurd h.1 (by decide); exact absurd h.1 (by decide); exact h.2
  have f1 : kd ≠ 1 → (fun q : Nat × Value => !(q.1 == j) && !(q.1 + 1 == j && q.2.category == 2)) = st_keep j kd := fun hk => by
    funext q
    have e : (kd == 1) = false := by simp [hk]
    simp [st_keep, e]
  have f2 : kd = 1 → (fun q : Nat × Value => !(q.1 == j) && (!(q.1 == j + 1) && !(q.1 + 1 == j && q.2.category == 2))) = st_keep j kd := fun hk => by
    funext q
    have e : (kd == 1) = true := by simp [hk]
    simp [st_keep, e, Bool.and_assoc]
  have hn1 : kd ≠ 1 → j < nL := fun hk => by rcases hn with h | h; omega; exact h.2
  have hn2 : kd = 1 → j + 1 < nL := fun hk => by rcases hn with h | h; exact h; exact absurd hk h.1
  unfold st_c at h
  split at h
  · cases h; obtain ⟨x, rfl⟩ := hv0 rfl; exact lv_istore_n hx hb hd rfl hl (hn1 (by decide)) (by rw [f1 (by decide)]) k
  · cases h; obtain ⟨x, rfl⟩ := hv0 rfl; exact lv_istore hx hb hd hl (hn1 (by decide)) (by rw [f1 (by decide)]) k
  · cases h; obtain ⟨x, rfl⟩ := hv1 rfl; exact lv_lstore_n hx hb hd rfl hl (hn2 rfl) (by rw [f2 rfl]) k
  · cases h; obtain ⟨x, rfl⟩ := hv1 rfl; exact lv_lstore hx hb hd hl (hn2 rfl) (by rw [f2 rfl]) k
  · cases h; obtain ⟨x, rfl⟩ := hv2 rfl; exact lv_astore_n hx hb hd rfl hl (hn1 (by decide)) (by rw [f1 (by decide)]) k
  · cases h; obtain ⟨x, rfl⟩ := hv2 rfl; exact lv_astore hx hb hd hl (hn1 (by decide)) (by rw [f1 (by decide)]) k
  · cases h
theorem op_i_go (hx : p.tables.exec = Jvm.exec) (hb : c.code = cc) (hd : decode cc pc = .ok (i, 1)) {f : Int32 → Int32 → Int32} {g : tv_T → tv_T → tv_T} (h : op_i i = some (f, g)) {x y : Int32} (k : W p l e R s m args below meth c H locs cells slots Q (F0 m (pc + 1) ls (.int (f x y) :: rest))) : W p l e R s m args below meth c H locs cells slots Q (F0 m pc ls (.int y :: .int x :: rest)) := by
  unfold op_i at h
  split at h
  · cases h; exact lv_iadd hx hb hd k
  · cases h; exact lv_isub hx hb hd k
  · cases h; exact lv_imul hx hb hd k
  · cases h; exact lv_iand hx hb hd k
  · cases h; exact lv_ior hx hb hd k
  · cases h; exact lv_ixor hx hb hd k
  · cases h; exact lv_ishl hx hb hd k
  · cases h; exact lv_ishr hx hb hd k
  · cases h; exact lv_iushr hx hb hd rfl k
  · cases h
theorem op_l_go (hx : p.tables.exec = Jvm.exec) (hb : c.code = cc) (hd : decode cc pc = .ok (i, 1)) {f : Int64 → Int64 → Int64} {g : tv_T → tv_T → tv_T} (h : op_l i = some (f, g)) {x y : Int64} (k : W p l e R s m args below meth c H locs cells slots Q (F0 m (pc + 1) ls (.long (f x y) :: rest))) : W p l e R s m args below meth c H locs cells slots Q (F0 m pc ls (.long y :: .long x :: rest)) := by
  unfold op_l at h
  split at h
  · cases h; exact lv_ladd hx hb hd k
  · cases h; exact lv_lsub hx hb hd k
  · cases h; exact lv_lmul hx hb hd k
  · cases h; exact lv_land hx hb hd k
  · cases h; exact lv_lor hx hb hd k
  · cases h; exact lv_lxor hx hb hd k
  · cases h
end M3
end
section
/-! straight instructions over the picture -/
def sy_find (loc : List (Nat × Nat)) (j : Nat) : Option Nat := (loc.find? (fun q => q.1 == j)).map (fun q => q.2)
theorem sy_find_ok {loc : List (Nat × Nat)} {j i : Nat} (h : sy_find loc j = some i) : (j, i) ∈ loc := by
  unfold sy_find at h
  cases hf : loc.find? (fun q => q.1 == j) with
  | none => rw [hf] at h; cases h
  | some q =>
    rw [hf] at h
    have e : q.2 = i := Option.some.inj h
    have h1 := List.mem_of_find?_eq_some hf
    have h2 := List.find?_some hf
    have h3 : q.1 = j := by simpa using h2
    rw [← e, ← h3]; exact h1
def sy_kd (env : List tv_T) (i : Nat) : Nat := match env[i]? with | some t => t.1 | none => 9
def tr_pk (i : ClassFile.Instr) (len : Nat) (y : sy_T) : Option sy_T := match pk_c i len with
  | some (_, t) => some (sy_push y t y.2.2.1)
  | none => none
def tr_ld (i : ClassFile.Instr) (len : Nat) (y : sy_T) : Option sy_T := match ld_c i len with
  | some (j, kd) => match sy_find y.2.1 j with
    | some n => if sy_kd y.1 n = kd ∧ kd < 3 then some (y.1, y.2.1, n :: y.2.2.1, y.2.2.2.1, y.2.2.2.2) else none
    | none => none
  | none => none
def sy_sto (y : sy_T) (j kd n : Nat) (st : List Nat) : sy_T := (y.1, (j, n) :: y.2.1.filter (fun q => !(q.1 == j) && !(kd == 1 && q.1 == j + 1) && !(q.1 + 1 == j && sy_kd y.1 q.2 == 1)), st, y.2.2.2.1, y.2.2.2.2)
def tr_st (nL : Nat) (i : ClassFile.Instr) (len : Nat) (y : sy_T) : Option sy_T := match st_c i len with
  | some (j, kd) => match y.2.2.1 with
    | n :: r => if sy_kd y.1 n = kd ∧ kd < 3 ∧ (j + 1 < nL ∨ (kd ≠ 1 ∧ j < nL)) then some (sy_sto y j kd n r) else none
    | [] => none
  | none => none
theorem sy_kd_ok {ta : Nat → Option Nat} {env : List tv_T} {vs : List Value} (h : sy_env ta env vs) {n kd : Nat} {v : Value} (hv : vs[n]? = some v) (hk : sy_kd env n = kd) : ∃ t, env[n]? = some t ∧ t.1 = kd ∧ tv_ok ta t v := by
  obtain ⟨t, h1, h2⟩ := sy_name h hv
  refine ⟨t, h1, ?_, h2⟩
  unfold sy_kd at hk
  rw [h1] at hk
  exact hk
def lv_of (vs : List Value) (loc : List (Nat × Nat)) : List (Nat × Value) := loc.filterMap (fun q => (vs[q.2]?).map (fun v => (q.1, v)))
theorem lv_of_mem {vs : List Value} {loc : List (Nat × Nat)} {j n : Nat} {v : Value} (h : (j, n) ∈ loc) (hv : vs[n]? = some v) : (j, v) ∈ lv_of vs loc := List.mem_filterMap.mpr ⟨(j, n), h, by rw [hv]; rfl⟩
theorem lv_of_has {vs : List Value} {ls : Array Slot} {nL : Nat} {loc : List (Nat × Nat)} (h : ls.size = nL ∧ lv_wf ls ∧ ∀ q ∈ loc, sy_loc vs ls q) : lv_has ls nL (lv_of vs loc) := by
  refine ⟨h.1, h.2.1, fun q hq => ?_⟩
  obtain ⟨z, hz, e⟩ := List.mem_filterMap.mp hq
  obtain ⟨v, h1, h2⟩ := h.2.2 z hz
  rw [h1] at e
  have e2 : (z.1, v) = q := Option.some.inj e
  rw [← e2]; exact h2
/-- behind a store -/
theorem sy_stored {ta : Nat → Option Nat} {ws : va_W} {vs : List Value} {ls ls_zq : Array Slot} {nL : Nat} {st st_zq : List Value} {y : sy_T} {j kd n : Nat} {v : Value} {is : List Nat} (h : sy_ok ta ws vs ls nL st y) (hv : vs[n]? = some v) (hs : sy_st vs is st_zq) (hl : lv_has ls_zq nL ((j, v) :: (lv_of vs y.2.1).filter (st_keep j kd))) : sy_ok ta ws vs ls_zq nL st_zq (sy_sto y j kd n is) := by
  obtain ⟨he, ⟨hl1, hl2, hl3⟩, _, hm, ho⟩ := h
  refine ⟨he, ⟨hl.1, hl.2.1, fun q hq => ?_⟩, hs, hm, ho⟩
  rcases List.mem_cons.mp hq with rfl | hq
  · exact ⟨v, hv, hl.2.2 (j, v) (List.mem_cons_self)⟩
  · obtain ⟨hq1, hq2⟩ := List.mem_filter.mp hq
    obtain ⟨w, h1, h2⟩ := hl3 q hq1
    refine ⟨w, h1, hl.2.2 (q.1, w) (List.mem_cons_of_mem _ (List.mem_filter.mpr ⟨lv_of_mem (n := q.2) hq1 h1, ?_⟩))⟩
    unfold st_keep
    simp only [Bool.and_eq_true, Bool.not_eq_true', Bool.and_eq_false_iff, beq_eq_false_iff_ne] at hq2 ⊢
    refine ⟨hq2.1, ?_⟩
    rcases hq2.2 with h3 | h3
    · exact Or.inl h3
    · refine Or.inr ?_
      obtain ⟨t, h4, h5⟩ := sy_name he h1
      have h6 : t.1 ≠ 1 := by
        unfold sy_kd at h3
        rw [h4] at h3
        exact h3
      rw [(tv_cat h5).2 h6]; decide
theorem pre_app {v0 vs : List Value} {v : Value} (h : v0 <+: vs) : v0 <+: vs ++ [v] := h.trans (List.prefix_append _ _)
section M4
variable {p : Program} {l : Launch} {e : Env} {R : Room} {s : State} {m : MethodId} {args : Array Value} {below : List Frame} {meth : Method} {c : Code} {H : Heap} {locs : List Loc} {cells slots : Nat} {Q : State → Prop} {cc : ByteArray} {pc : Nat} {i : ClassFile.Instr} {len nL : Nat} {v0 : List Value} {ta : Nat → Option Nat} {ws : va_W} {y y_zq : sy_T}
/-- whatever has this picture goes on well -/
def sy_go (p : Program) (l : Launch) (e : Env) (R : Room) (s : State) (m : MethodId) (args : Array Value) (below : List Frame) (meth : Method) (c : Code) (H : Heap) (locs : List Loc) (cells slots : Nat) (Q : State → Prop) (nL : Nat) (v0 : List Value) (ta : Nat → Option Nat) (ws : va_W) (pc : Nat) (y : sy_T) : Prop :=
  ∀ (vs : List Value) (ls : Array Slot) (st : List Value), v0 <+: vs → sy_ok ta ws vs ls nL st y → W p l e R s m args below meth c H locs cells slots Q (F0 m pc ls st)
theorem tr_pk_ok (hx : p.tables.exec = Jvm.exec) (hb : c.code = cc) (hd : decode cc pc = .ok (i, len)) (h : tr_pk i len y = some y_zq) (k : sy_go p l e R s m args below meth c H locs cells slots Q nL v0 ta ws (pc + len) y_zq) : sy_go p l e R s m args below meth c H locs cells slots Q nL v0 ta ws pc y := by
  intro vs ls st hp0 hy
  unfold tr_pk at h
  cases hc : pk_c i len with
  | none => rw [hc] at h; cases h
  | some q =>
    obtain ⟨v, t⟩ := q
    rw [hc] at h
    obtain rfl := Option.some.inj h
    exact pk_go hx hb hd hc (k _ _ _ (by first | exact hp0 | exact pre_app hp0) (sy_pushed hy hy.2.2.1 (pk_ty hc)))
theorem tr_ld_ok (hx : p.tables.exec = Jvm.exec) (hb : c.code = cc) (hd : decode cc pc = .ok (i, len)) (h : tr_ld i len y = some y_zq) (k : sy_go p l e R s m args below meth c H locs cells slots Q nL v0 ta ws (pc + len) y_zq) : sy_go p l e R s m args below meth c H locs cells slots Q nL v0 ta ws pc y := by
  intro vs ls st hp0 hy
  unfold tr_ld at h
  cases hc : ld_c i len with
  | none => rw [hc] at h; cases h
  | some q =>
    obtain ⟨j, kd⟩ := q
    rw [hc] at h
    simp only at h
    cases hf : sy_find y.2.1 j with
    | none => rw [hf] at h; cases h
    | some n =>
      rw [hf] at h
      simp only at h
      split at h
      · rename_i hk
        obtain rfl := Option.some.inj h
        obtain ⟨v, h1, h2⟩ := hy.2.1.2.2 (j, n) (sy_find_ok hf)
        obtain ⟨t, h3, h4, h5⟩ := sy_kd_ok hy.1 h1 hk.1
        exact ld_go hx hb hd hc h2 (h4 ▸ kd_of h5 (by omega)) (k _ _ _ (by first | exact hp0 | exact pre_app hp0) (sy_stack hy (is := n :: y.2.2.1) (st_zq := v :: st) ⟨h1, hy.2.2.1⟩))
      · cases h
theorem tr_st_ok (hx : p.tables.exec = Jvm.exec) (hb : c.code = cc) (hd : decode cc pc = .ok (i, len)) (h : tr_st nL i len y = some y_zq) (k : sy_go p l e R s m args below meth c H locs cells slots Q nL v0 ta ws (pc + len) y_zq) : sy_go p l e R s m args below meth c H locs cells slots Q nL v0 ta ws pc y := by
  intro vs ls st hp0 hy
  unfold tr_st at h
  cases hc : st_c i len with
  | none => rw [hc] at h; cases h
  | some q =>
    obtain ⟨j, kd⟩ := q
    rw [hc] at h
    simp only at h
    have hs := hy.2.2.1
    cases hst : y.2.2.1 with
    | nil => rw [hst] at h; cases h
    | cons n r =>
      rw [hst] at h hs
      simp only at h
      split at h
      · rename_i hk
        obtain rfl := Option.some.inj h
        cases st with
        | nil => exact hs.elim
        | cons v rest =>
          obtain ⟨t, h3, h4, h5⟩ := sy_kd_ok hy.1 hs.1 hk.1
          exact st_go hx hb hd hc (h4 ▸ kd_of h5 (by omega)) (lv_of_has hy.2.1) hk.2.2 (fun ls_zq hl => k _ _ _ (by first | exact hp0 | exact pre_app hp0) (sy_stored hy hs.1 hs.2 hl))
      · cases h
end M4
end
section
theorem sh_31 : ∀ n, n < 32 → ((nI n).toBitVec.smod 32).toNat = n ∧ nI n &&& 31 = nI n := by decide
theorem sh_at {y : Int32} {a : Int} (h1 : y.toInt = a) (h2 : 0 ≤ a) (h3 : a ≤ 31) : ((y &&& 31).toBitVec.smod 32).toNat = a.toNat := by
  have e : y = nI a.toNat := Int32.toInt_inj.mp (by rw [nI_toInt (by omega)]; omega)
  have q := sh_31 a.toNat (by omega)
  rw [e, q.2]; exact q.1
def iv_shl (t u : tv_T) : tv_T := if decide (0 ≤ t.2.1) && decide (0 ≤ u.2.1) && decide (u.2.2.1 ≤ 30) && decide (t.2.2.1 * (2 ^ u.2.2.1.toNat : Nat) ≤ 2147483647) then (0, t.2.1 * (2 ^ u.2.1.toNat : Nat), t.2.2.1 * (2 ^ u.2.2.1.toNat : Nat), []) else iv_top
theorem iv_shl_ok {ta : Nat → Option Nat} {t u : tv_T} {x y : Int32} (h1 : t.2.1 ≤ x.toInt) (h2 : x.toInt ≤ t.2.2.1) (h3 : u.2.1 ≤ y.toInt) (h4 : y.toInt ≤ u.2.2.1) : tv_ok ta (iv_shl t u) (.int (x <<< (y &&& 31))) := by
  unfold iv_shl
  split
  · rename_i h
    simp only [Bool.and_eq_true, decide_eq_true_eq] at h
    obtain ⟨⟨⟨a, b⟩, q⟩, r⟩ := h
    have e := pk_shl x (y &&& 31) y.toInt.toNat (sh_at rfl (by omega) (by omega))
    obtain ⟨e1, e2⟩ := nn_nat (x := x) (by omega)
    rw [e1] at e
    have p1 : 2 ^ u.2.1.toNat ≤ 2 ^ y.toInt.toNat := Nat.pow_le_pow_right (by decide) (by omega)
    have p2 : 2 ^ y.toInt.toNat ≤ 2 ^ u.2.2.1.toNat := Nat.pow_le_pow_right (by decide) (by omega)
    generalize 2 ^ u.2.1.toNat = P1 at *
    generalize 2 ^ y.toInt.toNat = P at *
    generalize 2 ^ u.2.2.1.toNat = P2 at *
    have m1 : x.toInt.toNat * P ≤ t.2.2.1.toNat * P2 := Nat.mul_le_mul (by omega) p2
    have m2 : t.2.1.toNat * P1 ≤ x.toInt.toNat * P := Nat.mul_le_mul (by omega) p1
    have m3 : ((t.2.2.1.toNat * P2 : Nat) : Int) = t.2.2.1 * (P2 : Nat) := by rw [Int.natCast_mul, Int.toNat_of_nonneg (by omega)]
    have m4 : ((t.2.1.toNat * P1 : Nat) : Int) = t.2.1 * (P1 : Nat) := by rw [Int.natCast_mul, Int.toNat_of_nonneg (by omega)]
    generalize x.toInt.toNat * P = X at *
    generalize t.2.2.1.toNat * P2 = X2 at *
    generalize t.2.1.toNat * P1 = X1 at *
    rw [Nat.mod_eq_of_lt (by omega)] at e
    have e5 := nat_nn (x := x <<< (y &&& 31)) (by omega)
    exact Or.inl ⟨rfl, _, rfl, by show t.2.1 * (P1 : Nat) ≤ _; omega, by show _ ≤ t.2.2.1 * (P2 : Nat); omega⟩
  · exact iv_any _
def iv_shr (t u : tv_T) : tv_T := if 0 ≤ t.2.1 then (if decide (0 ≤ u.2.1) && decide (u.2.2.1 ≤ 31) then (0, t.2.1 / (2 ^ u.2.2.1.toNat : Nat), t.2.2.1 / (2 ^ u.2.1.toNat : Nat), []) else (0, 0, t.2.2.1, [])) else iv_top
theorem sh_any (y : Int32) : ∃ j, j < 32 ∧ ((y &&& 31).toBitVec.smod 32).toNat = j := by
  obtain ⟨j, hj, e⟩ := pk_andE y (m := 31) 5 (by decide)
  exact ⟨j, hj, by rw [e]; exact (sh_31 j hj).1⟩
theorem iv_shr_ok {ta : Nat → Option Nat} {t u : tv_T} {x y : Int32} (h1 : t.2.1 ≤ x.toInt) (h2 : x.toInt ≤ t.2.2.1) (h3 : u.2.1 ≤ y.toInt) (h4 : y.toInt ≤ u.2.2.1) : tv_ok ta (iv_shr t u) (.int (x >>> (y &&& 31))) := by
  unfold iv_shr
  split
  · rename_i h0
    have gen : ∀ k : Nat, (x.toInt >>> k) = x.toInt / (2 ^ k : Nat) := fun k => Int.shiftRight_eq_div_pow _ _
    split
    · rename_i h
      simp only [Bool.and_eq_true, decide_eq_true_eq] at h
      have e := pk_shr x (y &&& 31) y.toInt.toNat (sh_at rfl (by omega) (by omega))
      rw [gen] at e
      have p1 : 2 ^ u.2.1.toNat ≤ 2 ^ y.toInt.toNat := Nat.pow_le_pow_right (by decide) (by omega)
      have p0 : 0 < 2 ^ u.2.1.toNat := Nat.pow_pos (by decide)
      have p2 : 2 ^ y.toInt.toNat ≤ 2 ^ u.2.2.1.toNat := Nat.pow_le_pow_right (by decide) (by omega)
      generalize 2 ^ u.2.2.1.toNat = P2 at *
      generalize 2 ^ u.2.1.toNat = P1 at *
      generalize 2 ^ y.toInt.toNat = P at *
      have q2 : t.2.1 / (P2 : Int) ≤ x.toInt / (P : Int) := by
        refine Int.le_ediv_of_mul_le (by omega) ?_
        have r3 : t.2.1 / (P2 : Int) * P2 ≤ t.2.1 := Int.ediv_mul_le _ (by omega)
        have r4 : t.2.1 / (P2 : Int) * P ≤ t.2.1 / (P2 : Int) * P2 := Int.mul_le_mul_of_nonneg_left (by omega) (Int.ediv_nonneg (by omega) (by omega))
        omega
      have q0 : 0 ≤ x.toInt / (P : Int) := Int.ediv_nonneg (by omega) (by omega)
      have q1 : x.toInt / (P : Int) ≤ t.2.2.1 / (P1 : Int) := by
        refine Int.le_ediv_of_mul_le (by omega) ?_
        have r1 : x.toInt / (P : Int) * P ≤ x.toInt := Int.ediv_mul_le _ (by omega)
        have r2 : x.toInt / (P : Int) * P1 ≤ x.toInt / (P : Int) * P := Int.mul_le_mul_of_nonneg_left (by omega) q0
        omega
      exact Or.inl ⟨rfl, _, rfl, by show t.2.1 / (P2 : Int) ≤ _; rw [e]; exact q2, by show _ ≤ t.2.2.1 / (P1 : Int); rw [e]; exact q1⟩
    · obtain ⟨j, _, hj⟩ := sh_any y
      have e := pk_shr x (y &&& 31) j hj
      rw [gen] at e
      have p0 : 0 < 2 ^ j := Nat.pow_pos (by decide)
      generalize 2 ^ j = P at *
      have q0 : 0 ≤ x.toInt / (P : Int) := Int.ediv_nonneg (by omega) (by omega)
      have q1 : x.toInt / (P : Int) ≤ x.toInt := Int.ediv_le_self _ (by omega)
      exact Or.inl ⟨rfl, _, rfl, by show (0 : Int) ≤ _; rw [e]; exact q0, by show _ ≤ t.2.2.1; rw [e]; omega⟩
  · exact iv_any _
theorem sh_any2 (y : Int32) : ∃ j, j < 32 ∧ ((y &&& 31).toBitVec.smod 32).toNat = j ∧ ((y.toUInt32 &&& Int32.toUInt32 31).toBitVec % 32).toNat = j := by
  obtain ⟨j, hj, e⟩ := pk_andE y (m := 31) 5 (by decide)
  have : ∀ j : Nat, j < 32 → ((nI j).toBitVec.smod 32).toNat = j ∧ ((nI j).toBitVec % 32).toNat = j := by decide +kernel
  refine ⟨j, hj, by rw [e]; exact (this j hj).1, ?_⟩
  have e2 : (y.toUInt32 &&& Int32.toUInt32 31).toBitVec = (y &&& 31).toBitVec := by
    rw [UInt32.toBitVec_and, Int32.toBitVec_and]; rfl
  rw [e2, e]; exact (this j hj).2
theorem ush_eq {x y : Int32} (hx : 0 ≤ x.toInt) : (x.toUInt32 >>> (y.toUInt32 &&& Int32.toUInt32 31)).toInt32 = x >>> (y &&& 31) := by
  obtain ⟨j, hj, h1, h2⟩ := sh_any2 y
  have e := pk_shr x (y &&& 31) j h1
  rw [Int.shiftRight_eq_div_pow] at e
  apply Int32.toInt_inj.mp
  rw [e]
  have e3 : (x.toUInt32 >>> (y.toUInt32 &&& Int32.toUInt32 31)).toInt32.toBitVec = x.toBitVec >>> j := by
    have : (x.toUInt32 >>> (y.toUInt32 &&& Int32.toUInt32 31)).toInt32.toBitVec = x.toBitVec >>> ((y.toUInt32 &&& Int32.toUInt32 31).toBitVec % 32) := rfl
    rw [this, BitVec.ushiftRight_eq', h2]
  show (x.toUInt32 >>> (y.toUInt32 &&& Int32.toUInt32 31)).toInt32.toBitVec.toInt = _
  rw [e3]
  have hm : x.toBitVec.toInt = x.toInt := rfl
  have hn : 2 * x.toBitVec.toNat < 2 ^ 32 := by
    rw [← hm, BitVec.toInt_eq_toNat_cond] at hx
    split at hx
    · assumption
    · have := x.toBitVec.isLt; omega
  have hx2 : x.toInt = (x.toBitVec.toNat : Int) := by
    rw [← hm, BitVec.toInt_eq_toNat_cond, if_pos hn]
  rw [hx2, BitVec.toInt_eq_toNat_cond, BitVec.toNat_ushiftRight, Nat.shiftRight_eq_div_pow]
  have hle : x.toBitVec.toNat / 2 ^ j ≤ x.toBitVec.toNat := Nat.div_le_self _ _
  rw [if_pos (by omega), Int.natCast_ediv]
theorem ush_at {z : Int32} (h0 : 0 ≤ z.toInt) (h1 : z.toInt ≤ 31) : ((z.toUInt32 &&& Int32.toUInt32 31).toBitVec % 32).toNat = z.toInt.toNat := by
  have : ∀ j : Nat, j < 32 → (((nI j).toUInt32 &&& Int32.toUInt32 31).toBitVec % 32).toNat = j ∧ (nI j).toInt = (j : Int) := by decide +kernel
  have e : z = nI z.toInt.toNat := by
    apply Int32.toInt_inj.mp
    rw [(this z.toInt.toNat (by omega)).2]; omega
  have h2 := (this z.toInt.toNat (by omega)).1
  rw [← e] at h2; exact h2
/-! divisions by what is positive -/
def iv_div (t u : tv_T) : tv_T := if 0 ≤ t.2.1 then (0, 0, t.2.2.1 / u.2.1, []) else (0, mn2 t.2.1 0, mx2 t.2.2.1 0, [])
def iv_rem (t u : tv_T) : tv_T := if 0 ≤ t.2.1 then (0, 0, mn2 t.2.2.1 (u.2.2.1 - 1), []) else (0, -(u.2.2.1 - 1), u.2.2.1 - 1, [])
theorem td_in {a b : Int} (hb : 1 ≤ b) : mn2 a 0 ≤ a.tdiv b ∧ a.tdiv b ≤ mx2 a 0 := by
  rcases Int.le_total 0 a with h | h
  · have e : a.tdiv b = a / b := Int.tdiv_eq_ediv_of_nonneg h
    rw [e]
    have q0 : 0 ≤ a / b := Int.ediv_nonneg h (by omega)
    have q1 : a / b ≤ a := Int.ediv_le_self _ h
    unfold mn2 mx2
    split <;> omega
  · have e : a.tdiv b = -((-a) / b) := by rw [← Int.tdiv_eq_ediv_of_nonneg (by omega : 0 ≤ -a), Int.neg_tdiv]; omega
    rw [e]
    have q0 : 0 ≤ (-a) / b := Int.ediv_nonneg (by omega) (by omega)
    have q1 : (-a) / b ≤ -a := Int.ediv_le_self _ (by omega)
    unfold mn2 mx2
    split <;> omega
theorem td_i32 {x y : Int32} (hy : 1 ≤ y.toInt) : (x / y).toInt = x.toInt.tdiv y.toInt := by
  rw [Int32.toInt_div]
  have h := td_in (a := x.toInt) hy
  have h1 := x.le_toInt
  have h2 := x.toInt_lt
  unfold mn2 mx2 at h
  refine Int.bmod_eq_of_le_mul_two ?_ ?_
  · show -(4294967296 : Int) ≤ _
    split at h <;> omega
  · show _ < (4294967296 : Int)
    split at h <;> omega
theorem iv_div_ok {ta : Nat → Option Nat} {t u : tv_T} {x y : Int32} (hu : 1 ≤ u.2.1) (h1 : t.2.1 ≤ x.toInt) (h2 : x.toInt ≤ t.2.2.1) (h3 : u.2.1 ≤ y.toInt) (h4 : y.toInt ≤ u.2.2.1) : tv_ok ta (iv_div t u) (.int (x / y)) := by
  have e := td_i32 (x := x) (y := y) (by omega)
  have h := td_in (a := x.toInt) (b := y.toInt) (by omega)
  unfold iv_div
  split
  · rename_i h0
    have e2 : x.toInt.tdiv y.toInt = x.toInt / y.toInt := Int.tdiv_eq_ediv_of_nonneg (by omega)
    have q0 : 0 ≤ x.toInt / y.toInt := Int.ediv_nonneg (by omega) (by omega)
    have q1 : x.toInt / y.toInt ≤ t.2.2.1 / u.2.1 := by
      refine Int.le_ediv_of_mul_le (by omega) ?_
      have r1 : x.toInt / y.toInt * y.toInt ≤ x.toInt := Int.ediv_mul_le _ (by omega)
      have r2 : x.toInt / y.toInt * u.2.1 ≤ x.toInt / y.toInt * y.toInt := Int.mul_le_mul_of_nonneg_left (by omega) q0
      omega
    exact Or.inl ⟨rfl, _, rfl, by show (0 : Int) ≤ _; omega, by show _ ≤ t.2.2.1 / u.2.1; omega⟩
  · refine Or.inl ⟨rfl, _, rfl, ?_, ?_⟩
    · show mn2 t.2.1 0 ≤ (x / y).toInt
      have := h.1
      unfold mn2 at this ⊢
      split at this <;> split <;> omega
    · show (x / y).toInt ≤ mx2 t.2.2.1 0
      have := h.2
      unfold mx2 at this ⊢
      split at this <;> split <;> omega
theorem tm_i32 {x y : Int32} (hy : 1 ≤ y.toInt) : (x - x / y * y).toInt = x.toInt.tmod y.toInt := by
  have e : x.toInt.tmod y.toInt = x.toInt - x.toInt.tdiv y.toInt * y.toInt := by
    have := Int.mul_tdiv_add_tmod x.toInt y.toInt
    rw [Int.mul_comm] at this
    omega
  have h1 := x.le_toInt
  have h2 := x.toInt_lt
  have hm : -2147483648 ≤ x.toInt.tmod y.toInt ∧ x.toInt.tmod y.toInt ≤ 2147483647 := by
    rcases Int.le_total 0 x.toInt with h | h
    · have a := Int.tmod_nonneg y.toInt h
      have b := Int.tmod_lt_of_pos x.toInt (by omega : 0 < y.toInt)
      have := y.toInt_lt
      omega
    · have a : (-(-x.toInt)).tmod y.toInt = -((-x.toInt).tmod y.toInt) := Int.neg_tmod ..
      rw [Int.neg_neg] at a
      have b := Int.tmod_nonneg y.toInt (by omega : 0 ≤ -x.toInt)
      have c := Int.tmod_lt_of_pos (-x.toInt) (by omega : 0 < y.toInt)
      have := y.toInt_lt
      omega
  rw [Int32.toInt_sub, Int32.toInt_mul, td_i32 hy, Int.sub_bmod_bmod, ← e]
  exact Int.bmod_eq_of_le_mul_two (by show -(4294967296 : Int) ≤ _; omega) (by show _ < (4294967296 : Int); omega)
theorem iv_rem_ok {ta : Nat → Option Nat} {t u : tv_T} {x y : Int32} (hu : 1 ≤ u.2.1) (h1 : t.2.1 ≤ x.toInt) (h2 : x.toInt ≤ t.2.2.1) (h3 : u.2.1 ≤ y.toInt) (h4 : y.toInt ≤ u.2.2.1) : tv_ok ta (iv_rem t u) (.int (x - x / y * y)) := by
  have e := tm_i32 (x := x) (y := y) (by omega)
  unfold iv_rem
  split
  · have a := Int.tmod_nonneg y.toInt (by omega : 0 ≤ x.toInt)
    have b := Int.tmod_lt_of_pos x.toInt (by omega : 0 < y.toInt)
    have d : x.toInt.tmod y.toInt ≤ x.toInt := by
      rw [Int.tmod_eq_emod_of_nonneg (by omega)]
      have q := Int.mul_ediv_add_emod x.toInt y.toInt
      have r := Int.mul_nonneg (by omega : 0 ≤ y.toInt) (Int.ediv_nonneg (by omega : 0 ≤ x.toInt) (by omega : 0 ≤ y.toInt))
      omega
    refine Or.inl ⟨rfl, _, rfl, by show (0 : Int) ≤ _; omega, ?_⟩
    show _ ≤ mn2 t.2.2.1 (u.2.2.1 - 1)
    unfold mn2
    split <;> omega
  · have hm : -(y.toInt - 1) ≤ x.toInt.tmod y.toInt ∧ x.toInt.tmod y.toInt ≤ y.toInt - 1 := by
      rcases Int.le_total 0 x.toInt with h | h
      · have a := Int.tmod_nonneg y.toInt h
        have b := Int.tmod_lt_of_pos x.toInt (by omega : 0 < y.toInt)
        omega
      · have a : (-(-x.toInt)).tmod y.toInt = -((-x.toInt).tmod y.toInt) := Int.neg_tmod ..
        rw [Int.neg_neg] at a
        have b := Int.tmod_nonneg y.toInt (by omega : 0 ≤ -x.toInt)
        have c := Int.tmod_lt_of_pos (-x.toInt) (by omega : 0 < y.toInt)
        omega
    exact Or.inl ⟨rfl, _, rfl, by show -(u.2.2.1 - 1) ≤ _; omega, by show _ ≤ u.2.2.1 - 1; omega⟩
end
section
def op_j (i : ClassFile.Instr) : Option ((Int32 → Int32 → Int32) × (tv_T → tv_T → tv_T)) := match i with
  | .ishl => some (fun x y => x <<< (y &&& 31), iv_shl)
  | .ishr => some (fun x y => x >>> (y &&& 31), iv_shr)
  | .iushr => some (fun x y => (x.toUInt32 >>> (y.toUInt32 &&& Int32.toUInt32 31)).toInt32, iv_shr)
  | i => op_i i
theorem op_j_ty {ta : Nat → Option Nat} {i : ClassFile.Instr} {f : Int32 → Int32 → Int32} {g : tv_T → tv_T → tv_T} (h : op_j i = some (f, g)) {t u : tv_T} {x y : Int32} (h1 : t.2.1 ≤ x.toInt) (h2 : x.toInt ≤ t.2.2.1) (h3 : u.2.1 ≤ y.toInt) (h4 : y.toInt ≤ u.2.2.1) : tv_ok ta (g t u) (.int (f x y)) := by
  unfold op_j at h
  split at h
  · cases h; exact iv_shl_ok h1 h2 h3 h4
  · cases h; exact iv_shr_ok h1 h2 h3 h4
  · cases h
    by_cases h0 : 0 ≤ t.2.1
    · have e := ush_eq (x := x) (y := y) (by omega)
      show tv_ok ta (iv_shr t u) (.int (x.toUInt32 >>> (y.toUInt32 &&& Int32.toUInt32 31)).toInt32)
      rw [e]; exact iv_shr_ok h1 h2 h3 h4
    · unfold iv_shr; rw [if_neg h0]; exact iv_any _
  · exact op_i_ty h h1 h2 h3 h4
/-- how far a new name lies from an old one -/
def sy_off (y : sy_T) (new old : Nat) (lo hi : Int) : sy_T := (y.1, y.2.1, y.2.2.1, y.2.2.2.1, (new, old, lo, hi) :: (y.2.2.2.2.1.filterMap (fun q => if q.1 = old then some (new, q.2.1, lo + q.2.2.1, hi + q.2.2.2) else none)) ++ y.2.2.2.2.1, y.2.2.2.2.2)
theorem sy_off_ok {ta : Nat → Option Nat} {ws : va_W} {vs : List Value} {ls : Array Slot} {nL : Nat} {st : List Value} {y : sy_T} {new old : Nat} {lo hi : Int} (h : sy_ok ta ws vs ls nL st y) (ho : sy_ofs vs (new, old, lo, hi)) : sy_ok ta ws vs ls nL st (sy_off y new old lo hi) := by
  refine ⟨h.1, h.2.1, h.2.2.1, h.2.2.2.1, fun q hq => ?_, h.2.2.2.2.2⟩
  rcases List.mem_append.mp hq with hq | hq
  · rcases List.mem_cons.mp hq with rfl | hq
    · exact ho
    · obtain ⟨z, hz, e⟩ := List.mem_filterMap.mp hq
      split at e
      · rename_i e1
        obtain rfl := Option.some.inj e
        obtain ⟨x1, x2, a1, a2, a3, a4⟩ := ho
        obtain ⟨x3, x4, b1, b2, b3, b4⟩ := h.2.2.2.2.1 z hz
        rw [e1] at b1
        have e2 : x2 = x3 := by
          have a2_zq : vs[old]? = some (.int x2) := a2
          rw [b1] at a2_zq
          exact (Value.int.inj (Option.some.inj a2_zq)).symm
        have a3_zq : x2.toInt + lo ≤ x1.toInt := a3
        have a4_zq : x1.toInt ≤ x2.toInt + hi := a4
        rw [e2] at a3_zq a4_zq
        exact ⟨x1, x4, a1, b2, by show x4.toInt + (lo + z.2.2.1) ≤ x1.toInt; omega, by show x1.toInt ≤ x4.toInt + (hi + z.2.2.2); omega⟩
      · cases e
  · exact h.2.2.2.2.1 q hq
def sy_dvA (y : sy_T) (n M : Nat) : sy_T := (y.1, y.2.1, y.2.2.1, y.2.2.2.1, y.2.2.2.2.1, (n, M) :: y.2.2.2.2.2)
theorem sy_dvA_ok {ta : Nat → Option Nat} {ws : va_W} {vs : List Value} {ls : Array Slot} {nL : Nat} {st : List Value} {y : sy_T} {n M : Nat} (h : sy_ok ta ws vs ls nL st y) (hd : sy_dv vs (n, M)) : sy_ok ta ws vs ls nL st (sy_dvA y n M) :=
  ⟨h.1, h.2.1, h.2.2.1, h.2.2.2.1, h.2.2.2.2.1, fun q hq => by
    rcases List.mem_cons.mp hq with rfl | hq
    · exact hd
    · exact h.2.2.2.2.2 q hq⟩
def of_in (d : Int) (t : tv_T) : Bool := decide (-2147483648 ≤ t.2.1 + d) && decide (t.2.2.1 + d ≤ 2147483647)
def ad_in (t u : tv_T) : Bool := decide (-2147483648 ≤ t.2.1 + u.2.1) && decide (t.2.2.1 + u.2.2.1 ≤ 2147483647)
def sb_in (t u : tv_T) : Bool := decide (-2147483648 ≤ t.2.1 - u.2.2.1) && decide (t.2.2.1 - u.2.1 ≤ 2147483647)
def isK (t : tv_T) : Bool := decide (t.2.1 = t.2.2.1)
/-- a sum of what a number divides and a multiple of it -/
def sy_dvs (y : sy_T) (n a : Nat) (d : Int) : sy_T := match y.2.2.2.2.2.find? (fun q => q.1 == a && decide (d % (q.2 : Int) = 0)) with
  | some q => sy_dvA y n q.2
  | none => y
def sy_offs (i : ClassFile.Instr) (y : sy_T) (n a b : Nat) (t u : tv_T) : sy_T := match i with
  | .iadd => if ad_in t u then (let y1 := if isK t then y else sy_off y n a u.2.1 u.2.2.1
      let y2 := if isK u then y1 else sy_off y1 n b t.2.1 t.2.2.1
      if isK u then sy_dvs y2 n a u.2.1 else y2) else y
  | .isub => if sb_in t u && !(isK t) then sy_off y n a (-u.2.2.1) (-u.2.1) else y
  | .imul => if isK u && decide (1 ≤ u.2.1) && decide (-2147483648 ≤ t.2.1 * u.2.1) && decide (t.2.2.1 * u.2.1 ≤ 2147483647) then sy_dvA y n u.2.1.toNat
      else if isK t && decide (1 ≤ t.2.1) && decide (-2147483648 ≤ u.2.1 * t.2.1) && decide (u.2.2.1 * t.2.1 ≤ 2147483647) then sy_dvA y n t.2.1.toNat else y
  | _ => y
theorem sy_dvs_ok {ta : Nat → Option Nat} {ws : va_W} {vs : List Value} {ls : Array Slot} {nL : Nat} {st : List Value} {y : sy_T} {n a : Nat} {d : Int} {x z : Int32} (h : sy_ok ta ws vs ls nL st y) (hn : vs[n]? = some (.int x)) (ha : vs[a]? = some (.int z)) (e : x.toInt = z.toInt + d) : sy_ok ta ws vs ls nL st (sy_dvs y n a d) := by
  unfold sy_dvs
  split
  · rename_i q hq
    have h1 := List.find?_some hq
    simp only [Bool.and_eq_true, beq_iff_eq, decide_eq_true_eq] at h1
    obtain ⟨w, k, e1, e2⟩ := h.2.2.2.2.2 q (List.mem_of_find?_eq_some hq)
    rw [h1.1, ha] at e1
    obtain rfl := Value.int.inj (Option.some.inj e1)
    refine sy_dvA_ok h ⟨x, k + d / (q.2 : Int), hn, ?_⟩
    have e3 := Int.mul_ediv_add_emod d (q.2 : Int)
    rw [h1.2] at e3
    show x.toInt = (q.2 : Int) * (k + d / (q.2 : Int))
    rw [Int.mul_add, ← e2]
    omega
  · exact h
theorem isK_ok {t : tv_T} (h : isK t = true) : t.2.1 = t.2.2.1 := by unfold isK at h; simpa using h
theorem sy_offs_ok {ta : Nat → Option Nat} {ws : va_W} {vs : List Value} {ls : Array Slot} {nL : Nat} {st : List Value} {y : sy_T} {n a b : Nat} {i : ClassFile.Instr} {t u : tv_T} {f : Int32 → Int32 → Int32} {g : tv_T → tv_T → tv_T} (hop : op_j i = some (f, g)) {x z : Int32} (h : sy_ok ta ws vs ls nL st y) (hn : vs[n]? = some (.int (f x z))) (ha : vs[a]? = some (.int x)) (hb : vs[b]? = some (.int z)) (h1 : t.2.1 ≤ x.toInt) (h2 : x.toInt ≤ t.2.2.1) (h3 : u.2.1 ≤ z.toInt) (h4 : z.toInt ≤ u.2.2.1) : sy_ok ta ws vs ls nL st (sy_offs i y n a b t u) := by
  unfold sy_offs
  split
  · have ef : (fun x y : Int32 => x + y) = f := by
      have : some ((fun x y : Int32 => x + y), fun t u : tv_T => iv_mk (t.2.1 + u.2.1) (t.2.2.1 + u.2.2.1)) = some (f, g) := hop
      exact (Prod.mk.inj (Option.some.inj this)).1
    rw [← ef] at hn
    split
    · rename_i q
      simp only [ad_in, Bool.and_eq_true, decide_eq_true_eq] at q
      have hs : (x + z).toInt = x.toInt + z.toInt := by rw [Int32.toInt_add, iv_bm (lo := t.2.1 + u.2.1) (hi := t.2.2.1 + u.2.2.1) (by omega) (by omega) (by omega) (by omega)]
      have s1 : sy_ok ta ws vs ls nL st (if isK t then y else sy_off y n a u.2.1 u.2.2.1) := by
        split
        · exact h
        · exact sy_off_ok h ⟨x + z, x, hn, ha, by show x.toInt + u.2.1 ≤ _; omega, by show _ ≤ x.toInt + u.2.2.1; omega⟩
      have s2 : sy_ok ta ws vs ls nL st (if isK u then (if isK t then y else sy_off y n a u.2.1 u.2.2.1) else sy_off (if isK t then y else sy_off y n a u.2.1 u.2.2.1) n b t.2.1 t.2.2.1) := by
        split
        · exact s1
        · exact sy_off_ok s1 ⟨x + z, z, hn, hb, by show z.toInt + t.2.1 ≤ _; omega, by show _ ≤ z.toInt + t.2.2.1; omega⟩
      show sy_ok ta ws vs ls nL st (if isK u then _ else _)
      by_cases hk : isK u = true
      · rw [if_pos hk]
        have e := isK_ok hk
        exact sy_dvs_ok (x := x + z) s2 hn ha (by omega)
      · rw [if_neg hk]; exact s2
    · exact h
  · have ef : (fun x y : Int32 => x - y) = f := by
      have : some ((fun x y : Int32 => x - y), fun t u : tv_T => iv_mk (t.2.1 - u.2.2.1) (t.2.2.1 - u.2.1)) = some (f, g) := hop
      exact (Prod.mk.inj (Option.some.inj this)).1
    rw [← ef] at hn
    split
    · rename_i q
      simp only [sb_in, Bool.and_eq_true, decide_eq_true_eq] at q
      have hs : (x - z).toInt = x.toInt - z.toInt := by rw [Int32.toInt_sub, iv_bm (lo := t.2.1 - u.2.2.1) (hi := t.2.2.1 - u.2.1) (by omega) (by omega) (by omega) (by omega)]
      exact sy_off_ok h ⟨x - z, x, hn, ha, by show x.toInt + -u.2.2.1 ≤ _; omega, by show _ ≤ x.toInt + -u.2.1; omega⟩
    · exact h
  · have ef : (fun x y : Int32 => x * y) = f := by
      have : some ((fun x y : Int32 => x * y), _) = some (f, g) := hop
      exact (Prod.mk.inj (Option.some.inj this)).1
    rw [← ef] at hn
    have hm := Int32.toInt_mul x z
    split
    · rename_i q
      simp only [Bool.and_eq_true, decide_eq_true_eq] at q
      have e := isK_ok q.1.1.1
      have e2 : z.toInt = u.2.1 := by omega
      have m1 := Int.mul_le_mul_of_nonneg_right h1 (show 0 ≤ u.2.1 by omega)
      have m2 := Int.mul_le_mul_of_nonneg_right h2 (show 0 ≤ u.2.1 by omega)
      rw [e2, iv_bm m1 m2 q.1.2 q.2] at hm
      refine sy_dvA_ok h ⟨x * z, x.toInt, hn, ?_⟩
      show (x * z).toInt = ((u.2.1.toNat : Nat) : Int) * x.toInt
      rw [hm, Int.toNat_of_nonneg (by omega), Int.mul_comm]
    · split
      · rename_i q
        simp only [Bool.and_eq_true, decide_eq_true_eq] at q
        have e := isK_ok q.1.1.1
        have e2 : x.toInt = t.2.1 := by omega
        have m1 := Int.mul_le_mul_of_nonneg_right h3 (show 0 ≤ t.2.1 by omega)
        have m2 := Int.mul_le_mul_of_nonneg_right h4 (show 0 ≤ t.2.1 by omega)
        rw [e2, Int.mul_comm, iv_bm m1 m2 q.1.2 q.2] at hm
        refine sy_dvA_ok h ⟨x * z, z.toInt, hn, ?_⟩
        show (x * z).toInt = ((t.2.1.toNat : Nat) : Int) * z.toInt
        rw [hm, Int.toNat_of_nonneg (by omega), Int.mul_comm]
      · exact h
  · exact h
/-- a difference of names whose distance is known -/
def sb_cut (i : ClassFile.Instr) (y : sy_T) (a b : Nat) (t u w : tv_T) : tv_T := match i with
  | .isub => if sb_in t u then (match y.2.2.2.2.1.find? (fun q => q.1 == a && q.2.1 == b) with
    | some q => (0, mx2 (t.2.1 - u.2.2.1) q.2.2.1, mn2 (t.2.2.1 - u.2.1) q.2.2.2, [])
    | none => (match y.2.2.2.2.1.find? (fun q => q.1 == b && q.2.1 == a) with
      | some q => (0, mx2 (t.2.1 - u.2.2.1) (-q.2.2.2), mn2 (t.2.2.1 - u.2.1) (-q.2.2.1), [])
      | none => w)) else w
  | _ => w
theorem sb_cut_ok {ta : Nat → Option Nat} {ws : va_W} {vs : List Value} {ls : Array Slot} {nL : Nat} {st : List Value} {y : sy_T} {a b : Nat} {i : ClassFile.Instr} {t u w : tv_T} {f : Int32 → Int32 → Int32} {g : tv_T → tv_T → tv_T} (hop : op_j i = some (f, g)) {x z : Int32} (h : sy_ok ta ws vs ls nL st y) (ha : vs[a]? = some (.int x)) (hb : vs[b]? = some (.int z)) (h1 : t.2.1 ≤ x.toInt) (h2 : x.toInt ≤ t.2.2.1) (h3 : u.2.1 ≤ z.toInt) (h4 : z.toInt ≤ u.2.2.1) (hw : tv_ok ta w (.int (f x z))) : tv_ok ta (sb_cut i y a b t u w) (.int (f x z)) := by
  unfold sb_cut
  split
  · have ef : (fun x y : Int32 => x - y) = f := by
      have : some ((fun x y : Int32 => x - y), fun t u : tv_T => iv_mk (t.2.1 - u.2.2.1) (t.2.2.1 - u.2.1)) = some (f, g) := hop
      exact (Prod.mk.inj (Option.some.inj this)).1
    rw [← ef] at hw ⊢
    split
    · rename_i q
      simp only [sb_in, Bool.and_eq_true, decide_eq_true_eq] at q
      have hs : (x - z).toInt = x.toInt - z.toInt := by rw [Int32.toInt_sub, iv_bm (lo := t.2.1 - u.2.2.1) (hi := t.2.2.1 - u.2.1) (by omega) (by omega) (by omega) (by omega)]
      split
      · rename_i q2 hq
        have e1 := List.find?_some hq
        simp only [Bool.and_eq_true, beq_iff_eq] at e1
        obtain ⟨x2, z2, c1, c2, c3, c4⟩ := h.2.2.2.2.1 q2 (List.mem_of_find?_eq_some hq)
        rw [e1.1, ha] at c1
        rw [e1.2, hb] at c2
        obtain rfl := Value.int.inj (Option.some.inj c1)
        obtain rfl := Value.int.inj (Option.some.inj c2)
        refine Or.inl ⟨rfl, _, rfl, ?_, ?_⟩
        · show mx2 _ _ ≤ (x - z).toInt
          unfold mx2; split <;> omega
        · show (x - z).toInt ≤ mn2 _ _
          unfold mn2; split <;> omega
      · split
        · rename_i q2 hq
          have e1 := List.find?_some hq
          simp only [Bool.and_eq_true, beq_iff_eq] at e1
          obtain ⟨z2, x2, c1, c2, c3, c4⟩ := h.2.2.2.2.1 q2 (List.mem_of_find?_eq_some hq)
          rw [e1.1, hb] at c1
          rw [e1.2, ha] at c2
          obtain rfl := Value.int.inj (Option.some.inj c1)
          obtain rfl := Value.int.inj (Option.some.inj c2)
          refine Or.inl ⟨rfl, _, rfl, ?_, ?_⟩
          · show mx2 _ _ ≤ (x - z).toInt
            unfold mx2; split <;> omega
          · show (x - z).toInt ≤ mn2 _ _
            unfold mn2; split <;> omega
        · exact hw
    · exact hw
  · exact hw
def tr_opi (i : ClassFile.Instr) (len : Nat) (y : sy_T) : Option sy_T := match op_j i with
  | some (_, g) => match y.2.2.1 with
    | b :: a :: r => match y.1[a]?, y.1[b]? with
      | some t, some u => if t.1 = 0 ∧ u.1 = 0 ∧ len = 1 then some (sy_offs i (sy_push y (sb_cut i y a b t u (g t u)) r) y.1.length a b t u) else none
      | _, _ => none
    | _ => none
  | none => none
def tr_opl (i : ClassFile.Instr) (len : Nat) (y : sy_T) : Option sy_T := match op_l i with
  | some (_, g) => match y.2.2.1 with
    | b :: a :: r => match y.1[a]?, y.1[b]? with
      | some t, some u => if t.1 = 1 ∧ u.1 = 1 ∧ len = 1 then some (sy_push y (g t u) r) else none
      | _, _ => none
    | _ => none
  | none => none
/-- divisions by what is positive -/
def tr_dv (i : ClassFile.Instr) (len : Nat) (y : sy_T) : Option sy_T := match y.2.2.1 with
  | b :: a :: r => match y.1[a]?, y.1[b]? with
    | some t, some u => match i with
      | .idiv => if t.1 = 0 ∧ u.1 = 0 ∧ len = 1 ∧ 1 ≤ u.2.1 then some (sy_push y (iv_div t u) r) else none
      | .irem => if t.1 = 0 ∧ u.1 = 0 ∧ len = 1 ∧ 1 ≤ u.2.1 then some (if u.2.1 = u.2.2.1 then sy_push y (iv_rem t u) r else sy_off (sy_push y (iv_rem t u) r) y.1.length b (-4294967295) (-1)) else none
      | .ldiv => if t.1 = 1 ∧ u.1 = 1 ∧ len = 1 ∧ (1 ≤ u.2.1 ∨ u.2.2.1 ≤ -1) then some (sy_push y lv_top r) else none
      | .lrem => if t.1 = 1 ∧ u.1 = 1 ∧ len = 1 ∧ (1 ≤ u.2.1 ∨ u.2.2.1 ≤ -1) then some (sy_push y lv_top r) else none
      | .lcmp => if t.1 = 1 ∧ u.1 = 1 ∧ len = 1 then some (sy_push y (0, -1, 1, []) r) else none
      | .lshl => if t.1 = 1 ∧ u.1 = 0 ∧ len = 1 then some (sy_push y lv_top r) else none
      | .lshr => if t.1 = 1 ∧ u.1 = 0 ∧ len = 1 then some (sy_push y lv_top r) else none
      | .lushr => if t.1 = 1 ∧ u.1 = 0 ∧ len = 1 then some (sy_push y lv_top r) else none
      | .dup2 => if t.1 ≠ 1 ∧ u.1 ≠ 1 ∧ len = 1 then some (y.1, y.2.1, b :: a :: b :: a :: r, y.2.2.2.1, y.2.2.2.2) else none
      | .pop2 => if t.1 ≠ 1 ∧ u.1 ≠ 1 ∧ len = 1 then some (y.1, y.2.1, r, y.2.2.2.1, y.2.2.2.2) else none
      | _ => none
    | _, _ => none
  | _ => none
/-- one value -/
def tr_un (i : ClassFile.Instr) (len : Nat) (y : sy_T) : Option sy_T := match y.2.2.1 with
  | a :: r => match y.1[a]? with
    | some t => match i with
      | .ineg => if t.1 = 0 ∧ len = 1 then some (sy_push y (iv_mk (-t.2.2.1) (-t.2.1)) r) else none
      | .lneg => if t.1 = 1 ∧ len = 1 then some (sy_push y (lv_mk (-t.2.2.1) (-t.2.1)) r) else none
      | .i2l => if t.1 = 0 ∧ len = 1 then some (sy_push y (1, t.2.1, t.2.2.1, []) r) else none
      | .l2i => if t.1 = 1 ∧ len = 1 then some (sy_push y (iv_mk t.2.1 t.2.2.1) r) else none
      | .i2b => if t.1 = 0 ∧ len = 1 then some (sy_push y (if decide (-128 ≤ t.2.1) && decide (t.2.2.1 ≤ 127) then (0, t.2.1, t.2.2.1, []) else (0, -128, 127, [])) r) else none
      | .i2c => if t.1 = 0 ∧ len = 1 then some (sy_push y (0, 0, 65535, []) r) else none
      | .dup => if t.1 ≠ 1 ∧ len = 1 then some (y.1, y.2.1, a :: a :: r, y.2.2.2.1, y.2.2.2.2) else none
      | .pop => if t.1 ≠ 1 ∧ len = 1 then some (y.1, y.2.1, r, y.2.2.2.1, y.2.2.2.2) else none
      | .dup2 => if t.1 = 1 ∧ len = 1 then some (y.1, y.2.1, a :: a :: r, y.2.2.2.1, y.2.2.2.2) else none
      | .pop2 => if t.1 = 1 ∧ len = 1 then some (y.1, y.2.1, r, y.2.2.2.1, y.2.2.2.2) else none
      | _ => none
    | none => none
  | [] => none
/-- a local and a number -/
def tr_inc (nL : Nat) (i : ClassFile.Instr) (len : Nat) (y : sy_T) : Option sy_T := match i with
  | .iinc j n => match sy_find y.2.1 j with
    | some a => match y.1[a]? with
      | some t => if t.1 = 0 ∧ len = 3 ∧ j < nL then
          (let d := (Int32.ofInt n).toInt
           let z : sy_T := (y.1 ++ [iv_mk (t.2.1 + d) (t.2.2.1 + d)], (sy_sto y j 0 y.1.length y.2.2.1).2.1, y.2.2.1, y.2.2.2.1, y.2.2.2.2)
           some (if of_in d t then sy_off z y.1.length a d d else z)) else none
      | none => none
    | none => none
  | _ => none
end
section
section M7
variable {p : Program} {l : Launch} {e : Env} {R : Room} {s : State} {m : MethodId} {args : Array Value} {below : List Frame} {meth : Method} {c : Code} {H : Heap} {locs : List Loc} {cells slots : Nat} {Q : State → Prop} {cc : ByteArray} {pc : Nat} {i : ClassFile.Instr} {len nL : Nat} {v0 : List Value} {ta : Nat → Option Nat} {ws : va_W} {y y_zq : sy_T}
theorem op_j_go {rest : List Value} {ls : Array Slot} (hx : p.tables.exec = Jvm.exec) (hb : c.code = cc) (hd : decode cc pc = .ok (i, 1)) {f : Int32 → Int32 → Int32} {g : tv_T → tv_T → tv_T} (h : op_j i = some (f, g)) {x y : Int32} (k : W p l e R s m args below meth c H locs cells slots Q (F0 m (pc + 1) ls (.int (f x y) :: rest))) : W p l e R s m args below meth c H locs cells slots Q (F0 m pc ls (.int y :: .int x :: rest)) := by
  unfold op_j at h
  split at h
  · cases h; exact lv_ishl hx hb hd k
  · cases h; exact lv_ishr hx hb hd k
  · cases h; exact lv_iushr hx hb hd rfl k
  · exact op_i_go hx hb hd h k
/-- the two topmost values -/
theorem sy_two {vs st : List Value} {env : List tv_T} {a b : Nat} {r : List Nat} (he : sy_env ta env vs) (h : sy_st vs (b :: a :: r) st) {t u : tv_T} (h1 : env[a]? = some t) (h2 : env[b]? = some u) : ∃ va vb rest, st = vb :: va :: rest ∧ vs[a]? = some va ∧ vs[b]? = some vb ∧ tv_ok ta t va ∧ tv_ok ta u vb ∧ sy_st vs r rest := by
  cases st with
  | nil => exact h.elim
  | cons vb st =>
    cases st with
    | nil => exact h.2.elim
    | cons va rest => exact ⟨va, vb, rest, rfl, h.2.1, h.1, he.2 a t va h1 h.2.1, he.2 b u vb h2 h.1, h.2.2⟩
theorem sy_one {vs st : List Value} {env : List tv_T} {a : Nat} {r : List Nat} (he : sy_env ta env vs) (h : sy_st vs (a :: r) st) {t : tv_T} (h1 : env[a]? = some t) : ∃ va rest, st = va :: rest ∧ vs[a]? = some va ∧ tv_ok ta t va ∧ sy_st vs r rest := by
  cases st with
  | nil => exact h.elim
  | cons va rest => exact ⟨va, rest, rfl, h.1, he.2 a t va h1 h.1, h.2⟩
/-- the same, where more is known of the values -/
def sy_goX (p : Program) (l : Launch) (e : Env) (R : Room) (s : State) (m : MethodId) (args : Array Value) (below : List Frame) (meth : Method) (c : Code) (H : Heap) (locs : List Loc) (cells slots : Nat) (Q : State → Prop) (nL : Nat) (v0 : List Value) (ta : Nat → Option Nat) (ws : va_W) (X : List Value → Prop) (pc : Nat) (y : sy_T) : Prop :=
  ∀ (vs : List Value) (ls : Array Slot) (st : List Value), v0 <+: vs → X vs → sy_ok ta ws vs ls nL st y → W p l e R s m args below meth c H locs cells slots Q (F0 m pc ls st)
theorem sy_go.x {X : List Value → Prop} (h : sy_go p l e R s m args below meth c H locs cells slots Q nL v0 ta ws pc y) : sy_goX p l e R s m args below meth c H locs cells slots Q nL v0 ta ws X pc y := fun vs ls st a _ b => h vs ls st a b
def op_X (i : ClassFile.Instr) (y : sy_T) (vs : List Value) : Prop := ∀ f g, op_j i = some (f, g) → ∀ a b r, y.2.2.1 = b :: a :: r → ∃ x z : Int32, vs[a]? = some (.int x) ∧ vs[b]? = some (.int z) ∧ vs[y.1.length]? = some (.int (f x z))
theorem tr_opi_okX (hx : p.tables.exec = Jvm.exec) (hb : c.code = cc) (hd : decode cc pc = .ok (i, len)) (h : tr_opi i len y = some y_zq) (k : sy_goX p l e R s m args below meth c H locs cells slots Q nL v0 ta ws (op_X i y) (pc + len) y_zq) : sy_go p l e R s m args below meth c H locs cells slots Q nL v0 ta ws pc y := by
  intro vs ls st hp0 hy
  unfold tr_opi at h
  have hs := hy.2.2.1
  split at h
  · rename_i f g hop
    split at h
    · rename_i b a r hst
      rw [hst] at hs
      split at h
      · rename_i t u hta hub
        split at h
        · rename_i hk
          obtain rfl := Option.some.inj h
          obtain ⟨va, vb, rest, rfl, ha, hb2, oa, ob, hr⟩ := sy_two hy.1 hs hta hub
          obtain ⟨x, rfl, x1, x2⟩ := tv_int oa hk.1
          obtain ⟨z, rfl, z1, z2⟩ := tv_int ob hk.2.1
          obtain rfl := hk.2.2
          have hp := sy_pushed hy hr (sb_cut_ok hop hy ha hb2 x1 x2 z1 z2 (op_j_ty (ta := ta) hop x1 x2 z1 z2))
          have hn : (vs ++ [Value.int (f x z)])[y.1.length]? = some (.int (f x z)) := by rw [← hy.1.1, List.getElem?_append_right (Nat.le_refl _), Nat.sub_self]; rfl
          refine op_j_go hx hb hd hop (k _ _ _ (pre_app hp0) ?_ (sy_offs_ok hop hp hn (sy_app ha) (sy_app hb2) x1 x2 z1 z2))
          intro f_zq g_zq h_zq a_zq b_zq r_zq hst_zq
          rw [hop] at h_zq
          rw [hst] at hst_zq
          cases h_zq; cases hst_zq
          exact ⟨x, z, sy_app ha, sy_app hb2, hn⟩
        · cases h
      · cases h
    · cases h
  · cases h
theorem tr_opi_ok (hx : p.tables.exec = Jvm.exec) (hb : c.code = cc) (hd : decode cc pc = .ok (i, len)) (h : tr_opi i len y = some y_zq) (k : sy_go p l e R s m args below meth c H locs cells slots Q nL v0 ta ws (pc + len) y_zq) : sy_go p l e R s m args below meth c H locs cells slots Q nL v0 ta ws pc y := tr_opi_okX hx hb hd h k.x
theorem tr_opl_ok (hx : p.tables.exec = Jvm.exec) (hb : c.code = cc) (hd : decode cc pc = .ok (i, len)) (h : tr_opl i len y = some y_zq) (k : sy_go p l e R s m args below meth c H locs cells slots Q nL v0 ta ws (pc + len) y_zq) : sy_go p l e R s m args below meth c H locs cells slots Q nL v0 ta ws pc y := by
  intro vs ls st hp0 hy
  unfold tr_opl at h
  have hs := hy.2.2.1
  split at h
  · rename_i f g hop
    split at h
    · rename_i b a r hst
      rw [hst] at hs
      split at h
      · rename_i t u hta hub
        split at h
        · rename_i hk
          obtain rfl := Option.some.inj h
          obtain ⟨va, vb, rest, rfl, ha, hb2, oa, ob, hr⟩ := sy_two hy.1 hs hta hub
          obtain ⟨x, rfl, x1, x2⟩ := tv_long oa hk.1
          obtain ⟨z, rfl, z1, z2⟩ := tv_long ob hk.2.1
          obtain rfl := hk.2.2
          exact op_l_go hx hb hd hop (k _ _ _ (by first | exact hp0 | exact pre_app hp0) (sy_pushed hy hr (op_l_ty (ta := ta) hop x1 x2 z1 z2)))
        · cases h
      · cases h
    · cases h
  · cases h
theorem cmp_ty (x y : Int64) : tv_ok ta (0, -1, 1, []) (.int (lg_cmp x y)) := by
  refine Or.inl ⟨rfl, _, rfl, ?_, ?_⟩
  · show (-1 : Int) ≤ (lg_cmp x y).toInt
    unfold lg_cmp
    split
    · decide
    · split <;> decide
  · show (lg_cmp x y).toInt ≤ (1 : Int)
    unfold lg_cmp
    split
    · decide
    · split <;> decide
theorem l_ne0 {u : tv_T} {z : Int64} (h : 1 ≤ u.2.1 ∨ u.2.2.1 ≤ -1) (h1 : u.2.1 ≤ z.toInt) (h2 : z.toInt ≤ u.2.2.1) : ¬ z = 0 := fun q => by
  subst q
  have e : (0 : Int64).toInt = 0 := by decide
  rw [e] at h1 h2
  omega
theorem i_ne0 {u : tv_T} {z : Int32} (h : 1 ≤ u.2.1) (h1 : u.2.1 ≤ z.toInt) : ¬ z = 0 := fun q => by
  subst q
  have e : (0 : Int32).toInt = 0 := by decide
  rw [e] at h1
  omega
theorem tr_dv_ok (hx : p.tables.exec = Jvm.exec) (hb : c.code = cc) (hd : decode cc pc = .ok (i, len)) (h : tr_dv i len y = some y_zq) (k : sy_go p l e R s m args below meth c H locs cells slots Q nL v0 ta ws (pc + len) y_zq) : sy_go p l e R s m args below meth c H locs cells slots Q nL v0 ta ws pc y := by
  intro vs ls st hp0 hy
  unfold tr_dv at h
  have hs := hy.2.2.1
  split at h
  · rename_i b a r hst
    rw [hst] at hs
    split at h
    · rename_i t u hta hub
      obtain ⟨va, vb, rest, rfl, ha, hb2, oa, ob, hr⟩ := sy_two hy.1 hs hta hub
      split at h
      · split at h
        · rename_i hk
          obtain rfl := Option.some.inj h
          obtain ⟨x, rfl, x1, x2⟩ := tv_int oa hk.1
          obtain ⟨z, rfl, z1, z2⟩ := tv_int ob hk.2.1
          obtain rfl := hk.2.2.1
          exact lv_idiv hx hb hd (i_ne0 hk.2.2.2 z1) (k _ _ _ (by first | exact hp0 | exact pre_app hp0) (sy_pushed hy hr (iv_div_ok hk.2.2.2 x1 x2 z1 z2)))
        · cases h
      · split at h
        · rename_i hk
          obtain rfl := Option.some.inj h
          obtain ⟨x, rfl, x1, x2⟩ := tv_int oa hk.1
          obtain ⟨z, rfl, z1, z2⟩ := tv_int ob hk.2.1
          obtain rfl := hk.2.2.1
          have hpu := sy_pushed hy hr (iv_rem_ok (ta := ta) hk.2.2.2 x1 x2 z1 z2)
          have z1_zq : 1 ≤ z.toInt := by have := hk.2.2.2; omega
          refine lv_irem hx hb hd (i_ne0 hk.2.2.2 z1) (k (vs ++ [Value.int (x - x / z * z)]) ls (Value.int (x - x / z * z) :: rest) (pre_app hp0) ?_)
          split
          · exact hpu
          · refine sy_off_ok hpu ?_
            obtain ⟨w, ew, _, w2⟩ := tv_int (iv_rem_ok (ta := ta) (t := (0, x.toInt, x.toInt, [])) (u := (0, z.toInt, z.toInt, [])) z1_zq (Int.le_refl _) (Int.le_refl _) (Int.le_refl _) (Int.le_refl _)) (by unfold iv_rem; split <;> rfl)
            have e1 : x - x / z * z = w := by injection ew
            have w3 : w.toInt ≤ z.toInt - 1 := by
              unfold iv_rem at w2
              split at w2
              · have w2_zq : w.toInt ≤ mn2 x.toInt (z.toInt - 1) := w2
                unfold mn2 at w2_zq
                split at w2_zq <;> omega
              · exact w2
            have w4 := w.le_toInt
            have w5 := z.toInt_lt
            refine ⟨x - x / z * z, z, ?_, ?_, ?_, ?_⟩
            · show (vs ++ [Value.int (x - x / z * z)])[y.1.length]? = _
              rw [← hy.1.1, List.getElem?_append_right (Nat.le_refl _), Nat.sub_self]; rfl
            · show (vs ++ [Value.int (x - x / z * z)])[b]? = _
              rw [List.getElem?_append_left (List.getElem?_eq_some_iff.mp hb2).1]; exact hb2
            · rw [e1]; show z.toInt + -4294967295 ≤ w.toInt; omega
            · rw [e1]; show w.toInt ≤ z.toInt + -1; omega
        · cases h
      · split at h
        · rename_i hk
          obtain rfl := Option.some.inj h
          obtain ⟨x, rfl, x1, x2⟩ := tv_long oa hk.1
          obtain ⟨z, rfl, z1, z2⟩ := tv_long ob hk.2.1
          obtain rfl := hk.2.2.1
          exact lv_ldiv hx hb hd (l_ne0 hk.2.2.2 z1 z2) (k _ _ _ (by first | exact hp0 | exact pre_app hp0) (sy_pushed hy hr (lv_any _)))
        · cases h
      · split at h
        · rename_i hk
          obtain rfl := Option.some.inj h
          obtain ⟨x, rfl, x1, x2⟩ := tv_long oa hk.1
          obtain ⟨z, rfl, z1, z2⟩ := tv_long ob hk.2.1
          obtain rfl := hk.2.2.1
          exact lv_lrem hx hb hd (l_ne0 hk.2.2.2 z1 z2) (k _ _ _ (by first | exact hp0 | exact pre_app hp0) (sy_pushed hy hr (lv_any _)))
        · cases h
      · split at h
        · rename_i hk
          obtain rfl := Option.some.inj h
          obtain ⟨x, rfl, x1, x2⟩ := tv_long oa hk.1
          obtain ⟨z, rfl, z1, z2⟩ := tv_long ob hk.2.1
          obtain rfl := hk.2.2
          exact W.lcmp hx hb hd (k _ _ _ (by first | exact hp0 | exact pre_app hp0) (sy_pushed hy hr (cmp_ty x z)))
        · cases h
      · split at h
        · rename_i hk
          obtain rfl := Option.some.inj h
          obtain ⟨x, rfl, x1, x2⟩ := tv_long oa hk.1
          obtain ⟨z, rfl, z1, z2⟩ := tv_int ob hk.2.1
          obtain rfl := hk.2.2
          exact lv_lshl hx hb hd rfl (k _ _ _ (by first | exact hp0 | exact pre_app hp0) (sy_pushed hy hr (lv_any _)))
        · cases h
      · split at h
        · rename_i hk
          obtain rfl := Option.some.inj h
          obtain ⟨x, rfl, x1, x2⟩ := tv_long oa hk.1
          obtain ⟨z, rfl, z1, z2⟩ := tv_int ob hk.2.1
          obtain rfl := hk.2.2
          exact lv_lshr hx hb hd rfl (k _ _ _ (by first | exact hp0 | exact pre_app hp0) (sy_pushed hy hr (lv_any _)))
        · cases h
      · split at h
        · rename_i hk
          obtain rfl := Option.some.inj h
          obtain ⟨x, rfl, x1, x2⟩ := tv_long oa hk.1
          obtain ⟨z, rfl, z1, z2⟩ := tv_int ob hk.2.1
          obtain rfl := hk.2.2
          exact lv_lushr hx hb hd rfl (k _ _ _ (by first | exact hp0 | exact pre_app hp0) (sy_pushed hy hr (lv_any _)))
        · cases h
      · split at h
        · rename_i hk
          obtain rfl := Option.some.inj h
          obtain rfl := hk.2.2
          exact lv_dup2_11 hx hb hd ((tv_cat ob).2 hk.2.1) ((tv_cat oa).2 hk.1) (k _ _ _ (by first | exact hp0 | exact pre_app hp0) (sy_stack hy (is := b :: a :: b :: a :: r) (st_zq := vb :: va :: vb :: va :: rest) ⟨hb2, ha, hb2, ha, hr⟩))
        · cases h
      · split at h
        · rename_i hk
          obtain rfl := Option.some.inj h
          obtain rfl := hk.2.2
          exact lv_pop2_11 hx hb hd ((tv_cat ob).2 hk.2.1) ((tv_cat oa).2 hk.1) (k _ _ _ (by first | exact hp0 | exact pre_app hp0) (sy_stack hy (is := r) (st_zq := rest) hr))
        · cases h
      · cases h
    · cases h
  · cases h
theorem i2l_ty {t : tv_T} {x : Int32} (h1 : t.2.1 ≤ x.toInt) (h2 : x.toInt ≤ t.2.2.1) : tv_ok ta (1, t.2.1, t.2.2.1, []) (.long x.toInt64) := Or.inr (Or.inl ⟨rfl, _, rfl, by show t.2.1 ≤ x.toInt64.toInt; rw [Int32.toInt_toInt64]; exact h1, by show x.toInt64.toInt ≤ t.2.2.1; rw [Int32.toInt_toInt64]; exact h2⟩)
theorem i2b_ty {t : tv_T} {x : Int32} (h1 : t.2.1 ≤ x.toInt) (h2 : x.toInt ≤ t.2.2.1) : tv_ok ta (if decide (-128 ≤ t.2.1) && decide (t.2.2.1 ≤ 127) then (0, t.2.1, t.2.2.1, []) else (0, -128, 127, [])) (.int x.toInt8.toInt32) := by
  have e : x.toInt8.toInt32.toInt = x.toInt.bmod (2 ^ 8) := by rw [Int8.toInt_toInt32, Int32.toInt_toInt8]
  split
  · rename_i q
    simp only [Bool.and_eq_true, decide_eq_true_eq] at q
    have e2 : x.toInt.bmod (2 ^ 8) = x.toInt := Int.bmod_eq_of_le_mul_two (by show -(256 : Int) ≤ _; omega) (by show _ < (256 : Int); omega)
    exact Or.inl ⟨rfl, _, rfl, by show t.2.1 ≤ _; omega, by show _ ≤ t.2.2.1; omega⟩
  · have a := Int.le_bmod (x := x.toInt) (m := 2 ^ 8) (by decide)
    have b := Int.bmod_lt (x := x.toInt) (m := 2 ^ 8) (by decide)
    have a2 : (-128 : Int) ≤ x.toInt.bmod (2 ^ 8) := a
    have b2 : x.toInt.bmod (2 ^ 8) < (128 : Int) := b
    exact Or.inl ⟨rfl, _, rfl, by show (-128 : Int) ≤ _; omega, by show _ ≤ (127 : Int); omega⟩
theorem i2c_ty (x : Int32) : tv_ok ta (0, 0, 65535, []) (.int (x.toUInt32 % 65536).toInt32) := by
  rw [pk_char]
  have h : x.toBitVec.toNat % 65536 < 65536 := Nat.mod_lt _ (by decide)
  have e := nI_toInt (n := x.toBitVec.toNat % 65536) (by omega)
  exact Or.inl ⟨rfl, _, rfl, by show (0 : Int) ≤ _; omega, by show _ ≤ (65535 : Int); omega⟩
/-- conversions and signs: from where to where they say what they say, and with which factor -/
def un_r (i : ClassFile.Instr) : Option (Int × Int × Int) := match i with
  | .ineg => some (-2147483647, 2147483647, -1)
  | .lneg => some (-9223372036854775807, 9223372036854775807, -1)
  | .i2l => some (-2147483648, 2147483647, 1)
  | .l2i => some (-2147483648, 2147483647, 1)
  | .i2b => some (-128, 127, 1)
  | .i2c => some (0, 65535, 1)
  | _ => none
def un_b (i : ClassFile.Instr) (v w : Int) : Prop := match i with
  | .i2b => w = (v + 128) % 256 - 128
  | _ => True
def un_X (i : ClassFile.Instr) (y : sy_T) (vs : List Value) : Prop := ∀ lo hi sg, un_r i = some (lo, hi, sg) → ∀ a r, y.2.2.1 = a :: r → ∃ v w : Value, vs[a]? = some v ∧ vs[y.1.length]? = some w ∧ (lo ≤ v_iv v → v_iv v ≤ hi → v_iv w = sg * v_iv v) ∧ un_b i (v_iv v) (v_iv w)
theorem un_no {i : ClassFile.Instr} {y : sy_T} {vs : List Value} (h : un_r i = none) : un_X i y vs := fun lo hi sg q => by rw [h] at q; cases q
theorem un_mk {i : ClassFile.Instr} {y : sy_T} {vs : List Value} {a : Nat} {r : List Nat} {v w : Value} (hst : y.2.2.1 = a :: r) (ha : vs[a]? = some v) (hl : vs.length = y.1.length) (h : ∀ lo hi sg, un_r i = some (lo, hi, sg) → lo ≤ v_iv v → v_iv v ≤ hi → v_iv w = sg * v_iv v) (h2 : un_b i (v_iv v) (v_iv w)) : un_X i y (vs ++ [w]) := by
  intro lo hi sg q a_zq r_zq hst_zq
  rw [hst] at hst_zq
  obtain ⟨rfl, rfl⟩ := List.cons.inj hst_zq
  exact ⟨v, w, sy_app ha, by rw [← hl, List.getElem?_append_right (Nat.le_refl _), Nat.sub_self]; rfl, h lo hi sg q, h2⟩
theorem un_ineg {x : Int32} {lo hi sg : Int} (q : un_r .ineg = some (lo, hi, sg)) (h1 : lo ≤ v_iv (.int x)) (h2 : v_iv (.int x) ≤ hi) : v_iv (.int (-x)) = sg * v_iv (.int x) := by
  cases q
  have h1_zq : (-2147483647 : Int) ≤ x.toInt := h1
  have h2_zq : x.toInt ≤ (2147483647 : Int) := h2
  show (-x).toInt = -1 * x.toInt
  rw [Int32.toInt_neg, iv_bm (lo := -2147483647) (hi := 2147483647) (by omega) (by omega) (by omega) (by omega)]; omega
theorem un_lneg {x : Int64} {lo hi sg : Int} (q : un_r .lneg = some (lo, hi, sg)) (h1 : lo ≤ v_iv (.long x)) (h2 : v_iv (.long x) ≤ hi) : v_iv (.long (-x)) = sg * v_iv (.long x) := by
  cases q
  have h1_zq : (-9223372036854775807 : Int) ≤ x.toInt := h1
  have h2_zq : x.toInt ≤ (9223372036854775807 : Int) := h2
  show (-x).toInt = -1 * x.toInt
  rw [Int64.toInt_neg, lv_bm (lo := -9223372036854775807) (hi := 9223372036854775807) (by omega) (by omega) (by omega) (by omega)]; omega
theorem un_i2l {x : Int32} {lo hi sg : Int} (q : un_r .i2l = some (lo, hi, sg)) : v_iv (.long x.toInt64) = sg * v_iv (.int x) := by
  cases q
  show x.toInt64.toInt = 1 * x.toInt
  rw [Int32.toInt_toInt64]; omega
theorem un_l2i {x : Int64} {lo hi sg : Int} (q : un_r .l2i = some (lo, hi, sg)) (h1 : lo ≤ v_iv (.long x)) (h2 : v_iv (.long x) ≤ hi) : v_iv (.int x.toInt32) = sg * v_iv (.long x) := by
  cases q
  have h1_zq : (-2147483648 : Int) ≤ x.toInt := h1
  have h2_zq : x.toInt ≤ (2147483647 : Int) := h2
  show x.toInt32.toInt = 1 * x.toInt
  rw [Int64.toInt_toInt32, iv_bm (lo := -2147483648) (hi := 2147483647) (by omega) (by omega) (by omega) (by omega)]; omega
theorem un_i2b {x : Int32} {lo hi sg : Int} (q : un_r .i2b = some (lo, hi, sg)) (h1 : lo ≤ v_iv (.int x)) (h2 : v_iv (.int x) ≤ hi) : v_iv (.int x.toInt8.toInt32) = sg * v_iv (.int x) := by
  cases q
  have h1_zq : (-128 : Int) ≤ x.toInt := h1
  have h2_zq : x.toInt ≤ (127 : Int) := h2
  show x.toInt8.toInt32.toInt = 1 * x.toInt
  rw [Int8.toInt_toInt32, Int32.toInt_toInt8, show x.toInt.bmod (2 ^ 8) = x.toInt from Int.bmod_eq_of_le_mul_two (by show -(256 : Int) ≤ _; omega) (by show _ < (256 : Int); omega)]; omega
theorem un_i2b2 (x : Int32) : v_iv (.int x.toInt8.toInt32) = (v_iv (.int x) + 128) % 256 - 128 := by
  show x.toInt8.toInt32.toInt = (x.toInt + 128) % 256 - 128
  rw [Int8.toInt_toInt32, Int32.toInt_toInt8, show x.toInt.bmod (2 ^ 8) = x.toInt.bmod 256 from rfl]
  unfold Int.bmod
  simp only
  split <;> omega
theorem un_i2c {x : Int32} {lo hi sg : Int} (q : un_r .i2c = some (lo, hi, sg)) (h1 : lo ≤ v_iv (.int x)) (h2 : v_iv (.int x) ≤ hi) : v_iv (.int (x.toUInt32 % 65536).toInt32) = sg * v_iv (.int x) := by
  cases q
  have h1_zq : (0 : Int) ≤ x.toInt := h1
  have h2_zq : x.toInt ≤ (65535 : Int) := h2
  rw [pk_char]
  have e := nI_toInt (n := x.toBitVec.toNat % 65536) (by omega)
  have c := BitVec.toInt_eq_toNat_cond x.toBitVec
  have c2 : x.toInt = if 2 * x.toBitVec.toNat < 2 ^ 32 then (x.toBitVec.toNat : Int) else (x.toBitVec.toNat : Int) - ((2 ^ 32 : Nat) : Int) := c
  have c3 : x.toBitVec.toNat < 2 ^ 32 := x.toBitVec.isLt
  show (nI (x.toBitVec.toNat % 65536)).toInt = 1 * x.toInt
  split at c2 <;> omega
theorem tr_un_okX (hx : p.tables.exec = Jvm.exec) (hb : c.code = cc) (hd : decode cc pc = .ok (i, len)) (h : tr_un i len y = some y_zq) (k : sy_goX p l e R s m args below meth c H locs cells slots Q nL v0 ta ws (un_X i y) (pc + len) y_zq) : sy_go p l e R s m args below meth c H locs cells slots Q nL v0 ta ws pc y := by
  intro vs ls st hp0 hy
  unfold tr_un at h
  have hs := hy.2.2.1
  split at h
  · rename_i a r hst
    rw [hst] at hs
    split at h
    · rename_i t hta
      obtain ⟨va, rest, rfl, ha, oa, hr⟩ := sy_one hy.1 hs hta
      split at h
      · split at h
        · rename_i hk
          obtain rfl := Option.some.inj h
          obtain ⟨x, rfl, x1, x2⟩ := tv_int oa hk.1
          obtain rfl := hk.2
          exact lv_ineg hx hb hd (k _ _ _ (by first | exact hp0 | exact pre_app hp0) (un_mk hst ha hy.1.1 (fun lo hi sg q h1 h2 => un_ineg q h1 h2) trivial) (sy_pushed hy hr (iv_mk_ok (Int32.toInt_neg x) (by omega) (by omega))))
        · cases h
      · split at h
        · rename_i hk
          obtain rfl := Option.some.inj h
          obtain ⟨x, rfl, x1, x2⟩ := tv_long oa hk.1
          obtain rfl := hk.2
          exact lv_lneg hx hb hd (k _ _ _ (by first | exact hp0 | exact pre_app hp0) (un_mk hst ha hy.1.1 (fun lo hi sg q h1 h2 => un_lneg q h1 h2) trivial) (sy_pushed hy hr (lv_mk_ok (Int64.toInt_neg x) (by omega) (by omega))))
        · cases h
      · split at h
        · rename_i hk
          obtain rfl := Option.some.inj h
          obtain ⟨x, rfl, x1, x2⟩ := tv_int oa hk.1
          obtain rfl := hk.2
          exact lv_i2l hx hb hd rfl (k _ _ _ (by first | exact hp0 | exact pre_app hp0) (un_mk hst ha hy.1.1 (fun lo hi sg q h1 h2 => un_i2l q) trivial) (sy_pushed hy hr (i2l_ty x1 x2)))
        · cases h
      · split at h
        · rename_i hk
          obtain rfl := Option.some.inj h
          obtain ⟨x, rfl, x1, x2⟩ := tv_long oa hk.1
          obtain rfl := hk.2
          exact lv_l2i hx hb hd rfl (k _ _ _ (by first | exact hp0 | exact pre_app hp0) (un_mk hst ha hy.1.1 (fun lo hi sg q h1 h2 => un_l2i q h1 h2) trivial) (sy_pushed hy hr (iv_mk_ok (Int64.toInt_toInt32 x) x1 x2)))
        · cases h
      · split at h
        · rename_i hk
          obtain rfl := Option.some.inj h
          obtain ⟨x, rfl, x1, x2⟩ := tv_int oa hk.1
          obtain rfl := hk.2
          exact lv_i2b hx hb hd rfl (k _ _ _ (by first | exact hp0 | exact pre_app hp0) (un_mk hst ha hy.1.1 (fun lo hi sg q h1 h2 => un_i2b q h1 h2) (un_i2b2 _)) (sy_pushed hy hr (i2b_ty x1 x2)))
        · cases h
      · split at h
        · rename_i hk
          obtain rfl := Option.some.inj h
          obtain ⟨x, rfl, x1, x2⟩ := tv_int oa hk.1
          obtain rfl := hk.2
          exact lv_i2c hx hb hd rfl (k _ _ _ (by first | exact hp0 | exact pre_app hp0) (un_mk hst ha hy.1.1 (fun lo hi sg q h1 h2 => un_i2c q h1 h2) trivial) (sy_pushed hy hr (i2c_ty x)))
        · cases h
      · split at h
        · rename_i hk
          obtain rfl := Option.some.inj h
          obtain rfl := hk.2
          exact lv_dup hx hb hd ((tv_cat oa).2 hk.1) (k _ _ _ (by first | exact hp0 | exact pre_app hp0) (un_no rfl) (sy_stack hy (is := a :: a :: r) (st_zq := va :: va :: rest) ⟨ha, ha, hr⟩))
        · cases h
      · split at h
        · rename_i hk
          obtain rfl := Option.some.inj h
          obtain rfl := hk.2
          exact lv_pop hx hb hd ((tv_cat oa).2 hk.1) (k _ _ _ (by first | exact hp0 | exact pre_app hp0) (un_no rfl) (sy_stack hy (is := r) (st_zq := rest) hr))
        · cases h
      · split at h
        · rename_i hk
          obtain rfl := Option.some.inj h
          obtain rfl := hk.2
          exact lv_dup2_2 hx hb hd ((tv_cat oa).1 hk.1) (k _ _ _ (by first | exact hp0 | exact pre_app hp0) (un_no rfl) (sy_stack hy (is := a :: a :: r) (st_zq := va :: va :: rest) ⟨ha, ha, hr⟩))
        · cases h
      · split at h
        · rename_i hk
          obtain rfl := Option.some.inj h
          obtain rfl := hk.2
          exact lv_pop2_2 hx hb hd ((tv_cat oa).1 hk.1) (k _ _ _ (by first | exact hp0 | exact pre_app hp0) (un_no rfl) (sy_stack hy (is := r) (st_zq := rest) hr))
        · cases h
      · cases h
    · cases h
  · cases h
theorem tr_un_ok (hx : p.tables.exec = Jvm.exec) (hb : c.code = cc) (hd : decode cc pc = .ok (i, len)) (h : tr_un i len y = some y_zq) (k : sy_go p l e R s m args below meth c H locs cells slots Q nL v0 ta ws (pc + len) y_zq) : sy_go p l e R s m args below meth c H locs cells slots Q nL v0 ta ws pc y := tr_un_okX hx hb hd h k.x
def inc_X (i : ClassFile.Instr) (y : sy_T) (vs : List Value) : Prop := ∀ j n, i = .iinc j n → ∀ a, sy_find y.2.1 j = some a → ∃ x : Int32, vs[a]? = some (.int x) ∧ vs[y.1.length]? = some (.int (x + Int32.ofInt n))
theorem tr_inc_okX (hx : p.tables.exec = Jvm.exec) (hb : c.code = cc) (hd : decode cc pc = .ok (i, len)) (h : tr_inc nL i len y = some y_zq) (k : sy_goX p l e R s m args below meth c H locs cells slots Q nL v0 ta ws (inc_X i y) (pc + len) y_zq) : sy_go p l e R s m args below meth c H locs cells slots Q nL v0 ta ws pc y := by
  intro vs ls st hp0 hy
  unfold tr_inc at h
  split at h
  · rename_i j n
    split at h
    · rename_i a hf
      split at h
      · rename_i t hta
        split at h
        · rename_i hk
          obtain ⟨v, h1, h2⟩ := hy.2.1.2.2 (j, a) (sy_find_ok hf)
          obtain ⟨x, rfl, x1, x2⟩ := tv_int (hy.1.2 a t v hta h1) hk.1
          obtain rfl := hk.2.1
          have hl := lv_of_has hy.2.1
          have hl2 : lv_has ls nL ((j, .int x) :: lv_of vs y.2.1) := ⟨hl.1, hl.2.1, fun q hq => by
            rcases List.mem_cons.mp hq with rfl | hq
            · exact h2
            · exact hl.2.2 q hq⟩
          refine lv_iinc hx hb hd hl2 (k := 0) rfl rfl hk.2.2 rfl (fun ls_zq hl_zq => k (vs ++ [Value.int (x + Int32.ofInt n)]) ls_zq st (pre_app hp0) ?_ ?_)
          rotate_left
          have hv : tv_ok ta (iv_mk (t.2.1 + (Int32.ofInt n).toInt) (t.2.2.1 + (Int32.ofInt n).toInt)) (.int (x + Int32.ofInt n)) := iv_mk_ok (Int32.toInt_add _ _) (by omega) (by omega)
          have hnew : (vs ++ [Value.int (x + Int32.ofInt n)])[y.1.length]? = some (.int (x + Int32.ofInt n)) := by rw [← hy.1.1, List.getElem?_append_right (Nat.le_refl _), Nat.sub_self]; rfl
          have hz : sy_ok ta ws (vs ++ [Value.int (x + Int32.ofInt n)]) ls_zq nL st (y.1 ++ [iv_mk (t.2.1 + (Int32.ofInt n).toInt) (t.2.2.1 + (Int32.ofInt n).toInt)], (sy_sto y j 0 y.1.length y.2.2.1).2.1, y.2.2.1, y.2.2.2.1, y.2.2.2.2) := by
            refine ⟨sy_env_app hy.1 hv, ⟨hl_zq.1, hl_zq.2.1, fun q hq => ?_⟩, sy_st_app hy.2.2.1, fun q hq => ?_, fun q hq => ?_, fun q hq => ?_⟩
            · rcases List.mem_cons.mp hq with rfl | hq
              · exact ⟨_, hnew, hl_zq.2.2 _ List.mem_cons_self⟩
              · obtain ⟨hq1, hq2⟩ := List.mem_filter.mp hq
                obtain ⟨w, g1, g2⟩ := hy.2.1.2.2 q hq1
                refine ⟨w, sy_app g1, hl_zq.2.2 (q.1, w) (List.mem_cons_of_mem _ (List.mem_filter.mpr ⟨List.mem_cons_of_mem _ (lv_of_mem (n := q.2) hq1 g1), ?_⟩))⟩
                simp only [Bool.and_eq_true, Bool.not_eq_true', Bool.and_eq_false_iff, beq_eq_false_iff_ne] at hq2 ⊢
                refine ⟨hq2.1.1, ?_⟩
                rcases hq2.2 with h3 | h3
                · exact Or.inl h3
                · refine Or.inr ?_
                  obtain ⟨t_zq, h4, h5⟩ := sy_name hy.1 g1
                  have h6 : t_zq.1 ≠ 1 := by
                    unfold sy_kd at h3
                    rw [h4] at h3
                    exact h3
                  rw [(tv_cat h5).2 h6]; decide
            · obtain ⟨b1, ci, fs, w, g1, g2, g3, g4⟩ := hy.2.2.2.1 q hq; exact ⟨b1, ci, fs, w, sy_app g1, g2, g3, sy_app g4⟩
            · obtain ⟨b1, b2, g1, g2, g3⟩ := hy.2.2.2.2.1 q hq; exact ⟨b1, b2, sy_app g1, sy_app g2, g3⟩
            · obtain ⟨b1, b2, g1, g2⟩ := hy.2.2.2.2.2 q hq; exact ⟨b1, b2, sy_app g1, g2⟩
          obtain rfl := Option.some.inj h
          show sy_ok ta ws _ ls_zq nL st (if of_in (Int32.ofInt n).toInt t then _ else _)
          split
          · rename_i q
            simp only [of_in, Bool.and_eq_true, decide_eq_true_eq] at q
            have e9 : (x + Int32.ofInt n).toInt = x.toInt + (Int32.ofInt n).toInt := by rw [Int32.toInt_add, iv_bm (lo := t.2.1 + (Int32.ofInt n).toInt) (hi := t.2.2.1 + (Int32.ofInt n).toInt) (by omega) (by omega) (by omega) (by omega)]
            exact sy_off_ok hz ⟨x + Int32.ofInt n, x, hnew, sy_app h1, by rw [e9]; exact Int.le_refl _, by rw [e9]; exact Int.le_refl _⟩
          · exact hz
          · intro j_zq n_zq e_zq a_zq hf_zq
            cases e_zq
            rw [hf] at hf_zq
            cases hf_zq
            refine ⟨x, sy_app h1, ?_⟩
            rw [← hy.1.1, List.getElem?_append_right (Nat.le_refl _), Nat.sub_self]; rfl
        · cases h
      · cases h
    · cases h
  · cases h

theorem tr_inc_ok (hx : p.tables.exec = Jvm.exec) (hb : c.code = cc) (hd : decode cc pc = .ok (i, len)) (h : tr_inc nL i len y = some y_zq) (k : sy_go p l e R s m args below meth c H locs cells slots Q nL v0 ta ws (pc + len) y_zq) : sy_go p l e R s m args below meth c H locs cells slots Q nL v0 ta ws pc y := tr_inc_okX hx hb hd h k.x
end M7
end
section
variable {PQ : pq_T}
/-! what a branch tells -/
def tv_cut (t : tv_T) (lo hi : Int) : tv_T := (t.1, mx2 t.2.1 lo, mn2 t.2.2.1 hi, t.2.2.2)
def en_cut (env : List tv_T) (i : Nat) (lo hi : Int) : List tv_T := match env[i]? with
  | some t => if t.1 = 0 then env.set i (tv_cut t lo hi) else env
  | none => env
theorem mx2_le {a b x : Int} (h1 : a ≤ x) (h2 : b ≤ x) : mx2 a b ≤ x := by unfold mx2; split <;> omega
theorem mn2_ge {a b x : Int} (h1 : x ≤ a) (h2 : x ≤ b) : x ≤ mn2 a b := by unfold mn2; split <;> omega
theorem en_set_ok {ta : Nat → Option Nat} {env : List tv_T} {vs : List Value} (h : sy_env ta env vs) {i : Nat} {v : Value} (hv : vs[i]? = some v) {t : tv_T} (ht : tv_ok ta t v) : sy_env ta (env.set i t) vs := by
  refine ⟨by rw [List.length_set]; exact h.1, fun j t_zq v_zq h1 h2 => ?_⟩
  by_cases e : i = j
  · subst e
    have hlt := (List.getElem?_eq_some_iff.mp hv).1
    rw [List.getElem?_set_self (by rw [← h.1]; exact hlt)] at h1
    rw [hv] at h2
    have e1 : t = t_zq := Option.some.inj h1
    have e2 : v = v_zq := Option.some.inj h2
    rw [← e1, ← e2]; exact ht
  · rw [List.getElem?_set_ne e] at h1
    exact h.2 j t_zq v_zq h1 h2
theorem en_cut_ok {ta : Nat → Option Nat} {env : List tv_T} {vs : List Value} (h : sy_env ta env vs) {i : Nat} {x : Int32} (hv : vs[i]? = some (.int x)) {lo hi : Int} (h1 : lo ≤ x.toInt) (h2 : x.toInt ≤ hi) : sy_env ta (en_cut env i lo hi) vs := by
  unfold en_cut
  split
  · rename_i t ht
    split
    · rename_i hk
      obtain ⟨z, e, z1, z2⟩ := tv_int (h.2 i t _ ht hv) hk
      obtain rfl := Value.int.inj e
      exact en_set_ok h hv (Or.inl ⟨hk, x, rfl, mx2_le z1 h1, mn2_ge z2 h2⟩)
    · exact h
  · exact h
def of_cut (i : Nat) (lo hi : Int) (env : List tv_T) (q : of_T) : List tv_T := if q.1 = i then en_cut env q.2.1 (lo - q.2.2.2) (hi - q.2.2.1) else if q.2.1 = i then en_cut env q.1 (lo + q.2.2.1) (hi + q.2.2.2) else env
theorem of_cut_ok {ta : Nat → Option Nat} {env : List tv_T} {vs : List Value} (h : sy_env ta env vs) {i : Nat} {x : Int32} (hv : vs[i]? = some (.int x)) {lo hi : Int} (h1 : lo ≤ x.toInt) (h2 : x.toInt ≤ hi) {q : of_T} (hq : sy_ofs vs q) : sy_env ta (of_cut i lo hi env q) vs := by
  obtain ⟨a, b, e1, e2, e3, e4⟩ := hq
  unfold of_cut
  split
  · rename_i e
    rw [e, hv] at e1
    obtain rfl := Value.int.inj (Option.some.inj e1)
    exact en_cut_ok h e2 (by omega) (by omega)
  · split
    · rename_i e
      rw [e, hv] at e2
      obtain rfl := Value.int.inj (Option.some.inj e2)
      exact en_cut_ok h e1 (by omega) (by omega)
    · exact h
theorem of_cuts_ok {ta : Nat → Option Nat} {vs : List Value} {i : Nat} {x : Int32} (hv : vs[i]? = some (.int x)) {lo hi : Int} (h1 : lo ≤ x.toInt) (h2 : x.toInt ≤ hi) : ∀ (os : List of_T) (env : List tv_T), sy_env ta env vs → (∀ q ∈ os, sy_ofs vs q) → sy_env ta (os.foldl (of_cut i lo hi) env) vs
  | [], _, h, _ => h
  | q :: os, env, h, ho => of_cuts_ok hv h1 h2 os _ (of_cut_ok h hv h1 h2 (ho q List.mem_cons_self)) (fun q hq => ho q (List.mem_cons_of_mem _ hq))
def sy_cut (y : sy_T) (i : Nat) (lo hi : Int) : sy_T := match y.1[i]? with
  | some t => if t.1 = 0 then (y.2.2.2.2.1.foldl (of_cut i (mx2 t.2.1 lo) (mn2 t.2.2.1 hi)) (en_cut y.1 i lo hi), y.2) else y
  | none => y
theorem sy_cut_ok {ta : Nat → Option Nat} {ws : va_W} {vs : List Value} {ls : Array Slot} {nL : Nat} {st : List Value} {y : sy_T} (h : sy_ok ta ws vs ls nL st y) {i : Nat} {x : Int32} (hv : vs[i]? = some (.int x)) {lo hi : Int} (h1 : lo ≤ x.toInt) (h2 : x.toInt ≤ hi) : sy_ok ta ws vs ls nL st (sy_cut y i lo hi) := by
  unfold sy_cut
  split
  · rename_i t ht
    split
    · rename_i hk
      obtain ⟨z, e, z1, z2⟩ := tv_int (h.1.2 i t _ ht hv) hk
      obtain rfl := Value.int.inj e
      exact ⟨of_cuts_ok hv (mx2_le z1 h1) (mn2_ge z2 h2) _ _ (en_cut_ok h.1 hv h1 h2) h.2.2.2.2.1, h.2⟩
    · exact h
  · exact h
/-- a name with no value -/
def sy_bot (y : sy_T) (i : Nat) : Bool := match y.1[i]? with
  | some t => decide (t.1 = 0) && decide (t.2.2.1 < t.2.1)
  | none => false
theorem sy_bot_ok {ta : Nat → Option Nat} {ws : va_W} {vs : List Value} {ls : Array Slot} {nL : Nat} {st : List Value} {y : sy_T} (h : sy_ok ta ws vs ls nL st y) {i : Nat} (hb : sy_bot y i = true) : False := by
  unfold sy_bot at hb
  split at hb
  · rename_i t ht
    simp only [Bool.and_eq_true, decide_eq_true_eq] at hb
    have hlt := (List.getElem?_eq_some_iff.mp ht).1
    rw [← h.1.1] at hlt
    obtain ⟨x, _, a, b⟩ := tv_int (h.1.2 i t _ ht (List.getElem?_eq_getElem hlt)) hb.1
    omega
  · cases hb
def cn_ok (q : ClassFile.Cond) (x y : Int) : Prop := match q with
  | .eq => x = y
  | .ne => x ≠ y
  | .lt => x < y
  | .ge => y ≤ x
  | .gt => y < x
  | .le => x ≤ y
def cn_neg (q : ClassFile.Cond) : ClassFile.Cond := match q with
  | .eq => .ne
  | .ne => .eq
  | .lt => .ge
  | .ge => .lt
  | .gt => .le
  | .le => .gt
def BIG : Int := 1000000000000
/-- bounds of the left one, then of the right one -/
def cn_lo (q : ClassFile.Cond) (t u : tv_T) : Int := match q with
  | .eq => u.2.1
  | .ne => if t.2.1 = u.2.1 ∧ u.2.1 = u.2.2.1 then t.2.1 + 1 else -BIG
  | .ge => u.2.1
  | .gt => u.2.1 + 1
  | _ => -BIG
def cn_hi (q : ClassFile.Cond) (t u : tv_T) : Int := match q with
  | .eq => u.2.2.1
  | .ne => if t.2.2.1 = u.2.1 ∧ u.2.1 = u.2.2.1 then t.2.2.1 - 1 else BIG
  | .lt => u.2.2.1 - 1
  | .le => u.2.2.1
  | _ => BIG
def cn_flip (q : ClassFile.Cond) : ClassFile.Cond := match q with
  | .eq => .eq
  | .ne => .ne
  | .lt => .gt
  | .ge => .le
  | .gt => .lt
  | .le => .ge
theorem cn_flip_ok {q : ClassFile.Cond} {x y : Int} (h : cn_ok q x y) : cn_ok (cn_flip q) y x := by
  cases q <;> simp only [cn_ok, cn_flip] at h ⊢ <;> omega
theorem cn_lo_ok {q : ClassFile.Cond} {t u : tv_T} {x y : Int32} (h : cn_ok q x.toInt y.toInt) (h1 : t.2.1 ≤ x.toInt) (h2 : x.toInt ≤ t.2.2.1) (h3 : u.2.1 ≤ y.toInt) (h4 : y.toInt ≤ u.2.2.1) : cn_lo q t u ≤ x.toInt ∧ x.toInt ≤ cn_hi q t u := by
  have a := x.le_toInt
  have b := x.toInt_lt
  cases q <;> simp only [cn_ok, cn_lo, cn_hi, BIG] at h ⊢
  · omega
  · constructor <;> split <;> omega
  · omega
  · omega
  · omega
  · omega
def cn_d (q : ClassFile.Cond) : Int × Int := match q with
  | .eq => (0, 0)
  | .ne => (-BIG, BIG)
  | .lt => (-BIG, -1)
  | .ge => (0, BIG)
  | .gt => (1, BIG)
  | .le => (-BIG, 0)
def sy_rel (q : ClassFile.Cond) (y : sy_T) (a b : Nat) (t u : tv_T) : sy_T := match q with
  | .ne => y
  | q => if isK t || isK u then y else (y.1, y.2.1, y.2.2.1, y.2.2.2.1, (a, b, (cn_d q).1, (cn_d q).2) :: y.2.2.2.2.1, y.2.2.2.2.2)
theorem sy_rel_ok {ta : Nat → Option Nat} {ws : va_W} {vs : List Value} {ls : Array Slot} {nL : Nat} {st : List Value} {y : sy_T} (h : sy_ok ta ws vs ls nL st y) {a b : Nat} {x z : Int32} {t u : tv_T} {q : ClassFile.Cond} (ha : vs[a]? = some (.int x)) (hb : vs[b]? = some (.int z)) (hq : cn_ok q x.toInt z.toInt) : sy_ok ta ws vs ls nL st (sy_rel q y a b t u) := by
  have a1 := x.le_toInt
  have a2 := x.toInt_lt
  have a3 := z.le_toInt
  have a4 := z.toInt_lt
  have key : z.toInt + (cn_d q).1 ≤ x.toInt ∧ x.toInt ≤ z.toInt + (cn_d q).2 := by
    cases q <;> simp only [cn_ok, cn_d, BIG] at hq ⊢ <;> omega
  unfold sy_rel
  split
  · exact h
  · split
    · exact h
    · refine ⟨h.1, h.2.1, h.2.2.1, h.2.2.2.1, fun w hw => ?_, h.2.2.2.2.2⟩
      rcases List.mem_cons.mp hw with rfl | hw
      · exact ⟨x, z, ha, hb, key.1, key.2⟩
      · exact h.2.2.2.2.1 w hw
def sy_cmp (q : ClassFile.Cond) (y : sy_T) (a b : Nat) (t u : tv_T) : sy_T := sy_rel q (sy_cut (sy_cut y a (cn_lo q t u) (cn_hi q t u)) b (cn_lo (cn_flip q) u t) (cn_hi (cn_flip q) u t)) a b t u
theorem sy_cmp_ok {ta : Nat → Option Nat} {ws : va_W} {vs : List Value} {ls : Array Slot} {nL : Nat} {st : List Value} {y : sy_T} (h : sy_ok ta ws vs ls nL st y) {a b : Nat} {x z : Int32} {t u : tv_T} {q : ClassFile.Cond} (ha : vs[a]? = some (.int x)) (hb : vs[b]? = some (.int z)) (hq : cn_ok q x.toInt z.toInt) (h1 : t.2.1 ≤ x.toInt) (h2 : x.toInt ≤ t.2.2.1) (h3 : u.2.1 ≤ z.toInt) (h4 : z.toInt ≤ u.2.2.1) : sy_ok ta ws vs ls nL st (sy_cmp q y a b t u) := by
  have e1 := cn_lo_ok hq h1 h2 h3 h4
  have e2 := cn_lo_ok (cn_flip_ok hq) h3 h4 h1 h2
  exact sy_rel_ok (sy_cut_ok (sy_cut_ok h ha e1.1 e1.2) hb e2.1 e2.2) ha hb hq
def sy_at (y : sy_T) (r : List Nat) : sy_T := (y.1, y.2.1, r, y.2.2.2.1, y.2.2.2.2)
def zr_T : tv_T := (0, 0, 0, [])
/-- the number of a condition -/
def cn_c (q : ClassFile.Cond) : Int := match q with
  | .eq => 0
  | .ne => 1
  | .lt => 2
  | .ge => 3
  | .gt => 4
  | .le => 5
theorem cq_of {q : ClassFile.Cond} {x y : Int} (h : cn_ok q x y) : cq (cn_c q) x y := by cases q <;> exact h
def br_X (PQ : pq_T) (L : List fc_T) (vs : List Value) : Prop := ∀ f ∈ L, f.1 < 100 ∧ ∀ ws, fc_1 PQ f ws vs
theorem br_nil {vs : List Value} : br_X PQ [] vs := fun f hf => by cases hf
theorem n_v_of {vs : List Value} {n : Nat} {v : Value} (h : vs[n]? = some v) : n_v vs n = v := by unfold n_v; rw [h]; rfl
theorem n_iv_of {vs : List Value} {n : Nat} {x : Int32} (h : vs[n]? = some (.int x)) : n_iv vs n = x.toInt := by unfold n_iv; rw [n_v_of h]; rfl
theorem n_lt {vs : List Value} {n : Nat} {v : Value} (h : vs[n]? = some v) : n < vs.length := (List.getElem?_eq_some_iff.mp h).1
theorem br_7 {vs : List Value} {a b : Nat} {x z : Int32} {q : ClassFile.Cond} (ha : vs[a]? = some (.int x)) (hb : vs[b]? = some (.int z)) (h : cn_ok q x.toInt z.toInt) : br_X PQ [(7, [a, b], [cn_c q])] vs := fun f hf => by
  obtain rfl := List.mem_singleton.mp hf
  refine ⟨by simp, fun ws => ⟨fun n hn => ?_, ?_⟩⟩
  · rcases List.mem_cons.mp hn with rfl | hn
    · exact n_lt ha
    · obtain rfl := List.mem_singleton.mp hn; exact n_lt hb
  · show cq (cn_c q) (n_iv vs a) (n_iv vs b)
    rw [n_iv_of ha, n_iv_of hb]; exact cq_of h
theorem br_8 {vs : List Value} {a : Nat} {x : Int32} {q : ClassFile.Cond} (ha : vs[a]? = some (.int x)) (h : cn_ok q x.toInt 0) : br_X PQ [(8, [a], [cn_c q])] vs := fun f hf => by
  obtain rfl := List.mem_singleton.mp hf
  refine ⟨by simp, fun ws => ⟨fun n hn => ?_, ?_⟩⟩
  · obtain rfl := List.mem_singleton.mp hn; exact n_lt ha
  · show cq (cn_c q) (n_iv vs a) 0
    rw [n_iv_of ha]; exact cq_of h
/-- the ways on from a jump -/
def br_next (pc : Nat) (i : ClassFile.Instr) (len : Nat) (y : sy_T) : Option (List (Nat × sy_T × List fc_T)) := match i with
  | .goto off => if len = 3 ∧ 0 ≤ (pc : Int) + off then some [(((pc : Int) + off).toNat, y, [])] else none
  | .if_icmp q off => match y.2.2.1 with
    | b :: a :: r => match y.1[a]?, y.1[b]? with
      | some t, some u => if t.1 = 0 ∧ u.1 = 0 ∧ len = 3 ∧ 0 ≤ (pc : Int) + off then
          (let y1 := sy_cmp q (sy_at y r) a b t u
           let y2 := sy_cmp (cn_neg q) (sy_at y r) a b t u
           some ((if sy_bot y1 a || sy_bot y1 b then [] else [(((pc : Int) + off).toNat, y1, [(7, [a, b], [cn_c q])])]) ++ (if sy_bot y2 a || sy_bot y2 b then [] else [(pc + 3, y2, [(7, [a, b], [cn_c (cn_neg q)])])]))) else none
      | _, _ => none
    | _ => none
  | .ifCond q off => match y.2.2.1 with
    | a :: r => match y.1[a]? with
      | some t => if t.1 = 0 ∧ len = 3 ∧ 0 ≤ (pc : Int) + off then
          (let y1 := sy_cut (sy_at y r) a (cn_lo q t zr_T) (cn_hi q t zr_T)
           let y2 := sy_cut (sy_at y r) a (cn_lo (cn_neg q) t zr_T) (cn_hi (cn_neg q) t zr_T)
           some ((if sy_bot y1 a then [] else [(((pc : Int) + off).toNat, y1, [(8, [a], [cn_c q])])]) ++ (if sy_bot y2 a then [] else [(pc + 3, y2, [(8, [a], [cn_c (cn_neg q)])])]))) else none
      | none => none
    | _ => none
  | .ifnull off => match y.2.2.1 with
    | a :: r => match y.1[a]? with
      | some t => if t.1 = 2 ∧ len = 3 then some [(pc + 3, sy_at y r, [])] else if t.1 = 3 ∧ len = 3 ∧ 0 ≤ (pc : Int) + off then some [(((pc : Int) + off).toNat, sy_at y r, []), (pc + 3, (y.1.set a (2, t.2), y.2.1, r, y.2.2.2), [])] else none
      | none => none
    | _ => none
  | .ifnonnull off => match y.2.2.1 with
    | a :: r => match y.1[a]? with
      | some t => if t.1 = 2 ∧ len = 3 ∧ 0 ≤ (pc : Int) + off then some [(((pc : Int) + off).toNat, sy_at y r, [])] else if t.1 = 3 ∧ len = 3 ∧ 0 ≤ (pc : Int) + off then some [(pc + 3, sy_at y r, []), (((pc : Int) + off).toNat, (y.1.set a (2, t.2), y.2.1, r, y.2.2.2), [])] else none
      | none => none
    | _ => none
  | _ => none
section M8
variable {p : Program} {l : Launch} {e : Env} {R : Room} {s : State} {m : MethodId} {args : Array Value} {below : List Frame} {meth : Method} {c : Code} {H : Heap} {locs : List Loc} {cells slots : Nat} {Q : State → Prop} {cc : ByteArray} {pc : Nat} {i : ClassFile.Instr} {len nL : Nat} {v0 : List Value} {ta : Nat → Option Nat} {ws : va_W} {y : sy_T} {ls : Array Slot} {rest : List Value}
theorem i32_lt {x y : Int32} : x < y ↔ x.toInt < y.toInt := Int32.lt_iff_toInt_lt
theorem i32_le {x y : Int32} : x ≤ y ↔ x.toInt ≤ y.toInt := Int32.le_iff_toInt_le
theorem i32_eq {x y : Int32} : x = y ↔ x.toInt = y.toInt := Int32.toInt_inj.symm
theorem br2_go (hx : p.tables.exec = Jvm.exec) (hb : c.code = cc) {q : ClassFile.Cond} {off : Int} (hd : decode cc pc = .ok (.if_icmp q off, 3)) (ht : 0 ≤ (pc : Int) + off) {x y : Int32} (k1 : cn_ok q x.toInt y.toInt → W p l e R s m args below meth c H locs cells slots Q (F0 m ((pc : Int) + off).toNat ls rest)) (k2 : cn_ok (cn_neg q) x.toInt y.toInt → W p l e R s m args below meth c H locs cells slots Q (F0 m (pc + 3) ls rest)) : W p l e R s m args below meth c H locs cells slots Q (F0 m pc ls (.int y :: .int x :: rest)) := by
  have ht2 : (pc : Int) + off = ((((pc : Int) + off).toNat : Nat) : Int) := by omega
  cases q <;> simp only [cn_ok, cn_neg] at k1 k2
  · exact lv_icmp_eq hx hb hd ht2 (fun h => k1 (i32_eq.mp h)) (fun h => k2 (fun h2 => h (i32_eq.mpr h2)))
  · exact lv_icmp_ne hx hb hd ht2 (fun h => k1 (fun h2 => h (i32_eq.mpr h2))) (fun h => k2 (i32_eq.mp h))
  · exact lv_icmp_lt hx hb hd ht2 (fun h => k1 (i32_lt.mp h)) (fun h => k2 (by have := (not_congr i32_lt).mp h; omega))
  · exact lv_icmp_ge hx hb hd ht2 (fun h => k1 (i32_le.mp h)) (fun h => k2 (by have := (not_congr i32_le).mp h; omega))
  · exact lv_icmp_gt hx hb hd ht2 (fun h => k1 (i32_lt.mp h)) (fun h => k2 (by have := (not_congr i32_lt).mp h; omega))
  · exact lv_icmp_le hx hb hd ht2 (fun h => k1 (i32_le.mp h)) (fun h => k2 (by have := (not_congr i32_le).mp h; omega))
theorem br1_go (hx : p.tables.exec = Jvm.exec) (hb : c.code = cc) {q : ClassFile.Cond} {off : Int} (hd : decode cc pc = .ok (.ifCond q off, 3)) (ht : 0 ≤ (pc : Int) + off) {x : Int32} (k1 : cn_ok q x.toInt 0 → W p l e R s m args below meth c H locs cells slots Q (F0 m ((pc : Int) + off).toNat ls rest)) (k2 : cn_ok (cn_neg q) x.toInt 0 → W p l e R s m args below meth c H locs cells slots Q (F0 m (pc + 3) ls rest)) : W p l e R s m args below meth c H locs cells slots Q (F0 m pc ls (.int x :: rest)) := by
  have ht2 : (pc : Int) + off = ((((pc : Int) + off).toNat : Nat) : Int) := by omega
  have z : (0 : Int32).toInt = 0 := by decide
  cases q <;> simp only [cn_ok, cn_neg] at k1 k2
  · exact lv_if_eq hx hb hd ht2 (fun h => k1 (by rw [h]; exact z)) (fun h => k2 (fun h2 => h (i32_eq.mpr (h2.trans z.symm))))
  · exact lv_if_ne hx hb hd ht2 (fun h => k1 (fun h2 => h (i32_eq.mpr (h2.trans z.symm)))) (fun h => k2 ((i32_eq.mp h).trans z))
  · exact lv_if_lt hx hb hd ht2 (fun h => k1 (by have := i32_lt.mp h; omega)) (fun h => k2 (by have := (not_congr i32_lt).mp h; omega))
  · exact lv_if_ge hx hb hd ht2 (fun h => k1 (by have := i32_le.mp h; omega)) (fun h => k2 (by have := (not_congr i32_le).mp h; omega))
  · exact lv_if_gt hx hb hd ht2 (fun h => k1 (by have := i32_lt.mp h; omega)) (fun h => k2 (by have := (not_congr i32_lt).mp h; omega))
  · exact lv_if_le hx hb hd ht2 (fun h => k1 (by have := i32_le.mp h; omega)) (fun h => k2 (by have := (not_congr i32_le).mp h; omega))
theorem sy_refd {vs : List Value} {st : List Value} {a : Nat} {t : tv_T} {r : List Nat} (hy : sy_ok ta ws vs ls nL st y) (hs : sy_st vs r rest) {v : Value} (ha : vs[a]? = some v) (hv : tv_ok ta (2, t.2) v) : sy_ok ta ws vs ls nL rest (y.1.set a (2, t.2), y.2.1, r, y.2.2.2) := ⟨en_set_ok hy.1 ha hv, hy.2.1, hs, hy.2.2.2⟩
theorem br_next_ok (hx : p.tables.exec = Jvm.exec) (hb : c.code = cc) (hd : decode cc pc = .ok (i, len)) {L : List (Nat × sy_T × List fc_T)} (h : br_next pc i len y = some L) (k : ∀ q ∈ L, sy_goX p l e R s m args below meth c H locs cells slots Q nL v0 ta ws (br_X PQ q.2.2) q.1 q.2.1) : sy_go p l e R s m args below meth c H locs cells slots Q nL v0 ta ws pc y := by
  intro vs ls st hp0 hy
  unfold br_next at h
  have hs := hy.2.2.1
  split at h
  · split at h
    · rename_i hk
      obtain rfl := Option.some.inj h
      obtain rfl := hk.1
      exact lv_goto hx hb hd (by omega) (k _ List.mem_cons_self _ _ _ hp0 br_nil hy)
    · cases h
  · split at h
    · rename_i b a r hst
      rw [hst] at hs
      split at h
      · rename_i t u hta hub
        obtain ⟨va, vb, rest, rfl, ha, hb2, oa, ob, hr⟩ := sy_two hy.1 hs hta hub
        split at h
        · rename_i hk
          obtain rfl := Option.some.inj h
          obtain rfl := hk.2.2.1
          obtain ⟨x, rfl, x1, x2⟩ := tv_int oa hk.1
          obtain ⟨z, rfl, z1, z2⟩ := tv_int ob hk.2.1
          have hy0 : sy_ok ta ws vs ls nL rest (sy_at y r) := sy_stack hy hr
          refine br2_go hx hb hd hk.2.2.2 (fun hc => ?_) (fun hc => ?_)
          · have h1 := sy_cmp_ok hy0 ha hb2 hc x1 x2 z1 z2
            refine k (_, _, _) (List.mem_append_left _ ?_) _ _ _ hp0 (br_7 ha hb2 hc) h1
            split
            · rename_i hbt
              rcases Bool.or_eq_true_iff.mp hbt with hbt | hbt
              · exact (sy_bot_ok h1 hbt).elim
              · exact (sy_bot_ok h1 hbt).elim
            · exact List.mem_cons_self
          · have h1 := sy_cmp_ok hy0 ha hb2 hc x1 x2 z1 z2
            refine k (_, _, _) (List.mem_append_right _ ?_) _ _ _ hp0 (br_7 ha hb2 hc) h1
            split
            · rename_i hbt
              rcases Bool.or_eq_true_iff.mp hbt with hbt | hbt
              · exact (sy_bot_ok h1 hbt).elim
              · exact (sy_bot_ok h1 hbt).elim
            · exact List.mem_cons_self
        · cases h
      · cases h
    · cases h
  · split at h
    · rename_i a r hst
      rw [hst] at hs
      split at h
      · rename_i t hta
        obtain ⟨va, rest, rfl, ha, oa, hr⟩ := sy_one hy.1 hs hta
        split at h
        · rename_i hk
          obtain rfl := Option.some.inj h
          obtain rfl := hk.2.1
          obtain ⟨x, rfl, x1, x2⟩ := tv_int oa hk.1
          have hy0 : sy_ok ta ws vs ls nL rest (sy_at y r) := sy_stack hy hr
          have z0 : (0 : Int32).toInt = 0 := by decide
          refine br1_go hx hb hd hk.2.2 (fun hc => ?_) (fun hc => ?_)
          · have e1 := cn_lo_ok (u := zr_T) (y := 0) (by rw [z0]; exact hc) x1 x2 (by decide) (by decide)
            have h1 := sy_cut_ok hy0 ha e1.1 e1.2
            refine k (_, _, _) (List.mem_append_left _ ?_) _ _ _ hp0 (br_8 ha hc) h1
            split
            · rename_i hbt; exact (sy_bot_ok h1 hbt).elim
            · exact List.mem_cons_self
          · have e1 := cn_lo_ok (u := zr_T) (y := 0) (by rw [z0]; exact hc) x1 x2 (by decide) (by decide)
            have h1 := sy_cut_ok hy0 ha e1.1 e1.2
            refine k (_, _, _) (List.mem_append_right _ ?_) _ _ _ hp0 (br_8 ha hc) h1
            split
            · rename_i hbt; exact (sy_bot_ok h1 hbt).elim
            · exact List.mem_cons_self
        · cases h
      · cases h
    · cases h
  · split at h
    · rename_i a r hst
      rw [hst] at hs
      split at h
      · rename_i t hta
        obtain ⟨va, rest, rfl, ha, oa, hr⟩ := sy_one hy.1 hs hta
        split at h
        · rename_i hk
          obtain rfl := Option.some.inj h
          obtain rfl := hk.2
          obtain ⟨x, _, rfl, _⟩ := tv_ref oa hk.1
          exact lv_ifnull hx hb hd (k _ List.mem_cons_self _ _ _ hp0 br_nil (sy_stack hy hr))
        · split at h
          · rename_i hk
            obtain rfl := Option.some.inj h
            obtain rfl := hk.2.1
            rcases tv_nref oa hk.1 with rfl | ⟨x, r1, rfl, h1, h2⟩
            · exact lv_ifnullN hx hb hd (by omega) (k _ List.mem_cons_self _ _ _ hp0 br_nil (sy_stack hy hr))
            · exact lv_ifnull hx hb hd (k _ (List.mem_cons_of_mem _ List.mem_cons_self) _ _ _ hp0 br_nil (sy_refd hy hr ha (Or.inr (Or.inr (Or.inl ⟨rfl, x, r1, rfl, h1, h2⟩)))))
          · cases h
      · cases h
    · cases h
  · split at h
    · rename_i a r hst
      rw [hst] at hs
      split at h
      · rename_i t hta
        obtain ⟨va, rest, rfl, ha, oa, hr⟩ := sy_one hy.1 hs hta
        split at h
        · rename_i hk
          obtain rfl := Option.some.inj h
          obtain rfl := hk.2.1
          obtain ⟨x, _, rfl, _⟩ := tv_ref oa hk.1
          exact lv_ifnonnull hx hb hd (by omega) (k _ List.mem_cons_self _ _ _ hp0 br_nil (sy_stack hy hr))
        · split at h
          · rename_i hk
            obtain rfl := Option.some.inj h
            obtain rfl := hk.2.1
            rcases tv_nref oa hk.1 with rfl | ⟨x, r1, rfl, h1, h2⟩
            · exact lv_ifnonnullN hx hb hd (k _ List.mem_cons_self _ _ _ hp0 br_nil (sy_stack hy hr))
            · exact lv_ifnonnull hx hb hd (by omega) (k _ (List.mem_cons_of_mem _ List.mem_cons_self) _ _ _ hp0 br_nil (sy_refd hy hr ha (Or.inr (Or.inr (Or.inl ⟨rfl, x, r1, rfl, h1, h2⟩)))))
          · cases h
      · cases h
    · cases h
  · cases h
end M8
end
