def ro_txt : List (List Int32) := [[110, 111, 100, 101], [103, 114, 111, 117, 112], [115, 105, 122, 101], [119, 101, 105, 103, 104, 116], [100, 101, 103, 32, 105, 110, 32, 111, 117, 116, 32, 115, 105, 122, 101, 32, 103, 114, 111, 117, 112, 32, 102, 97, 114, 32, 99, 111, 114, 101, 32, 99, 117, 116, 32, 120, 32, 121, 32], [58, 61, 44, 59, 123, 125, 60, 62, 43, 45, 42, 47, 40, 41], [110, 111, 100, 101, 32, 101, 100, 103, 101, 32], [119, 101, 105, 103, 104, 116, 32, 116, 117, 114, 110, 101, 100, 32, 98, 114, 105, 100, 103, 101, 32, 102, 114, 111, 109, 32, 116, 111, 32, 98, 108, 111, 99, 107, 32, 108, 111, 110, 103, 32, 111, 110, 101, 32], [105, 102, 32], [110, 111, 116, 32], [97, 110, 100, 32], [111, 114, 32], [99, 111, 108, 111, 114, 32, 119, 105, 100, 116, 104, 32, 102, 111, 114, 109, 32], [110, 111, 100, 101, 32], [32, 91, 115, 105, 122, 101, 61], [59, 10], [103, 114, 111, 117, 112, 32], [32, 123, 10], [125, 10], [32, 62, 32], [32, 45, 32], [32, 91, 119, 101, 105, 103, 104, 116, 61], [101, 100, 103, 101], [105, 102], [110, 111, 116], [100, 101, 103], [105, 110], [111, 117, 116], [102, 97, 114], [99, 111, 114, 101], [99, 117, 116], [120], [121], [116, 117, 114, 110, 101, 100], [98, 114, 105, 100, 103, 101], [102, 114, 111, 109], [116, 111], [98, 108, 111, 99, 107], [108, 111, 110, 103], [111, 110, 101], [97, 110, 100], [111, 114], [99, 111, 108, 111, 114], [119, 105, 100, 116, 104], [102, 111, 114, 109], [93]]
def ro_tab : List (String × Nat × String × Nat) := [("DrawingHouse$Reader", 93, "node", 0), ("DrawingHouse$Reader", 99, "group", 1), ("DrawingHouse$Reader", 130, "size", 2), ("DrawingHouse$Reader", 166, "weight", 3), ("DrawingHouse$Styler", 40, "deg in out size group far core cut x y ", 4), ("DrawingHouse$Styler", 92, ":=,;{}<>+-*/()", 5), ("DrawingHouse$Styler", 112, "node edge ", 6), ("DrawingHouse$Styler", 121, "weight turned bridge from to block long one ", 7), ("DrawingHouse$Styler", 123, "if ", 8), ("DrawingHouse$Styler", 150, "not ", 9), ("DrawingHouse$Styler", 148, "and ", 10), ("DrawingHouse$Styler", 143, "or ", 11), ("DrawingHouse$Styler", 135, "color width form ", 12), ("DrawingHouse", 459, "node ", 13), ("DrawingHouse", 469, " [size=", 14), ("DrawingHouse", 474, ";\n", 15), ("DrawingHouse", 476, "group ", 16), ("DrawingHouse", 478, " {\n", 17), ("DrawingHouse", 480, "}\n", 18), ("DrawingHouse", 482, " > ", 19), ("DrawingHouse", 484, " - ", 20), ("DrawingHouse", 486, " [weight=", 21), ("DrawingHouseModel", 467, "node", 0), ("DrawingHouseModel", 473, "group", 1), ("DrawingHouseModel", 497, "size", 2), ("DrawingHouseModel", 519, "weight", 3), ("DrawingHouseModel", 1193, "edge", 22), ("DrawingHouseModel", 1198, "if", 23), ("DrawingHouseModel", 1230, "not", 24), ("DrawingHouseModel", 1254, "deg", 25), ("DrawingHouseModel", 1256, "in", 26), ("DrawingHouseModel", 1257, "out", 27), ("DrawingHouseModel", 1259, "far", 28), ("DrawingHouseModel", 1261, "core", 29), ("DrawingHouseModel", 1262, "cut", 30), ("DrawingHouseModel", 1263, "x", 31), ("DrawingHouseModel", 1265, "y", 32), ("DrawingHouseModel", 1267, "turned", 33), ("DrawingHouseModel", 1268, "bridge", 34), ("DrawingHouseModel", 1270, "from", 35), ("DrawingHouseModel", 1271, "to", 36), ("DrawingHouseModel", 1272, "block", 37), ("DrawingHouseModel", 1274, "long", 38), ("DrawingHouseModel", 1276, "one", 39), ("DrawingHouseModel", 1228, "and", 40), ("DrawingHouseModel", 1223, "or", 41), ("DrawingHouseModel", 1206, "color", 42), ("DrawingHouseModel", 1208, "width", 43), ("DrawingHouseModel", 1210, "form", 44), ("DrawingHouseModel", 1288, "node ", 13), ("DrawingHouseModel", 1296, " [size=", 14), ("DrawingHouseModel", 1301, "]", 45), ("DrawingHouseModel", 1303, ";\n", 15), ("DrawingHouseModel", 1305, "group ", 16), ("DrawingHouseModel", 1307, " {\n", 17), ("DrawingHouseModel", 1312, "}\n", 18), ("DrawingHouseModel", 1314, " > ", 19), ("DrawingHouseModel", 1316, " - ", 20), ("DrawingHouseModel", 1318, " [weight=", 21)]
def ro_N : Nat := 46
def ro_id (r : Nat) : Bool := (decide (5000 ≤ r) && decide (r < 5046)) || (decide (5200 ≤ r) && decide (r < 5246)) || decide (r = 5400) || decide (r = 5401) || decide (r = 5500)
def ro_cnt : List Int32 := [1, 1, 2, 6, 24, 120, 720]
def ro_sta : List Int32 := [0, 0, 1, 3, 9, 33, 153]
/-! things that never change: String constants, their bytes, static rows of ints; where they lie: kA of 5000 on (Strings), 5200 on (their bytes), 5400 and 5401 -/
def ro_S (kA : Nat → ClassId) (A : Nat → Prop) (U : State) (i : Nat) : Prop :=
  va_O "java/lang/String" (kA (5000 + i)) A U U.heap ∧ va_OF "java/lang/String" "coder" "B" (.int 0) (kA (5000 + i)) A U U.heap ∧ va_OF "java/lang/String" "value" "[B" (.ref (kA (5200 + i))) (kA (5000 + i)) A U U.heap ∧ va_T .byte (kA (5200 + i)) (ro_txt.getD i []).length (fun j => .int ((ro_txt.getD i []).getD j 0)) A U U.heap
def ro (kA : Nat → ClassId) (A : Nat → Prop) (U : State) : Prop :=
  (∀ r, ro_id r = true → ¬ A (kA r)) ∧ (∀ i, i < ro_N → ro_S kA A U i) ∧ (∀ q ∈ ro_tab, vk_R q.1 q.2.1 q.2.2.1 (kA (5000 + q.2.2.2)) U) ∧ va_Z "java/lang/String" "COMPACT_STRINGS" "Z" (.int 1) A U U.heap ∧
  (va_Z "DrawingHouse" "ORDER_COUNTS" "[I" (.ref (kA 5400)) A U U.heap ∧ va_T .int (kA 5400) 7 (fun j => .int (ro_cnt.getD j 0)) A U U.heap) ∧ va_Z "DrawingHouse" "ORDER_STARTS" "[I" (.ref (kA 5401)) A U U.heap ∧ va_T .int (kA 5401) 7 (fun j => .int (ro_sta.getD j 0)) A U U.heap ∧ ∃ v : Value, (v = .null ∨ v = .ref (kA 5500)) ∧ va_Z "jdk/internal/util/Preconditions" "SIOOBE_FORMATTER" "Ljava/util/function/BiFunction;" v A U U.heap
theorem ro_go {kA : Nat → ClassId} {A B : Nat → Prop} {s U : State} {locs : List Loc} (h : ro kA A s) (hW : s.WarmedH U.vm) (hS : va_S A s.heap U.heap locs) (hAB : ∀ q, B q → A q) : ro kA B U := by
  have hq := hS.2.1
  have hv := hW.alike
  obtain ⟨h1, h2, h3, h4, ⟨h5, h6⟩, h7, h8, v9, u9, h9⟩ := h
  refine ⟨fun r hr hb => h1 r hr (hAB _ hb), fun i hi => ?_, fun q hq2 => vk_R.warm hW (h3 q hq2), ((h4.kept hq).moved hv).narrow hAB, ⟨((h5.kept hq).moved hv).narrow hAB, ((h6.kept hq).moved hv).narrow hAB⟩, ((h7.kept hq).moved hv).narrow hAB, ((h8.kept hq).moved hv).narrow hAB, v9, u9, ((h9.kept hq).moved hv).narrow hAB⟩
  obtain ⟨a, b, d, e⟩ := h2 i hi
  exact ⟨((a.kept hq).moved hv).narrow hAB, ((b.kept hq).moved hv).narrow hAB, ((d.kept hq).moved hv).narrow hAB, ((e.kept hq).moved hv).narrow hAB⟩
theorem ro_vm {kA : Nat → ClassId} {A : Nat → Prop} {s U : State} (h : ro kA A s) (e1 : U.vm = s.vm) (e2 : U.heap = s.heap) : ro kA A U := by
  have hv : s.vm.Alike U.vm := by rw [e1]; exact Vm.Alike.refl _
  obtain ⟨h1, h2, h3, h4, ⟨h5, h6⟩, h7, h8, v9, u9, h9⟩ := h
  rw [← e2] at h4 h5 h6 h7 h8 h9
  refine ⟨h1, fun i hi => ?_, fun q hq2 => vk_R.same e1 (h3 q hq2), h4.moved hv, ⟨h5.moved hv, h6.moved hv⟩, h7.moved hv, h8.moved hv, v9, u9, h9.moved hv⟩
  obtain ⟨a, b, d, e⟩ := h2 i hi
  rw [← e2] at a b d e
  exact ⟨a.moved hv, b.moved hv, d.moved hv, e.moved hv⟩
/-- what rides in every contract -/
def nsr (kA : Nat → ClassId) (A : Nat → Prop) (s : State) : Prop := nst s ∧ ro kA A s
def wpr (kA : Nat → ClassId) (D : va_G) (sz : Nat) (ws : va_W) (U : State) : Prop := wp D classes (TY kA) sz ws U ∧ ro kA (va_A ws sz) U
theorem wpr_blind {kA : Nat → ClassId} {D : va_G} {sz : Nat} {ws : va_W} {av : List Value} : FrameBlind (va_Pc av (wpr kA D sz ws)) :=
  fun a U g mk q => by
    obtain ⟨q0, q1, q2⟩ := q
    have h := wp_blind (av := av) a U g mk ⟨q0, q1⟩
    exact ⟨h.1, h.2, ro_vm (s := U) (U := U.calling g mk a) q2 rfl rfl⟩
section RO
variable {p : Program} {l : Launch} {e : Env} {R : Room} {s : State} {m : MethodId} {args : Array Value} {below : List Frame} {meth : Method} {c : Code} {H : Heap} {locs : List Loc} {cells slots : Nat} {Q : State → Prop} {cc : ByteArray} {pc : Nat} {ls : Array Slot} {rest : List Value}
theorem va_ldcwS (hexec : p.tables.exec = Jvm.exec) (hb : c.code = cc) {own tx : String} {index q : Nat} (hown : s.vm.findClass own = some m.cls) (hZ : vk_R own index tx q s) (hdg : decode cc pc = .ok (.ldc_w index, 3))
    (k : W p l e R s m args below meth c H locs cells slots Q (F0 m (pc + 3) ls (.ref q :: rest))) : W p l e R s m args below meth c H locs cells slots Q (F0 m pc ls rest) := by
  intro T hT X
  obtain ⟨t, a1, b1⟩ := k T hT X
  refine ⟨t, ?_, b1⟩
  obtain ⟨k0, cf, i, a', hk, hcf, hcp, -, hr, hev'⟩ := Cond.stringRef_spec hown hZ.1
  cases hZ.2.symm.trans hev'
  obtain ⟨k', hk', he⟩ := X.warmed.alike.2.2 _ _ hk
  have hr' : k'.resolved[index]? = some (some (.string q)) := by
    rcases X.warmed.entry hk hk' index with h | ⟨h, -⟩
    · rw [h]; exact hr
    · rw [hr] at h; cases h
  have hdg' : decode c.code (F0 m pc ls rest).pc = .ok (.ldc_w index, 3) := by rw [hb]; exact hdg
  jvm_step X.here [hexec, hdg', ldc_w.wp_string (e := e) (s := T) (f := F0 m pc ls rest) X.here.top hk' (by rw [he]; exact hcf) hcp hr']
  exact a1
end RO
