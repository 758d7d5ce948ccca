/-! calls with up to sixteen words below them -/
section CALLS
variable {p : Program} {l : Launch} {e : Env} {R : Room} {s : State} {m : MethodId} {args : Array Value} {below : List Frame} {meth : Method} {c : Code} {H : Heap} {locs : List Loc} {cells slots : Nat}
variable {y : MethodName} {bytes cc : ByteArray} {maxL nL mc ms index : Nat} {ret ret' : Option FieldType} {z : List Cond} {rm : Room} {Pc : Array Value → State → Prop} {Qc : Array Value → State → Outcome → State → Prop} {free : Addr → Prop} {own host nm : String} {b : Addr} {As rest st : List Value} {ls : Array Slot} {pc : Nat}
theorem bk16 (X : cx p s m args meth c cc nL ret own nm) (hM : Met l y z rm Pc Qc mc ms free) (hz : z = Cond.code y bytes maxL ret' :: lw_g) (hc : Cond.code y bytes maxL ret' ∈ lw_g) (hini : Cond.initialized y.cls ∈ lw_g) (hR : rm.frames + 1 ≤ R.frames ∧ 16 + (maxL + 11) + rm.locals ≤ R.locals) (hrc : rm.cells = mc) (hrs : rm.slots = ms) (hbl : FrameBlind Pc) : Back l R p e below s args y 3 16 (PreOf R mc ms Pc) (PostOf Qc mc ms free) :=
  back_of (bytes := bytes) (maxL := maxL) (ret := ret') hM hbl hrc hrs hR.1 hR.2 (pay_in X.2.2.2.2.1 (by rw [hz]; exact gd_g hc)) (by rw [hz]; exact List.mem_cons_self) (fun a' U hW => word_at hW (Or.inl (by first | rfl | simp [Cond.onTables, Cond.keeps, Cond.steady])) (X.2.2.2.2.1 _ hini))
theorem rm16 (h : (rest.map fun v => v.category).sum ≤ 16) : 2 * (F0 m pc ls st).monitorRoom + (rest.map fun v => v.category).sum ≤ 16 := by
  have e := lv_room (m := m) (pc := pc) (ls := ls) (rest := st) (st := [.null, .null, .null, .null, .null, .null, .null, .null]) (by decide)
  have e2 : (([.null, .null, .null, .null, .null, .null, .null, .null] : List Value).map fun v => v.category).sum = 8 := by decide
  omega
theorem pn16 {n k : Nat} (hn : As.length = n) (hd : (parseMethodDescriptor y.desc).map (fun d => d.parameters.length) = some n) : ∀ sig, parseMethodDescriptor y.desc = some sig → As.length = sig.parameters.length := fun sig h => by
  rw [h] at hd
  exact hn.trans (Option.some.inj hd).symm
theorem k_rS16 (X : cx p s m args meth c cc nL ret own nm) (hM : Met l y z rm Pc Qc mc ms free) (hz : z = Cond.code y bytes maxL ret' :: lw_g) (hc : Cond.code y bytes maxL ret' ∈ lw_g) (hini : Cond.initialized y.cls ∈ lw_g) (hl : Cond.methodLink own index y ∈ lw_g) (hin : Cond.static y ∈ lw_g) (n : Nat)
    (hd : y.cls ≠ "java/lang/invoke/MethodHandle" ∧ y.cls ≠ "java/lang/invoke/VarHandle" ∧ (parseMethodDescriptor y.desc).map (fun d => d.parameters.length) = some n) (hR : rm.frames + 1 ≤ R.frames ∧ 16 + (maxL + 11) + rm.locals ≤ R.locals) (hrc : rm.cells = mc) (hrs : rm.slots = ms)
    (hp : PreS s H Pc As) (hn : As.length = n) (hsz : ls.size = nL) (hst : st = As.reverse ++ rest) (hW : (rest.map fun v => v.category).sum ≤ 16) (hdg : decode cc pc = .ok (.invokestatic index, 3)) (hf : cells + mc ≤ R.cells ∧ slots + ms ≤ R.slots) :
    va_Run p l e R s m args below meth c H locs cells slots mc ms (F0 m pc ls st) rest (Qc As.toArray) free := by
  have hK : Back l R p e below s args y 3 16 (PreOf R mc ms Pc) (PostOf Qc mc ms free) := bk16 X hM hz hc hini hR hrc hrs hp.1
  intro T hT Y
  obtain ⟨v, vm₁, ⟨U', l2, c2, s2⟩, hW₁, X', ⟨g', mk, t, L, e1, e2, hq, h1, hL, h2, h3⟩, go⟩ := callS Y X.1 (bytes := bytes) (maxL := maxL) (ret := ret') X.2.2.2.1 (X.2.2.2.2.1 _ hl) (X.2.2.2.2.1 _ hin) (X.2.2.2.2.1 _ hini) (X.2.2.2.2.1 _ hc) ⟨hd.1, hd.2.1⟩ hK (g := F0 m pc ls st) rfl (hsz.trans X.2.2.1.symm) (argsL := As) (rest := rest) (pn16 (k := 0) hn hd.2.2) hst (rm16 hW) (by rw [X.2.1]; exact hdg)
    (fun vm₁ hW₁ => ⟨hf.1, hf.2, hp.2 (T.setVm vm₁) hT hW₁⟩)
  dsimp only [Pt.U, Pt.locs, Pt.cells, Pt.slots] at X' e1 e2 h1 h2 h3 go
  subst h1; subst h2; subst h3
  exact ⟨v, (T.setVm vm₁).calling g' mk As.toArray, t, U', L, hT, X', hL, e1, e2, hq, go⟩
theorem k_rV16 (X : cx p s m args meth c cc nL ret own nm) (hM : Met l y z rm Pc Qc mc ms free) (hz : z = Cond.code y bytes maxL ret' :: lw_g) (hc : Cond.code y bytes maxL ret' ∈ lw_g) (hini : Cond.initialized y.cls ∈ lw_g) (hl : Cond.methodLink own index y ∈ lw_g) (hin : Cond.instanceMethod y ∈ lw_g) (hsel : Cond.selects y.cls y y ∈ lw_g) (n : Nat)
    (hd : y.cls ≠ "java/lang/invoke/MethodHandle" ∧ y.cls ≠ "java/lang/invoke/VarHandle" ∧ (parseMethodDescriptor y.desc).map (fun d => d.parameters.length) = some n) (hR : rm.frames + 1 ≤ R.frames ∧ 16 + (maxL + 11) + rm.locals ≤ R.locals) (hrc : rm.cells = mc) (hrs : rm.slots = ms)
    (hrv : ∃ cellB : Cell, H[b]? = some cellB ∧ cellB.vm.isStatics = false ∧ s.vm.findClass y.cls = some cellB.cls) (hp : PreS s H Pc (.ref b :: As)) (hn : As.length = n) (hsz : ls.size = nL) (hst : st = As.reverse ++ .ref b :: rest) (hW : (rest.map fun v => v.category).sum ≤ 16) (hdg : decode cc pc = .ok (.invokevirtual index, 3)) (hf : cells + mc ≤ R.cells ∧ slots + ms ≤ R.slots) :
    va_Run p l e R s m args below meth c H locs cells slots mc ms (F0 m pc ls st) rest (Qc (Value.ref b :: As).toArray) free := by
  have hK : Back l R p e below s args y 3 16 (PreOf R mc ms Pc) (PostOf Qc mc ms free) := bk16 X hM hz hc hini hR hrc hrs hp.1
  obtain ⟨cellB, hcB, hoB, hclB⟩ := hrv
  intro T hT Y
  obtain ⟨v, vm₁, ⟨U', l2, c2, s2⟩, hW₁, X', ⟨g', mk, t, L, e1, e2, hq, h1, hL, h2, h3⟩, go⟩ := callV Y X.1 (C := y.cls) (bytes := bytes) (maxL := maxL) (ret := ret') X.2.2.2.1 (X.2.2.2.2.1 _ hl) (X.2.2.2.2.1 _ hin) (X.2.2.2.2.1 _ hsel) (X.2.2.2.2.1 _ hc) ⟨hd.1, hd.2.1⟩ hK (by rw [hT]; exact hcB) hoB hclB (g := F0 m pc ls st) rfl (hsz.trans X.2.2.1.symm) (argsL := As) (rest := rest) (pn16 (k := 0) hn hd.2.2) hst (rm16 hW) (by rw [X.2.1]; exact hdg)
    (fun vm₁ hW₁ => ⟨hf.1, hf.2, hp.2 (T.setVm vm₁) hT hW₁⟩)
  dsimp only [Pt.U, Pt.locs, Pt.cells, Pt.slots] at X' e1 e2 h1 h2 h3 go
  subst h1; subst h2; subst h3
  exact ⟨v, (T.setVm vm₁).calling g' mk (Value.ref b :: As).toArray, t, U', L, hT, X', hL, e1, e2, hq, go⟩
theorem k_rSN16 (hN : nst s) (X : cx p s m args meth c cc nL ret own nm) (hM : Met l y z rm Pc Qc mc ms free) (hz : z = Cond.code y bytes maxL ret' :: lw_g) (hc : Cond.code y bytes maxL ret' ∈ lw_g) (hini : Cond.initialized y.cls ∈ lw_g) (hl : Cond.methodLinkNest own index y host ∈ lw_n) (hin : Cond.static y ∈ lw_g) (n : Nat)
    (hd : y.cls ≠ "java/lang/invoke/MethodHandle" ∧ y.cls ≠ "java/lang/invoke/VarHandle" ∧ (parseMethodDescriptor y.desc).map (fun d => d.parameters.length) = some n) (hR : rm.frames + 1 ≤ R.frames ∧ 16 + (maxL + 11) + rm.locals ≤ R.locals) (hrc : rm.cells = mc) (hrs : rm.slots = ms)
    (hp : PreS s H Pc As) (hn : As.length = n) (hsz : ls.size = nL) (hst : st = As.reverse ++ rest) (hW : (rest.map fun v => v.category).sum ≤ 16) (hdg : decode cc pc = .ok (.invokestatic index, 3)) (hf : cells + mc ≤ R.cells ∧ slots + ms ≤ R.slots) :
    va_Run p l e R s m args below meth c H locs cells slots mc ms (F0 m pc ls st) rest (Qc As.toArray) free := by
  have hK : Back l R p e below s args y 3 16 (PreOf R mc ms Pc) (PostOf Qc mc ms free) := bk16 X hM hz hc hini hR hrc hrs hp.1
  have cn := va_cnB (R := R) (args := args) n X.2.2.2.2.1 (by rw [hz]; exact gd_g hc) hz hrc hrs (hN _ hl) (X.2.2.2.2.1 _ hini) hd ⟨hR.1, by have := hR.2; omega⟩
  obtain ⟨-, hcode, hini2, hy, hlen, hl2⟩ := cn
  intro T hT Y
  obtain ⟨v, vm₁, ⟨U', l2, c2, s2⟩, hW₁, X', ⟨g', mk, t, L, e1, e2, hq, h1, hL, h2, h3⟩, go⟩ := va_callSN Y X.1 (bytes := bytes) (maxL := maxL) (ret := ret') X.2.2.2.1 hl2 (X.2.2.2.2.1 _ hin) hini2 hcode hy hK (g := F0 m pc ls st) rfl (hsz.trans X.2.2.1.symm) (argsL := As) (rest := rest) (fun sig h => hn.trans (hlen sig h)) hst (rm16 hW) (by rw [X.2.1]; exact hdg)
    (fun vm₁ hW₁ => ⟨hf.1, hf.2, hp.2 (T.setVm vm₁) hT hW₁⟩)
  dsimp only [Pt.U, Pt.locs, Pt.cells, Pt.slots] at X' e1 e2 h1 h2 h3 go
  subst h1; subst h2; subst h3
  exact ⟨v, (T.setVm vm₁).calling g' mk As.toArray, t, U', L, hT, X', hL, e1, e2, hq, go⟩
end CALLS
