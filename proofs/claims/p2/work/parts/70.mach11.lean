/-! contracts by kinds: (arguments, answer, does it leave the world as it is, rank, cells, slots, how it may end: pictures of what is known at the start and of the answer; none: nothing is said; fields of the arguments that are known at the start; fields that it may write) -/
abbrev ga_L : Type := List ((Nat × Nat) × tv_T)
abbrev en_T : Type := List tv_T × Option tv_T × Bool × Nat × Nat × Nat × List sy_T × ga_L × mo_T
def gv_ok (ta : Nat → Option Nat) (ws : va_W) (av : List Value) : ga_L → List Value → Prop
  | [], [] => True
  | q :: r, g :: gs => (∃ (a ci : Nat) (fs : List Value), av[q.1.1]? = some (.ref a) ∧ (a, .inr (ci, fs)) ∈ ws ∧ fs[q.1.2]? = some g) ∧ tv_ok ta q.2 g ∧ gv_ok ta ws av r gs
  | _, _ => False
/-- one of the ends -/
def po_ok (ta : Nat → Option Nat) (w1 : va_W) (bv : List Value) (PA : List sy_T) (PO : List fc_T) (r : Option Value) : Prop := (∀ f ∈ PO, fc_1 f w1 (bv ++ r.toList)) ∧ (PA = [] ∨ ∃ P ∈ PA, ∃ vs, bv <+: vs ∧ sy_env ta P.1 vs ∧ (∀ q ∈ P.2.2.2.2.1, sy_ofs vs q) ∧ (∀ q ∈ P.2.2.2.2.2, sy_dv vs q) ∧ (∀ q ∈ P.2.2.2.1, sy_mem vs w1 q) ∧ sy_st vs P.2.2.1 r.toList)
def rm_of (d mc ms : Nat) : Room := { frames := d, cells := mc, slots := ms, locals := 64 * d }
def ag_ok (ta : Nat → Option Nat) : List tv_T → List Value → Prop
  | [], [] => True
  | t :: ts, v :: vs => tv_ok ta t v ∧ ag_ok ta ts vs
  | _, _ => False
def rt_ok (ta : Nat → Option Nat) (rt : Option tv_T) (r : Option Value) : Prop := match rt, r with
  | none, none => True
  | some t, some v => tv_ok ta t v
  | _, _ => False
abbrev uS_T : Type := (Nat → Option Nat) × va_W
def up_ok (kA : Nat → ClassId) (G : List rg_T) (ta : Nat → Option Nat) (ws : va_W) (pu : Bool) (mo : mo_T) (u : uS_T) : Prop := ta_le ta u.1 ∧ th_ok kA G u.1 u.2 ∧ (pu = true → u = (ta, ws)) ∧ kp mo ta ws u.2
def qc_of (D : va_G) (kA : Nat → ClassId) (G : List rg_T) (en : en_T) (ta : Nat → Option Nat) (ws : va_W) (sz : Nat) (bv : List Value) : Array Value → State → Outcome → State → Prop := match en.2.1 with
  | none => va_Qv (fun u => up_ok kA G ta ws en.2.2.1 en.2.2.2.2.2.2.2.2 u ∧ po_ok u.1 u.2 bv en.2.2.2.2.2.2.1 en.2.2.2.2.2.2.2.2.2.2.2.1 none) (fun u t => wq D classes (TY kA) (va_A ws sz) u.2 t) (va_A ws sz)
  | some rt => if rt.1 = 0 ∨ rt.1 = 5 then va_Qi (fun r u => up_ok kA G ta ws en.2.2.1 en.2.2.2.2.2.2.2.2 u ∧ tv_ok u.1 rt (.int r) ∧ po_ok u.1 u.2 bv en.2.2.2.2.2.2.1 en.2.2.2.2.2.2.2.2.2.2.2.1 (some (.int r))) (fun u t => wq D classes (TY kA) (va_A ws sz) u.2 t) (va_A ws sz)
    else if rt.1 = 1 then va_Ql (fun r u => up_ok kA G ta ws en.2.2.1 en.2.2.2.2.2.2.2.2 u ∧ tv_ok u.1 rt (.long r) ∧ po_ok u.1 u.2 bv en.2.2.2.2.2.2.1 en.2.2.2.2.2.2.2.2.2.2.2.1 (some (.long r))) (fun u t => wq D classes (TY kA) (va_A ws sz) u.2 t) (va_A ws sz)
    else va_Qr (up_ok kA G ta ws en.2.2.1 en.2.2.2.2.2.2.2.2) (fun u a t => (tv_ok u.1 rt (.ref a) ∧ po_ok u.1 u.2 bv en.2.2.2.2.2.2.1 en.2.2.2.2.2.2.2.2.2.2.2.1 (some (.ref a))) ∧ wq D classes (TY kA) (va_A ws sz) u.2 t) (va_A ws sz)
def pr_ok (en : en_T) (ws : va_W) (bv : List Value) : Prop := ∀ f ∈ en.2.2.2.2.2.2.2.2.2.2.1, fc_1 f ws bv
def ct_ok (l : Launch) (D : va_G) (kA : Nat → ClassId) (G : List rg_T) (y : MethodName) (z : List Cond) (en : en_T) : Prop := ∀ (sz : Nat) (ta : Nat → Option Nat) (ws : va_W) (av gv hv : List Value), th_ok kA G ta ws → ag_ok ta en.1 av → gv_ok ta ws av en.2.2.2.2.2.2.2.1 gv → ag_ok ta en.2.2.2.2.2.2.2.2.2.2.2.2 hv → pr_ok en ws (av ++ gv ++ hv) →
  Met l y z (rm_of en.2.2.2.1 en.2.2.2.2.1 en.2.2.2.2.2.1) (va_Pc av (wpr kA D sz ws)) (qc_of D kA G en ta ws sz (av ++ gv ++ hv)) en.2.2.2.2.1 en.2.2.2.2.2.1 (va_A ws sz)
def push_r (r : Option Value) (rest : List Value) : List Value := match r with
  | none => rest
  | some v => v :: rest
/-- a call that goes well -/
def cl_ok (l : Launch) (D : va_G) (kA : Nat → ClassId) (G : List rg_T) (own : String) (op : ClassFile.Instr) (len : Nat) (en : en_T) : Prop := ∀ (p : Program) (e : Env) (R : Room) (s : State) (m : MethodId) (args : Array Value) (below : List Frame) (meth : Method) (c : Code) (H : Heap) (locs : List Loc) (cells slots : Nat) (Q : State → Prop) (cc : ByteArray) (pc nL : Nat) (ret : Option FieldType) (nm : String) (A : Nat → Prop) (ws : va_W) (ta : Nat → Option Nat) (ls : Array Slot) (av gv hv rest : List Value),
  cx p s m args meth c cc nL ret own nm → va_K D classes (TY kA) s → nsr kA A s → (∀ q, s.heap.size ≤ q → A q) → va_P D classes ws H → va_D A ws → va_S A s.heap H locs → th_ok kA G ta ws → ag_ok ta en.1 av → gv_ok ta ws av en.2.2.2.2.2.2.2.1 gv → ag_ok ta en.2.2.2.2.2.2.2.2.2.2.2.2 hv → pr_ok en ws (av ++ gv ++ hv) → (rest.map fun v => v.category).sum ≤ 16 → en.2.2.2.1 + 1 ≤ R.frames → 64 * (en.2.2.2.1 + 1) ≤ R.locals → cells + en.2.2.2.2.1 ≤ R.cells → slots + en.2.2.2.2.2.1 ≤ R.slots → ls.size = nL → decode cc pc = .ok (op, len) →
  (∀ (tb : Nat → Option Nat) (w1 : va_W) (H1 : Heap) (locs1 : List Loc) (r : Option Value), ta_le ta tb → th_ok kA G tb w1 → va_P D classes w1 H1 → va_D A w1 → va_S A s.heap H1 locs1 → rt_ok tb en.2.1 r → po_ok tb w1 (av ++ gv ++ hv) en.2.2.2.2.2.2.1 en.2.2.2.2.2.2.2.2.2.2.2.1 r → (en.2.2.1 = true → (tb, w1) = (ta, ws)) → kp en.2.2.2.2.2.2.2.2 ta ws w1 → W p l e R s m args below meth c H1 locs1 (cells + en.2.2.2.2.1) (slots + en.2.2.2.2.2.1) Q (F0 m (pc + len) ls (push_r r rest))) →
  W p l e R s m args below meth c H locs cells slots Q (F0 m pc ls (av.reverse ++ rest))
section M11
variable {p : Program} {l : Launch} {e : Env} {R : Room} {s : State} {m : MethodId} {args : Array Value} {below : List Frame} {meth : Method} {c : Code} {H : Heap} {locs : List Loc} {cells slots : Nat} {Q : State → Prop} {cc : ByteArray} {pc nL : Nat} {ta : Nat → Option Nat} {ws : va_W} {D : va_G} {kA : Nat → ClassId} {G : List rg_T} {A : Nat → Prop} {ret : Option FieldType} {own nm : String} {ls : Array Slot} {av gv hv rest : List Value} {en : en_T}
theorem m_pre (hN : nsr kA A s) (hA : ∀ q, s.heap.size ≤ q → A q) (hS : va_S A s.heap H locs) (hK : va_K D classes (TY kA) s) (hP : va_P D classes ws H) (hD : va_D A ws) : PreS s H (va_Pc av (wpr kA D H.size ws)) av :=
  ⟨wpr_blind, fun U hU hW => ⟨rfl, ⟨by rw [hU], by rw [hU]; exact hP, va_K.moved hW.alike hK, hD.weaken (fun _ _ _ _ => trivial), nst.warm hW hN.1⟩, ro_go hN.2 hW (by rw [hU]; exact hS) (fun q hq => by
    rcases hq with ⟨k, e, hk⟩ | hq
    · exact hD.2 k (q, e) hk
    · exact hA q (Nat.le_trans hS.1 hq))⟩⟩
theorem m_go {st0 : List Value} {b : Array Value} (hr : va_Run p l e R s m args below meth c H locs cells slots en.2.2.2.2.1 en.2.2.2.2.2.1 (F0 m pc ls st0) rest (qc_of D kA G en ta ws H.size (av ++ gv ++ hv) b) (va_A ws H.size))
    (hP : va_P D classes ws H) (hD : va_D A ws) (hS : va_S A s.heap H locs) (hA : ∀ q, s.heap.size ≤ q → A q)
    (kk : ∀ (tb : Nat → Option Nat) (w1 : va_W) (H1 : Heap) (locs1 : List Loc) (r : Option Value), ta_le ta tb → th_ok kA G tb w1 → va_P D classes w1 H1 → va_D A w1 → va_S A s.heap H1 locs1 → rt_ok tb en.2.1 r → po_ok tb w1 (av ++ gv ++ hv) en.2.2.2.2.2.2.1 en.2.2.2.2.2.2.2.2.2.2.2.1 r → (en.2.2.1 = true → (tb, w1) = (ta, ws)) → kp en.2.2.2.2.2.2.2.2 ta ws w1 → W p l e R s m args below meth c H1 locs1 (cells + en.2.2.2.2.1) (slots + en.2.2.2.2.2.1) Q (F0 m (pc + 3) ls (push_r r rest))) : W p l e R s m args below meth c H locs cells slots Q (F0 m pc ls st0) := by
  have hCq : (List.range ws.length).map (fun i => ws[i]?) = ws.map some := by
    have := wp_placesL ws []
    rw [List.append_nil] at this
    exact this
  have hF := va_free (wc := ws) hD hS hA _ hCq
  have dn : ∀ (u : uS_T) (t : State) (H1 : Heap), t.heap = H1 → wq D classes (TY kA) (va_A ws H.size) u.2 t → va_P D classes u.2 H1 ∧ va_D A u.2 := fun u t H1 ht hB => by
    obtain ⟨hP1, _, hD1⟩ := hB
    rw [ht] at hP1
    exact ⟨hP1, hD1.weaken (fun _ q _ hq => hF q.1 hq)⟩
  unfold qc_of at hr
  cases hrt : en.2.1 with
  | none =>
    rw [hrt] at hr kk
    refine va_callv hr hS (fun q _ h => hF q h) hF (fun u t H1 locs1 ht _ hw hB _ hk1 hS1 => ?_)
    obtain ⟨a1, a2⟩ := dn u t H1 ht hB
    exact kk u.1 u.2 H1 locs1 none hw.1.1 hw.1.2.1 a1 a2 hS1 trivial hw.2 hw.1.2.2.1 hw.1.2.2.2
  | some rt =>
    rw [hrt] at hr kk
    simp only at hr
    split at hr
    · refine va_calli hr hS (fun q _ h => hF q h) hF (fun r u t H1 locs1 ht _ hw hB _ hk1 hS1 => ?_)
      obtain ⟨a1, a2⟩ := dn u t H1 ht hB
      exact kk u.1 u.2 H1 locs1 (some (.int r)) hw.1.1 hw.1.2.1 a1 a2 hS1 hw.2.1 hw.2.2 hw.1.2.2.1 hw.1.2.2.2
    · split at hr
      · refine va_calll hr hS (fun q _ h => hF q h) hF (fun r u t H1 locs1 ht _ hw hB _ hk1 hS1 => ?_)
        obtain ⟨a1, a2⟩ := dn u t H1 ht hB
        exact kk u.1 u.2 H1 locs1 (some (.long r)) hw.1.1 hw.1.2.1 a1 a2 hS1 hw.2.1 hw.2.2 hw.1.2.2.1 hw.1.2.2.2
      · refine va_callr hr hS (fun q _ h => hF q h) hF (fun u ra t H1 locs1 ht _ hw hB _ hk1 hS1 => ?_)
        obtain ⟨a1, a2⟩ := dn u t H1 ht hB.2
        exact kk u.1 u.2 H1 locs1 (some (.ref ra)) hw.1 hw.2.1 a1 a2 hS1 hB.1.1 hB.1.2 hw.2.2.1 hw.2.2.2
end M11
theorem ag_len {ta : Nat → Option Nat} : ∀ {ts : List tv_T} {vs : List Value}, ag_ok ta ts vs → vs.length = ts.length
  | [], [], _ => rfl
  | _ :: ts, _ :: vs, h => by rw [List.length_cons, List.length_cons, ag_len h.2]
  | [], _ :: _, h => h.elim
  | _ :: _, [], h => h.elim
/-- a static method with a contract -/
theorem cl_static {l : Launch} {D : va_G} {kA : Nat → ClassId} {G : List rg_T} {own : String} {y : MethodName} {bytes : ByteArray} {maxL index : Nat} {ret' : Option FieldType} {en : en_T} (hM : ct_ok l D kA G y (Cond.code y bytes maxL ret' :: lw_g) en)
    (hc : Cond.code y bytes maxL ret' ∈ lw_g) (hini : Cond.initialized y.cls ∈ lw_g) (hl : Cond.methodLink own index y ∈ lw_g) (hin : Cond.static y ∈ lw_g)
    (hd : y.cls ≠ "java/lang/invoke/MethodHandle" ∧ y.cls ≠ "java/lang/invoke/VarHandle" ∧ (parseMethodDescriptor y.desc).map (fun d => d.parameters.length) = some en.1.length) (hm : maxL ≤ 37) : cl_ok l D kA G own (.invokestatic index) 3 en := by
  intro p e R s m args below meth c H locs cells slots Q cc pc nL ret nm A ws ta ls av gv hv rest X hK hN hA hP hD hS hth hag hgv hhv hpr hrest hfr hlo hce hsl hls hdec kk
  exact m_go (k_rS16 X (hM H.size ta ws av gv hv hth hag hgv hhv hpr) rfl hc hini hl hin en.1.length hd ⟨hfr, by show 16 + (maxL + 11) + 64 * en.2.2.2.1 ≤ R.locals; omega⟩ rfl rfl (m_pre hN hA hS hK hP hD) (ag_len hag) hls rfl hrest hdec ⟨hce, hsl⟩) hP hD hS hA kk
/-- a method of an object of the own region -/
theorem cl_virtual {l : Launch} {D : va_G} {kA : Nat → ClassId} {G : List rg_T} {own : String} {y : MethodName} {bytes : ByteArray} {maxL index : Nat} {ret' : Option FieldType} {en : en_T} {t0 : tv_T} {ts : List tv_T} (hen : en.1 = t0 :: ts) (ht0 : t0.1 = 2) {ci : Nat} (hci : ∃ T N, classes[ci]? = some (y.cls, T, N)) (hall : rg_all G (fun g => decide (g.1 = ci + 10)) t0.2.2.2 = true) (hM : ct_ok l D kA G y (Cond.code y bytes maxL ret' :: lw_g) en)
    (hc : Cond.code y bytes maxL ret' ∈ lw_g) (hini : Cond.initialized y.cls ∈ lw_g) (hl : Cond.methodLink own index y ∈ lw_g) (hin : Cond.instanceMethod y ∈ lw_g) (hsel : Cond.selects y.cls y y ∈ lw_g)
    (hd : y.cls ≠ "java/lang/invoke/MethodHandle" ∧ y.cls ≠ "java/lang/invoke/VarHandle" ∧ (parseMethodDescriptor y.desc).map (fun d => d.parameters.length) = some ts.length) (hm : maxL ≤ 37) : cl_ok l D kA G own (.invokevirtual index) 3 en := by
  intro p e R s m args below meth c H locs cells slots Q cc pc nL ret nm A ws ta ls av gv hv rest X hK hN hA hP hD hS hth hag hgv hhv hpr hrest hfr hlo hce hsl hls hdec kk
  have hM2 := hM H.size ta ws av gv hv hth hag hgv hhv hpr
  rw [hen] at hag
  cases av with
  | nil => exact hag.elim
  | cons v0 As =>
    obtain ⟨b, r, rfl, hb1, hb2⟩ := tv_ref hag.1 ht0
    obtain ⟨g, g1, g2⟩ := rg_all_ok hall hb2
    obtain ⟨q0, e0, hq, hgo⟩ := th_at hth hb1 g1
    have g3 : g.1 = ci + 10 := by simpa using g2
    obtain ⟨T, N, hci⟩ := hci
    have hrv : ∃ cellB : Cell, H[b]? = some cellB ∧ cellB.vm.isStatics = false ∧ s.vm.findClass y.cls = some cellB.cls := by
      rcases hgo with ⟨z, _⟩ | ⟨z, _⟩ | ⟨_, z, _⟩ | ⟨_, fs, rfl, _⟩
      · omega
      · omega
      · omega
      · exact va_recv hK hP (show classes[g.1 - 10]? = some (y.cls, T, N) by rw [show g.1 - 10 = ci by omega]; exact hci) hq
    have hst : (Value.ref b :: As).reverse ++ rest = As.reverse ++ .ref b :: rest := by rw [List.reverse_cons, List.append_assoc]; rfl
    exact m_go (k_rV16 X hM2 rfl hc hini hl hin hsel ts.length hd ⟨hfr, by show 16 + (maxL + 11) + 64 * en.2.2.2.1 ≤ R.locals; omega⟩ rfl rfl hrv (m_pre hN hA hS hK hP hD) (ag_len hag.2) hls hst hrest hdec ⟨hce, hsl⟩) hP hD hS hA kk
