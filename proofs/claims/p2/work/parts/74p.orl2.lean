/-- a private static method of a nest mate -/
theorem cl_staticN {l : Launch} {D : va_G} {kA : Nat → ClassId} {G : List rg_T} {own host : String} {y : MethodName} {bytes : ByteArray} {maxL index : Nat} {ret' : Option FieldType} {en : en_T} (hM : ct_ok l D kA G y (Cond.code y bytes maxL ret' :: lw_g) en)
    (hc : Cond.code y bytes maxL ret' ∈ lw_g) (hini : Cond.initialized y.cls ∈ lw_g) (hl : Cond.methodLinkNest own index y host ∈ lw_n) (hin : Cond.static y ∈ lw_g)
    (hd : y.cls ≠ "java/lang/invoke/MethodHandle" ∧ y.cls ≠ "java/lang/invoke/VarHandle" ∧ (parseMethodDescriptor y.desc).map (fun d => d.parameters.length) = some en.1.length) (hm : maxL ≤ 45) : cl_ok l D kA G own (.invokestatic index) 3 en := by
  intro p e R s m args below meth c H locs cells slots Q cc pc nL ret nm A ws ta ls av gv hv rest X hK hN hA hP hD hS hth hag hgv hhv hpr hrest hfr hlo hce hsl hls hdec kk
  have hR : (rm_of en.2.2.2.1 en.2.2.2.2.1 en.2.2.2.2.2.1).frames + 1 ≤ R.frames ∧ 8 + (maxL + 11) + (rm_of en.2.2.2.1 en.2.2.2.2.1 en.2.2.2.2.2.1).locals ≤ R.locals := ⟨hfr, by show 8 + (maxL + 11) + 64 * en.2.2.2.1 ≤ R.locals; omega⟩
  exact m_go (va_runSN ⟨X.1, X.2.1, X.2.2.1, X.2.2.2.1, X.2.2.2.2.1⟩ (hM H.size ta ws av gv hv hth hag hgv hhv hpr) ⟨va_cnB en.1.length X.2.2.2.2.1 (gd_g hc) rfl rfl rfl (hN.1 _ hl) (X.2.2.2.2.1 _ hini) hd hR, X.2.2.2.2.1 _ hin, trivial⟩ (m_pre hN hA hS hK hP hD) rfl (ag_len hag) hls rfl (lv_room hrest) hdec ⟨hce, hsl⟩) hP hD hS hA kk
theorem tv_rngL {ta : Nat → Option Nat} {lo hi : Int} {rs : List Nat} {v : Value} (h : tv_ok ta (1, lo, hi, rs) v) : lo ≤ v_iv v ∧ v_iv v ≤ hi := by
  obtain ⟨x, rfl, a, b⟩ := tv_long h rfl
  exact ⟨a, b⟩
/-- the coder of any String constant -/
theorem cl_coderS {l : Launch} {D : va_G} {kA : Nat → ClassId} {G : List rg_T} {own : String} {idx : Nat} {rs : List Nat} (h : Cond.fieldLink own idx "java/lang/String" "coder" "B" ∈ lw_g) (hr : (rs.all (fun r => decide (5000 ≤ r) && decide (r < 5000 + ro_N) && decide (G[r]? = none))) = true) : cl_ok l D kA G own (.getfield idx) 3 (en_ro [(2, 0, 0, rs)] (0, 0, 0, [])) := by
  refine cl_look (fun p e R s m args below meth c H locs cells slots Q cc pc nL ret nm A ws ta ls av rest X hN hS hth hag hdec kk => ?_)
  match av, hag with
  | [v0], ⟨h0, _⟩ =>
    obtain ⟨a, r, rfl, h1, h2⟩ := tv_ref h0 rfl
    have hq := List.all_eq_true.mp hr r h2
    simp only [Bool.and_eq_true, decide_eq_true_eq] at hq
    have h3 : tv_ok ta (2, 0, 0, [5000 + (r - 5000)]) (.ref a) := Or.inr (Or.inr (Or.inl ⟨rfl, a, r, rfl, h1, List.mem_singleton.mpr (by omega)⟩))
    rw [ro_is hth (show G[5000 + (r - 5000)]? = none by rw [show 5000 + (r - 5000) = r by omega]; exact hq.2) h3]
    exact vk_getf X.1 X.2.1 (hN.2.2.1 (r - 5000) (by omega)).2.1 hS X.2.2.2.1 (X.2.2.2.2.1 _ h) (fun _ q => q) hdec (kk _ (Or.inl ⟨rfl, 0, rfl, by decide, by decide⟩))
theorem ro_is' {kA : Nat → ClassId} {G : List rg_T} {ta : Nat → Option Nat} {ws : va_W} {A : Nat → Prop} {s : State} (hN : nsr kA A s) (hth : th_ok kA G ta ws) {rs : List Nat} (hr : (rs.all (fun r => decide (5000 ≤ r) && decide (r < 5000 + ro_N) && decide (G[r]? = none))) = true) {v : Value} (h : tv_ok ta (2, 0, 0, rs) v) : ∃ i, i < ro_N ∧ v = .ref (kA (5000 + i)) := by
  obtain ⟨a, r, rfl, h1, h2⟩ := tv_ref h rfl
  have hq := List.all_eq_true.mp hr r h2
  simp only [Bool.and_eq_true, decide_eq_true_eq] at hq
  have h3 : tv_ok ta (2, 0, 0, [5000 + (r - 5000)]) (.ref a) := Or.inr (Or.inr (Or.inl ⟨rfl, a, r, rfl, h1, List.mem_singleton.mpr (by omega)⟩))
  exact ⟨r - 5000, by omega, ro_is hth (show G[5000 + (r - 5000)]? = none by rw [show 5000 + (r - 5000) = r by omega]; exact hq.2) h3⟩
/-- a method of any String constant -/
theorem cl_stringS {l : Launch} {D : va_G} {kA : Nat → ClassId} {G : List rg_T} {own : String} {y : MethodName} {bytes : ByteArray} {maxL index : Nat} {ret' : Option FieldType} {en : en_T} {rs : List Nat} {ts : List tv_T} (hen : en.1 = (2, 0, 0, rs) :: ts) (hr : (rs.all (fun r => decide (5000 ≤ r) && decide (r < 5000 + ro_N) && decide (G[r]? = none))) = true) (hcl : y.cls = "java/lang/String") (hM : ct_ok l D kA G y (Cond.code y bytes maxL ret' :: lw_g) en)
    (hc : Cond.code y bytes maxL ret' ∈ lw_g) (hini : Cond.initialized y.cls ∈ lw_g) (hl : Cond.methodLink own index y ∈ lw_g) (hin : Cond.instanceMethod y ∈ lw_g) (hsel : Cond.selects y.cls y y ∈ lw_g)
    (hd : y.cls ≠ "java/lang/invoke/MethodHandle" ∧ y.cls ≠ "java/lang/invoke/VarHandle" ∧ (parseMethodDescriptor y.desc).map (fun d => d.parameters.length) = some ts.length) (hm : maxL ≤ 45) : cl_ok l D kA G own (.invokevirtual index) 3 en := by
  intro p e R s m args below meth c H locs cells slots Q cc pc nL ret nm A ws ta ls av gv hv rest X hK hN hA hP hD hS hth hag hgv hhv hpr hrest hfr hlo hce hsl hls hdec kk
  have hM2 := hM H.size ta ws av gv hv hth hag hgv hhv hpr
  rw [hen] at hag
  cases av with
  | nil => exact hag.elim
  | cons v0 As =>
    obtain ⟨i, hi, rfl⟩ := ro_is' hN hth hr hag.1
    have hrv : ∃ cellB : Cell, H[kA (5000 + i)]? = some cellB ∧ cellB.vm.isStatics = false ∧ s.vm.findClass y.cls = some cellB.cls := by
      obtain ⟨cell, h1, h2, h3, -⟩ := (hN.2.2.1 i hi).1.kept hS.2.1
      exact ⟨cell, h1, h2, by rw [hcl]; exact h3⟩
    have hst : (Value.ref (kA (5000 + i)) :: As).reverse ++ rest = As.reverse ++ .ref (kA (5000 + i)) :: rest := by rw [List.reverse_cons, List.append_assoc]; rfl
    exact m_go (k_rV X hM2 rfl hc hini hl hin hsel ts.length hd ⟨hfr, by show 8 + (maxL + 11) + 64 * en.2.2.2.1 ≤ R.locals; omega⟩ rfl rfl hrv (m_pre hN hA hS hK hP hD) (ag_len hag.2) hls hst hrest hdec ⟨hce, hsl⟩) hP hD hS hA kk
