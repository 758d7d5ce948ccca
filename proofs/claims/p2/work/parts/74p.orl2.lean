/-- a private static method of a nest mate -/
theorem cl_staticN {l : Launch} {D : va_G} {kA : Nat → ClassId} {G : List rg_T} {own host : String} {y : MethodName} {bytes : ByteArray} {maxL index : Nat} {ret' : Option FieldType} {en : en_T} (hM : ct_ok l D kA G y (Cond.code y bytes maxL ret' :: lw_g) en)
    (hc : Cond.code y bytes maxL ret' ∈ lw_g) (hini : Cond.initialized y.cls ∈ lw_g) (hl : Cond.methodLinkNest own index y host ∈ lw_n) (hin : Cond.static y ∈ lw_g)
    (hd : y.cls ≠ "java/lang/invoke/MethodHandle" ∧ y.cls ≠ "java/lang/invoke/VarHandle" ∧ (parseMethodDescriptor y.desc).map (fun d => d.parameters.length) = some en.1.length) (hm : maxL ≤ 37) : cl_ok l D kA G own (.invokestatic index) 3 en := by
  intro p e R s m args below meth c H locs cells slots Q cc pc nL ret nm A ws ta ls av gv hv rest X hK hN hA hP hD hS hth hag hgv hhv hpr hrest hfr hlo hce hsl hls hdec kk
  exact m_go (k_rSN16 hN.1 X (hM H.size ta ws av gv hv hth hag hgv hhv hpr) rfl hc hini hl hin en.1.length hd ⟨hfr, by show 16 + (maxL + 11) + 64 * en.2.2.2.1 ≤ R.locals; omega⟩ rfl rfl (m_pre hN hA hS hK hP hD) (ag_len hag) hls rfl hrest hdec ⟨hce, hsl⟩) hP hD hS hA kk
theorem tv_rngL {ta : Nat → Option Nat} {lo hi : Int} {rs : List Nat} {v : Value} (h : tv_ok ta (1, lo, hi, rs) v) : lo ≤ v_iv v ∧ v_iv v ≤ hi := by
  obtain ⟨x, rfl, a, b⟩ := tv_long h rfl
  exact ⟨a, b⟩
/-- the coder of any String constant -/
theorem cl_coderS {l : Launch} {D : va_G} {kA : Nat → ClassId} {G : List rg_T} {own : String} {idx : Nat} {rs : List Nat} (h : Cond.fieldLink own idx "java/lang/String" "coder" "B" ∈ lw_g) (hr : (rs.all (fun r => decide (5000 ≤ r) && decide (r < 5000 + ro_N) && decide (G[r]? = none))) = true) : cl_ok l D kA G own (.getfield idx) 3 (en_ro [(2, 0, 0, rs)] (0, 0, 0, [])) := by
  refine cl_look (fun p e R s m args below meth c H locs cells slots Q cc pc nL ret nm A ws ta ls av rest X hN hS hth hag hdec kk => ?_)
  match av, hag with
  | [v0], ⟨h0, _⟩ =>
    obtain ⟨a, r, rfl, h1, h2⟩ := tv_ref h0 rfl
    have hq := List.all_eq_true.mp hr r h2
    simp only [Bool.and_eq_true, decide_eq_true_eq] at hq
    have h3 : tv_ok ta (2, 0, 0, [5000 + (r - 5000)]) (.ref a) := Or.inr (Or.inr (Or.inl ⟨rfl, a, r, rfl, h1, List.mem_singleton.mpr (by omega)⟩))
    rw [ro_is hth (show G[5000 + (r - 5000)]? = none by rw [show 5000 + (r - 5000) = r by omega]; exact hq.2) h3]
    exact vk_getf X.1 X.2.1 (hN.2.2.1 (r - 5000) (by omega)).2.1 hS X.2.2.2.1 (X.2.2.2.2.1 _ h) (fun _ q => q) hdec (kk _ (Or.inl ⟨rfl, 0, rfl, by decide, by decide⟩))
theorem ro_is' {kA : Nat → ClassId} {G : List rg_T} {ta : Nat → Option Nat} {ws : va_W} {A : Nat → Prop} {s : State} (hN : nsr kA A s) (hth : th_ok kA G ta ws) {rs : List Nat} (hr : (rs.all (fun r => decide (5000 ≤ r) && decide (r < 5000 + ro_N) && decide (G[r]? = none))) = true) {v : Value} (h : tv_ok ta (2, 0, 0, rs) v) : ∃ i, i < ro_N ∧ v = .ref (kA (5000 + i)) := by
  obtain ⟨a, r, rfl, h1, h2⟩ := tv_ref h rfl
  have hq := List.all_eq_true.mp hr r h2
  simp only [Bool.and_eq_true, decide_eq_true_eq] at hq
  have h3 : tv_ok ta (2, 0, 0, [5000 + (r - 5000)]) (.ref a) := Or.inr (Or.inr (Or.inl ⟨rfl, a, r, rfl, h1, List.mem_singleton.mpr (by omega)⟩))
  exact ⟨r - 5000, by omega, ro_is hth (show G[5000 + (r - 5000)]? = none by rw [show 5000 + (r - 5000) = r by omega]; exact hq.2) h3⟩
/-- a method of any String constant -/
theorem cl_stringS {l : Launch} {D : va_G} {kA : Nat → ClassId} {G : List rg_T} {own : String} {y : MethodName} {bytes : ByteArray} {maxL index : Nat} {ret' : Option FieldType} {en : en_T} {rs : List Nat} {ts : List tv_T} (hen : en.1 = (2, 0, 0, rs) :: ts) (hr : (rs.all (fun r => decide (5000 ≤ r) && decide (r < 5000 + ro_N) && decide (G[r]? = none))) = true) (hcl : y.cls = "java/lang/String") (hM : ct_ok l D kA G y (Cond.code y bytes maxL ret' :: lw_g) en)
    (hc : Cond.code y bytes maxL ret' ∈ lw_g) (hini : Cond.initialized y.cls ∈ lw_g) (hl : Cond.methodLink own index y ∈ lw_g) (hin : Cond.instanceMethod y ∈ lw_g) (hsel : Cond.selects y.cls y y ∈ lw_g)
    (hd : y.cls ≠ "java/lang/invoke/MethodHandle" ∧ y.cls ≠ "java/lang/invoke/VarHandle" ∧ (parseMethodDescriptor y.desc).map (fun d => d.parameters.length) = some ts.length) (hm : maxL ≤ 37) : cl_ok l D kA G own (.invokevirtual index) 3 en := by
  intro p e R s m args below meth c H locs cells slots Q cc pc nL ret nm A ws ta ls av gv hv rest X hK hN hA hP hD hS hth hag hgv hhv hpr hrest hfr hlo hce hsl hls hdec kk
  have hM2 := hM H.size ta ws av gv hv hth hag hgv hhv hpr
  rw [hen] at hag
  cases av with
  | nil => exact hag.elim
  | cons v0 As =>
    obtain ⟨i, hi, rfl⟩ := ro_is' hN hth hr hag.1
    have hrv : ∃ cellB : Cell, H[kA (5000 + i)]? = some cellB ∧ cellB.vm.isStatics = false ∧ s.vm.findClass y.cls = some cellB.cls := by
      obtain ⟨cell, h1, h2, h3, -⟩ := (hN.2.2.1 i hi).1.kept hS.2.1
      exact ⟨cell, h1, h2, by rw [hcl]; exact h3⟩
    have hst : (Value.ref (kA (5000 + i)) :: As).reverse ++ rest = As.reverse ++ .ref (kA (5000 + i)) :: rest := by rw [List.reverse_cons, List.append_assoc]; rfl
    exact m_go (k_rV16 X hM2 rfl hc hini hl hin hsel ts.length hd ⟨hfr, by show 16 + (maxL + 11) + 64 * en.2.2.2.1 ≤ R.locals; omega⟩ rfl rfl hrv (m_pre hN hA hS hK hP hD) (ag_len hag.2) hls hst hrest hdec ⟨hce, hsl⟩) hP hD hS hA kk
/-! places -/
def pl_gd (G : List rg_T) : Bool := G.all (fun g => decide (g.1 ≠ 0) || (match g.2.2.2.1.2.2.2 with | [c] => decide (g.2.2.2.2 = pl_L c) | _ => true))
theorem pl_gd_ok {G : List rg_T} (h : pl_gd G = true) : pl_good G := fun r g c hr h0 hc => by
  have := List.all_eq_true.mp h g (List.mem_of_getElem? hr)
  rw [Bool.or_eq_true, decide_eq_true_eq] at this
  rcases this with q | q
  · exact absurd h0 q
  · rw [hc] at q
    simpa using q
/-- an element by its place -/
theorem th_pl {kA : Nat → ClassId} {G : List rg_T} {A : Nat → Prop} {ta : Nat → Option Nat} {ws : va_W} (hD : va_D A ws) (hth : th_ok kA G ta ws) {a r : Nat} (ha : ta a = some r) {g : rg_T} (hg : G[r]? = some g) (hk : g.1 = 0) {j : Nat} (hj : j < g.2.1) {t : tv_T} (ht : g.2.2.2.2[j % g.2.2.2.2.length]? = some t) (h8 : t.1 = 0 ∨ t.1 = 8) : pl_k t (w_el ws a j) := by
  obtain ⟨e, h2, h3⟩ := th_in hth ha hg
  rcases h3 with ⟨_, n', f, rfl, l1, l2, _, _, hf⟩ | ⟨z, _⟩ | ⟨z, _⟩ | ⟨z, _⟩
  · unfold w_el
    rw [w_at_mem hD h2]
    exact tv_pl (hf j t (Nat.lt_of_lt_of_le hj l1) ht) h8
  · omega
  · omega
  · omega
theorem pl_kinds (c : Nat) : ∀ t ∈ pl_L c, t.1 = 0 ∨ t.1 = 8 := by
  match c with
  | 0 => exact fun t h => by cases h
  | 1 => decide +kernel
  | 2 => decide +kernel
  | n + 3 => exact fun t h => by cases h
/-- a value that fits all places of a stretch -/
theorem pl_in {c lo hi M : Nat} (hM : (pl_L c).length = M) {a b x : Int} (h : (((pl_L c).drop lo).take (hi + 1 - lo)).all (fun t => decide (t.1 = 0) && decide (t.2.1 ≤ a) && decide (b ≤ t.2.2.1)) = true) (ha : a ≤ x) (hb : x ≤ b) {j : Nat} (h1 : lo ≤ j % M) (h2 : j % M ≤ hi) : pl_ok c j x := by
  intro t ht
  rw [hM] at ht
  have hm : t ∈ ((pl_L c).drop lo).take (hi + 1 - lo) := by
    refine List.mem_of_getElem? (i := j % M - lo) ?_
    rw [List.getElem?_take, if_pos (by omega), List.getElem?_drop, show lo + (j % M - lo) = j % M by omega]
    exact ht
  have := List.all_eq_true.mp h t hm
  simp only [Bool.and_eq_true, decide_eq_true_eq] at this
  unfold pl_k
  rw [if_pos this.1.1]
  omega
/-- a value out of the same place -/
theorem pl_cp {kA : Nat → ClassId} {G : List rg_T} {A : Nat → Prop} {ta : Nat → Option Nat} {ws : va_W} (hD : va_D A ws) (hth : th_ok kA G ta ws) {a r c M : Nat} (ha : ta a = some r) {g : rg_T} (hg : G[r]? = some g) (hk : g.1 = 0) (hL : g.2.2.2.2 = pl_L c) (hM : (pl_L c).length = M) {i j : Nat} (hi : i < g.2.1) (hij : i % M = j % M) : pl_ok c j (w_el ws a i) := by
  intro t ht
  rw [hM] at ht
  refine th_pl hD hth ha hg hk hi (t := t) (by rw [hL, hM, hij]; exact ht) (pl_kinds c t (List.mem_of_getElem? ht))
theorem pl_M1 : (pl_L 1).length = 539 := by decide +kernel
theorem pl_M2 : (pl_L 2).length = 122 := by decide +kernel
theorem or_add {a b k : Nat} (ha : a < 2 ^ k) (hb : 2 ^ k ∣ b) : a ||| b = a + b := by
  obtain ⟨q, rfl⟩ := hb
  rw [Nat.or_comm, Nat.add_comm, Nat.mul_comm, ← Nat.shiftLeft_eq, Nat.shiftLeft_add_eq_or_of_lt ha]
/-- System.arraycopy within a row that has places -/
theorem cl_copyP {l : Launch} {D : va_G} {kA : Nat → ClassId} {G : List rg_T} {own : String} {index r n1 m1 rk p1 p2 p3 : Nat} {lo hi : Int} {rs : List Nat} {L : List tv_T} (hg1 : G[r]? = some (0, n1, m1, (0, lo, hi, rs), L)) (hp : p1 % L.length = p2 % L.length ∧ p1 + p3 ≤ n1 ∧ p2 + p3 ≤ n1 ∧ p1 < 2147483648 ∧ p2 < 2147483648 ∧ p3 < 2147483648) (hrk : 1 ≤ rk)
    (hl : Cond.methodLink own index arraycopyName ∈ lw_g) (hnat : Cond.native arraycopyName ∈ lw_g) (hst : Cond.static arraycopyName ∈ lw_g) (hini : Cond.initialized "java/lang/System" ∈ lw_g) :
    cl_ok l D kA G own (.invokestatic index) 3 ([(2, 0, 0, [r]), (0, (p1 : Int), (p1 : Int), []), (2, 0, 0, [r]), (0, (p2 : Int), (p2 : Int), []), (0, (p3 : Int), (p3 : Int), [])], none, false, rk, 0, 0, [], [], (2 ^ r, [], [], [], [])) := by
  intro p e R s m args below meth c H locs cells slots Q cc pc nL ret nm A ws ta ls av gv hv rest X hK hN hA hP hD hS hth hag hgv hhv hpr hrest hfr hlo hce hsl hls hdec kk
  have hag' : ag_ok ta [(2, 0, 0, [r]), (0, (p1 : Int), (p1 : Int), []), (2, 0, 0, [r]), (0, (p2 : Int), (p2 : Int), []), (0, (p3 : Int), (p3 : Int), [])] av := hag
  cases hv with
  | cons _ _ => exact hhv.elim
  | nil =>
  cases gv with
  | cons _ _ => exact hgv.elim
  | nil =>
  match av, hag' with
  | [v0, v1, v2, v3, v4], ⟨h0, h1, h2, h3, h4, _⟩ =>
    obtain ⟨a0, q0r, rfl, ha0, hr0⟩ := tv_ref h0 rfl
    obtain ⟨sp, rfl, sp1, sp2⟩ := tv_int h1 rfl
    obtain ⟨a1, q1r, rfl, ha1, hr1⟩ := tv_ref h2 rfl
    obtain ⟨dp, rfl, dp1, dp2⟩ := tv_int h3 rfl
    obtain ⟨n, rfl, nn1, nn2⟩ := tv_int h4 rfl
    rw [List.mem_singleton.mp hr0] at ha0
    rw [List.mem_singleton.mp hr1] at ha1
    have es : sp.toInt = p1 := by have a : (p1 : Int) ≤ sp.toInt := sp1; have b : sp.toInt ≤ (p1 : Int) := sp2; omega
    have ed : dp.toInt = p2 := by have a : (p2 : Int) ≤ dp.toInt := dp1; have b : dp.toInt ≤ (p2 : Int) := dp2; omega
    have en : n.toInt = p3 := by have a : (p3 : Int) ≤ n.toInt := nn1; have b : n.toInt ≤ (p3 : Int) := nn2; omega
    obtain ⟨i0, c0, hq0, hgo0⟩ := th_at hth ha0 hg1
    obtain ⟨i1, c1, hq1, hgo1⟩ := th_at hth ha1 hg1
    rcases hgo0 with ⟨_, l0, f, rfl, la1, la2, _, hf, hf'⟩ | ⟨z, _⟩ | ⟨z, _⟩ | ⟨z, _⟩
    rotate_left
    · exact absurd z (by show ¬ (0 : Nat) = 3; omega)
    · exact absurd z (by show ¬ 4 ≤ 0; omega)
    · exact absurd z (by show ¬ 10 ≤ 0; omega)
    rcases hgo1 with ⟨z1, l1, g, rfl, lb1, lb2, lb3, hg, hg'⟩ | ⟨z, _⟩ | ⟨z, _⟩ | ⟨z, _⟩
    rotate_left
    · exact absurd z (by show ¬ (0 : Nat) = 3; omega)
    · exact absurd z (by show ¬ 4 ≤ 0; omega)
    · exact absurd z (by show ¬ 10 ≤ 0; omega)
    have la1' : n1 ≤ l0 := la1
    have lb1' : n1 ≤ l1 := lb1
    have lt0 : ∀ x : Int32, 0 ≤ x.toInt → ¬ x < 0 := fun x hx q => by have h7 := i32_lt.mp q; rw [show (0 : Int32).toInt = 0 from rfl] at h7; omega
    have tn1 : sp.toNatClampNeg = p1 := by show sp.toInt.toNat = p1; omega
    have tn2 : dp.toNatClampNeg = p2 := by show dp.toInt.toNat = p2; omega
    have tn3 : n.toNatClampNeg = p3 := by show n.toInt.toNat = p3; omega
    have hml : c.maxLocals = ls.size := X.2.2.1.trans hls.symm
    have room : (rest.map fun v => v.category).sum + (nativeFrameWords "java/lang/System" "arraycopy" 5 + 11) ≤ R.locals := by
      have : nativeFrameWords "java/lang/System" "arraycopy" 5 ≤ 30 := by decide +kernel
      have h64 : 64 * (rk + 1) ≤ R.locals := hlo
      omega
    have hfr1 : 1 ≤ R.frames := by have : rk + 1 ≤ R.frames := hfr; omega
    refine va_copyi X.1 X.2.1 hml X.2.2.2.1 (X.2.2.2.2.1 _ hl) (X.2.2.2.2.1 _ hnat) (X.2.2.2.2.1 _ hst) (X.2.2.2.2.1 _ hini) hK hP hD hS i0 i1 0 0 hq0 hq1 rfl rfl rfl (lt0 _ (by omega)) (lt0 _ (by omega)) (lt0 _ (by omega)) (by rw [tn1, tn3]; omega) (by rw [tn2, tn3]; omega) (fun i hi => rfl) hfr1 room hdec (fun H1 locs1 g1 g2 g3 => ?_)
    refine kk ta _ H1 locs1 none (fun _ _ q => q) (th_set hD hth hq1 ha1 hg1 (Or.inl ⟨z1, l1, _, rfl, lb1, lb2, lb3, fun j hj => ?_, fun j t' hj ht' => ?_⟩)) g1 g2 g3 trivial ⟨fun f hf => absurd hf List.not_mem_nil, Or.inl rfl⟩ (fun q => by cases q) (kp_arr hq1 ha1 (by show (2 ^ r).testBit r = true; rw [Nat.testBit_two_pow_self]))
    · rw [tn1, tn2, tn3]
      unfold va_cpy
      split
      · exact hf _ (by omega)
      · exact hg j hj
    · rw [tn1, tn2, tn3]
      unfold va_cpy
      split
      · rename_i hc
        refine hf' _ t' (by omega) ?_
        have hM : (p1 + (j - p2)) % L.length = j % L.length := by
          have e1 : (p1 + (j - p2)) % L.length = (p2 + (j - p2)) % L.length := by rw [Nat.add_mod, hp.1, ← Nat.add_mod]
          rw [e1, show p2 + (j - p2) = j by omega]
        show L[(p1 + (j - p2)) % L.length]? = some t'
        rw [hM]; exact ht'
      · exact hg' j t' hj ht'
theorem tv_dvk {ta : Nat → Option Nat} {lo hi : Int} {M : Nat} {v : Value} (h : tv_ok ta (5, lo, hi, [M]) v) : (lo ≤ v_iv v ∧ v_iv v ≤ hi) ∧ ∃ q : Int, v_iv v = M * q := by
  obtain ⟨x, rfl, a, b, q, hq⟩ := tv_div h rfl
  exact ⟨⟨a, b⟩, q, hq⟩
