/-! what proofs of oracles use -/
theorem fc_un {f : fc_T} {r : List fc_T} {ta : Nat → Option Nat} {ws : va_W} {vs : List Value} (hl : f.1 < 100) (h : fc_ok (f :: r) ta ws vs) : fc_m f.1 (f.2.1.map (n_v vs)) f.2.2 ws ∧ fc_ok r ta ws vs := by
  unfold fc_ok at h
  rw [if_pos hl] at h
  exact ⟨h.1.2, h.2⟩
theorem fc_us {f : fc_T} {r : List fc_T} {ta : Nat → Option Nat} {ws : va_W} {vs : List Value} (hl : ¬ f.1 < 100) (h : fc_ok (f :: r) ta ws vs) : ∃ ta0 w0, ta_le ta0 ta ∧ fc_s f ta0 w0 ws vs ∧ fc_ok r ta0 w0 vs := by
  unfold fc_ok at h
  rw [if_neg hl] at h
  exact h
theorem tv_rng {ta : Nat → Option Nat} {lo hi : Int} {rs : List Nat} {v : Value} (h : tv_ok ta (0, lo, hi, rs) v) : lo ≤ v_iv v ∧ v_iv v ≤ hi := by
  obtain ⟨x, rfl, a, b⟩ := tv_int h rfl
  exact ⟨a, b⟩
theorem tv_rg {ta : Nat → Option Nat} {lo hi : Int} {r : Nat} {v : Value} (h : tv_ok ta (2, lo, hi, [r]) v) : ta (v_ad v) = some r := by
  obtain ⟨a, r', rfl, h1, h2⟩ := tv_ref h rfl
  rw [List.mem_singleton.mp h2] at h1
  exact h1
theorem tv_in {ta : Nat → Option Nat} {lo hi lo' hi' : Int} {rs rs' : List Nat} {v : Value} (h : tv_ok ta (0, lo, hi, rs) v) (h1 : lo' ≤ v_iv v) (h2 : v_iv v ≤ hi') : tv_ok ta (0, lo', hi', rs') v := by
  obtain ⟨x, rfl, _, _⟩ := tv_int h rfl
  exact Or.inl ⟨rfl, x, rfl, h1, h2⟩
/-- an int that is wanted -/
theorem iv_ex {ta : Nat → Option Nat} {lo hi z : Int} (h1 : lo ≤ z) (h2 : z ≤ hi) (h3 : -2147483648 ≤ lo) (h4 : hi ≤ 2147483647) : ∃ x : Int32, x.toInt = z ∧ tv_ok ta (0, lo, hi, []) (.int x) := by
  refine ⟨Int32.ofInt z, ?_, ?_⟩
  · exact Int32.toInt_ofInt_of_le (by omega) (by omega)
  · have e : (Int32.ofInt z).toInt = z := Int32.toInt_ofInt_of_le (by omega) (by omega)
    exact Or.inl ⟨rfl, _, rfl, by show lo ≤ (Int32.ofInt z).toInt; rw [e]; exact h1, by show (Int32.ofInt z).toInt ≤ hi; rw [e]; exact h2⟩
/-- elements of the world are of the kinds of their regions -/
theorem th_el {kA : Nat → ClassId} {G : List rg_T} {A : Nat → Prop} {ta : Nat → Option Nat} {ws : va_W} (hD : va_D A ws) (hth : th_ok kA G ta ws) {a r : Nat} (ha : ta a = some r) {kd n m : Nat} {lo hi : Int} {rs : List Nat} {L : List tv_T} (hg : G[r]? = some (kd, n, m, (0, lo, hi, rs), L)) (hk : kd < 3) {j : Nat} (hj : j < n) : lo ≤ w_el ws a j ∧ w_el ws a j ≤ hi := by
  obtain ⟨e, h2, h3⟩ := th_in hth ha hg
  rcases h3 with ⟨_, n', f, rfl, l1, l2, _, hf, _⟩ | ⟨z, _⟩ | ⟨z, _⟩ | ⟨z, _⟩
  · have := tv_rng (hf j (Nat.lt_of_lt_of_le hj l1))
    unfold w_el
    rw [w_at_mem hD h2]
    exact this
  · exact absurd z (by show ¬ kd = 3; omega)
  · exact absurd z (by show ¬ 4 ≤ kd; omega)
  · exact absurd z (by show ¬ 10 ≤ kd; omega)
theorem sum_bd {ws : va_W} {a : Nat} {lo hi : Int} : ∀ {n : Nat}, (∀ j, j < n → lo ≤ w_el ws a j ∧ w_el ws a j ≤ hi) → n * lo ≤ w_sum ws a n ∧ w_sum ws a n ≤ n * hi
  | 0, _ => by unfold w_sum; omega
  | n + 1, h => by
    have ih := sum_bd (n := n) (fun j hj => h j (by omega))
    have := h n (by omega)
    unfold w_sum
    rw [Int.natCast_add, Int.add_mul, Int.add_mul]
    omega
theorem sum_eq {w0 w1 : va_W} {a : Nat} : ∀ {n : Nat}, (∀ j, j < n → w_el w1 a j = w_el w0 a j) → w_sum w1 a n = w_sum w0 a n
  | 0, _ => rfl
  | n + 1, h => by
    unfold w_sum
    rw [sum_eq (n := n) (fun j hj => h j (by omega)), h n (by omega)]
theorem sum_set {w0 w1 : va_W} {a i : Nat} {v : Int} (h : ∀ b j, w_el w1 b j = if b = a ∧ j = i then v else w_el w0 b j) : ∀ {n : Nat}, i < n → w_sum w1 a n = w_sum w0 a n - w_el w0 a i + v
  | 0, hi => by omega
  | n + 1, hi => by
    unfold w_sum
    by_cases e : i = n
    · subst e
      have e1 : w_sum w1 a i = w_sum w0 a i := sum_eq (fun j hj => by rw [h a j, if_neg (by omega)])
      have e2 : w_el w1 a i = v := by rw [h a i, if_pos ⟨rfl, rfl⟩]
      omega
    · have e1 := sum_set h (n := n) (by omega)
      have e2 : w_el w1 a n = w_el w0 a n := by rw [h a n, if_neg (by omega)]
      omega
theorem el_ne {w0 w1 : va_W} {a i b j : Nat} {v : Int} (h : ∀ b j, w_el w1 b j = if b = a ∧ j = i then v else w_el w0 b j) (hn : b ≠ a ∨ j ≠ i) : w_el w1 b j = w_el w0 b j := by
  rw [h b j, if_neg (by omega)]
theorem ag_one {ta : Nat → Option Nat} {t : tv_T} {v : Value} (h : tv_ok ta t v) : ag_ok ta [t] [v] := ⟨h, trivial⟩
theorem n_v_new {vs : List Value} {v : Value} {n : Nat} (h : vs.length = n) : n_v (vs ++ [v]) n = v := by
  unfold n_v
  rw [List.getElem?_append_right (by omega), h, Nat.sub_self]; rfl
theorem n_v_old {vs xs : List Value} {m : Nat} (h : m < vs.length) : n_v (vs ++ xs) m = n_v vs m := by
  unfold n_v
  rw [List.getElem?_append_left h]
theorem th_fd {kA : Nat → ClassId} {G : List rg_T} {A : Nat → Prop} {ta : Nat → Option Nat} {ws : va_W} (hD : va_D A ws) (hth : th_ok kA G ta ws) {a r : Nat} (ha : ta a = some r) {g : rg_T} (hg : G[r]? = some g) {k : Nat} {t : tv_T} (hk : g.2.2.2.2[k]? = some t) (h10 : decide (10 ≤ g.1) = true) : tv_ok ta t (w_fd ws a k) := by
  obtain ⟨e, h2, h3⟩ := th_in hth ha hg
  have h10' : 10 ≤ g.1 := by simpa using h10
  rcases h3 with ⟨z, _⟩ | ⟨z, _⟩ | ⟨_, z, _⟩ | ⟨_, fs, rfl, l1, hf⟩
  · omega
  · omega
  · omega
  · have hlt := (List.getElem?_eq_some_iff.mp hk).1
    rw [← l1] at hlt
    have hv := List.getElem?_eq_getElem hlt
    unfold w_fd
    rw [w_at_mem hD h2]
    simp only
    rw [List.getD_eq_getElem?_getD, hv]
    exact hf k t _ hk hv
theorem n_v_some {vs : List Value} {n : Nat} {v : Value} (hn : n < vs.length) (h : n_v vs n = v) : vs[n]? = some v := by
  unfold n_v at h
  rw [List.getElem?_eq_getElem hn] at h ⊢
  rw [← h]; rfl
/-- System.arraycopy of ints and bytes, where both ends lie in the rows -/
theorem cl_copy {l : Launch} {D : va_G} {kA : Nat → ClassId} {G : List rg_T} {own : String} {index r1 r2 kd n1 m1 n2 m2 rk : Nat} {lo1 hi1 lo2 hi2 p1 p2 p3 : Int} {rs1 rs2 : List Nat} (hg1 : G[r1]? = some (kd, n1, m1, (0, lo1, hi1, rs1), [])) (hg2 : G[r2]? = some (kd, n2, m2, (0, lo2, hi2, rs2), [])) (hkd : (decide (kd = 0) || (decide (kd = 1) && decide (-128 ≤ lo1) && decide (hi1 ≤ 127))) = true) (hle : (decide (lo2 ≤ lo1) && decide (hi1 ≤ hi2)) = true) (hrk : 1 ≤ rk)
    (hl : Cond.methodLink own index arraycopyName ∈ lw_g) (hnat : Cond.native arraycopyName ∈ lw_g) (hst : Cond.static arraycopyName ∈ lw_g) (hini : Cond.initialized "java/lang/System" ∈ lw_g) :
    cl_ok l D kA G own (.invokestatic index) 3 ([(2, 0, 0, [r1]), (0, 0, p1, []), (2, 0, 0, [r2]), (0, 0, p2, []), (0, 0, p3, [])], none, false, rk, 0, 0, [], [], (2 ^ r2, [], [(21, [1, 4], [(n1 : Int)]), (21, [3, 4], [(n2 : Int)])], [], [])) := by
  intro p e R s m args below meth c H locs cells slots Q cc pc nL ret nm A ws ta ls av gv hv rest X hK hN hA hP hD hS hth hag hgv hhv hpr hrest hfr hlo hce hsl hls hdec kk
  have hag' : ag_ok ta [(2, 0, 0, [r1]), (0, 0, p1, []), (2, 0, 0, [r2]), (0, 0, p2, []), (0, 0, p3, [])] av := hag
  cases hv with
  | cons _ _ => exact hhv.elim
  | nil =>
  cases gv with
  | cons _ _ => exact hgv.elim
  | nil =>
  match av, hag' with
  | [v0, v1, v2, v3, v4], ⟨h0, h1, h2, h3, h4, _⟩ =>
    obtain ⟨a0, q0r, rfl, ha0, hr0⟩ := tv_ref h0 rfl
    obtain ⟨sp, rfl, sp1, sp2⟩ := tv_int h1 rfl
    obtain ⟨a1, q1r, rfl, ha1, hr1⟩ := tv_ref h2 rfl
    obtain ⟨dp, rfl, dp1, dp2⟩ := tv_int h3 rfl
    obtain ⟨n, rfl, nn1, nn2⟩ := tv_int h4 rfl
    rw [List.mem_singleton.mp hr0] at ha0
    rw [List.mem_singleton.mp hr1] at ha1
    have e1 : v_iv (.int sp) + v_iv (.int n) ≤ n1 := (hpr (21, [1, 4], [(n1 : Int)]) List.mem_cons_self).2
    have e2 : v_iv (.int dp) + v_iv (.int n) ≤ n2 := (hpr (21, [3, 4], [(n2 : Int)]) (List.mem_cons_of_mem _ List.mem_cons_self)).2
    have e1' : sp.toInt + n.toInt ≤ n1 := e1
    have e2' : dp.toInt + n.toInt ≤ n2 := e2
    have sp0 : 0 ≤ sp.toInt := sp1
    have dp0 : 0 ≤ dp.toInt := dp1
    have n0 : 0 ≤ n.toInt := nn1
    simp only [Bool.or_eq_true, Bool.and_eq_true, decide_eq_true_eq] at hkd hle
    obtain ⟨i0, c0, hq0, hgo0⟩ := th_at hth ha0 hg1
    obtain ⟨i1, c1, hq1, hgo1⟩ := th_at hth ha1 hg2
    have hk3 : kd < 3 := by omega
    have hkk : kd = 0 ∨ kd = 1 := by omega
    rcases hgo0 with ⟨_, l0, f, rfl, la1, la2, _, hf, _⟩ | ⟨z, _⟩ | ⟨z, _⟩ | ⟨z, _⟩
    rotate_left
    · exact absurd z (by show ¬ kd = 3; omega)
    · exact absurd z (by show ¬ 4 ≤ kd; omega)
    · exact absurd z (by show ¬ 10 ≤ kd; omega)
    rcases hgo1 with ⟨z1, l1, g, rfl, lb1, lb2, lb3, hg, hg'⟩ | ⟨z, _⟩ | ⟨z, _⟩ | ⟨z, _⟩
    rotate_left
    · exact absurd z (by show ¬ kd = 3; omega)
    · exact absurd z (by show ¬ 4 ≤ kd; omega)
    · exact absurd z (by show ¬ 10 ≤ kd; omega)
    have la1' : n1 ≤ l0 := la1
    have lb1' : n2 ≤ l1 := lb1
    have lt0 : ∀ x : Int32, 0 ≤ x.toInt → ¬ x < 0 := fun x hx q => by have h7 := i32_lt.mp q; rw [show (0 : Int32).toInt = 0 from rfl] at h7; omega
    have tn : ∀ x : Int32, x.toNatClampNeg = x.toInt.toNat := fun _ => rfl
    have hml : c.maxLocals = ls.size := X.2.2.1.trans hls.symm
    have room : (rest.map fun v => v.category).sum + (nativeFrameWords "java/lang/System" "arraycopy" 5 + 11) ≤ R.locals := by
      have : nativeFrameWords "java/lang/System" "arraycopy" 5 ≤ 30 := by decide +kernel
      have h64 : 64 * (rk + 1) ≤ R.locals := hlo
      omega
    have hfr1 : 1 ≤ R.frames := by have : rk + 1 ≤ R.frames := hfr; omega
    have fin : ∀ (H1 : Heap) (locs1 : List Loc), va_P D classes (ws.set i1 (a1, .inl (kA kd, l1, .inl (va_cpy f g sp.toNatClampNeg dp.toNatClampNeg n.toNatClampNeg)))) H1 → va_D A (ws.set i1 (a1, .inl (kA kd, l1, .inl (va_cpy f g sp.toNatClampNeg dp.toNatClampNeg n.toNatClampNeg)))) → va_S A s.heap H1 locs1 → W p l e R s m args below meth c H1 locs1 cells slots Q (F0 m (pc + 3) ls rest) := fun H1 locs1 g1 g2 g3 => by
      refine kk ta _ H1 locs1 none (fun _ _ q => q) (th_set hD hth hq1 ha1 hg2 (Or.inl ⟨hk3, l1, _, rfl, lb1, lb2, lb3, fun j hj => ?_, fun j t' hj ht' => by cases ht'⟩)) g1 g2 g3 trivial ⟨fun f hf => (by cases hf), Or.inl rfl⟩ (fun q => by cases q) (kp_arr hq1 ha1 (by show (2 ^ r2).testBit r2 = true; rw [Nat.testBit_two_pow_self]))
      unfold va_cpy
      split
      · rename_i hc
        have := tv_rng (hf (sp.toNatClampNeg + (j - dp.toNatClampNeg)) (by rw [tn, tn] at *; omega))
        exact Or.inl ⟨rfl, _, rfl, by show lo2 ≤ _; have q : lo1 ≤ (f (sp.toNatClampNeg + (j - dp.toNatClampNeg))).toInt := this.1; omega, by show _ ≤ hi2; have q : (f (sp.toNatClampNeg + (j - dp.toNatClampNeg))).toInt ≤ hi1 := this.2; omega⟩
      · exact hg j hj
    rcases hkk with rfl | rfl
    · exact va_copyi X.1 X.2.1 hml X.2.2.2.1 (X.2.2.2.2.1 _ hl) (X.2.2.2.2.1 _ hnat) (X.2.2.2.2.1 _ hst) (X.2.2.2.2.1 _ hini) hK hP hD hS i0 i1 0 0 hq0 hq1 rfl rfl rfl (lt0 _ sp0) (lt0 _ dp0) (lt0 _ n0) (by rw [tn, tn]; omega) (by rw [tn, tn]; omega) (fun i hi => rfl) hfr1 room hdec fin
    · refine va_copyi X.1 X.2.1 hml X.2.2.2.1 (X.2.2.2.2.1 _ hl) (X.2.2.2.2.1 _ hnat) (X.2.2.2.2.1 _ hst) (X.2.2.2.2.1 _ hini) hK hP hD hS i0 i1 1 1 hq0 hq1 rfl rfl rfl (lt0 _ sp0) (lt0 _ dp0) (lt0 _ n0) (by rw [tn, tn]; omega) (by rw [tn, tn]; omega) (fun i hi => ?_) hfr1 room hdec fin
      have := tv_rng (hf (sp.toNatClampNeg + i) (by rw [tn, tn] at *; omega))
      have q1 : lo1 ≤ (f (sp.toNatClampNeg + i)).toInt := this.1
      have q2 : (f (sp.toNatClampNeg + i)).toInt ≤ hi1 := this.2
      generalize f (sp.toNatClampNeg + i) = x at q1 q2 ⊢
      have e9 : x.toInt8.toInt32.toInt = x.toInt := by
        rw [Int8.toInt_toInt32, Int32.toInt_toInt8]
        exact Int.bmod_eq_of_le_mul_two (by show -(256 : Int) ≤ _; omega) (by show _ < (256 : Int); omega)
      rw [← Int32.toInt_inj.mp e9]
      exact pk_fb _
/-- a contract without its ends -/
theorem cl_nopa {l : Launch} {D : va_G} {kA : Nat → ClassId} {G : List rg_T} {own : String} {op : ClassFile.Instr} {len : Nat} {a : List tv_T} {rt : Option tv_T} {pu : Bool} {rk mc ms : Nat} {PA : List sy_T} {ga : ga_L} {mo : mo_T} (h : cl_ok l D kA G own op len (a, rt, pu, rk, mc, ms, PA, ga, mo)) : cl_ok l D kA G own op len (a, rt, pu, rk, mc, ms, [], ga, mo) := by
  intro p e R s m args below meth c H locs cells slots Q cc pc nL ret nm A ws ta ls av gv hv rest X hK hN hA hP hD hS hth hag hgv hhv hpr hrest hfr hlo hce hsl hls hdec kk
  exact h p e R s m args below meth c H locs cells slots Q cc pc nL ret nm A ws ta ls av gv hv rest X hK hN hA hP hD hS hth hag hgv hhv hpr hrest hfr hlo hce hsl hls hdec (fun tb w1 H1 locs1 r b1 b2 b3 b4 b5 b6 b8 b7 b9 => kk tb w1 H1 locs1 r b1 b2 b3 b4 b5 b6 ⟨b8.1, Or.inl rfl⟩ b7 b9)
/-! what looks at things that never change -/
theorem ro_ref {kA : Nat → ClassId} {G : List rg_T} {ta : Nat → Option Nat} {ws : va_W} (hth : th_ok kA G ta ws) {r : Nat} (hr : ro_id r = true) (h5 : r ≠ 5500) : tv_ok ta (2, 0, 0, [r]) (.ref (kA r)) := by
  obtain ⟨r', _, h2, h3⟩ := hth.2 r hr
  rw [h3 h5] at h2
  exact Or.inr (Or.inr (Or.inl ⟨rfl, _, r, rfl, h2, List.mem_singleton.mpr rfl⟩))
theorem ro_is {kA : Nat → ClassId} {G : List rg_T} {ta : Nat → Option Nat} {ws : va_W} (hth : th_ok kA G ta ws) {r : Nat} (hg : G[r]? = none) {v : Value} (h : tv_ok ta (2, 0, 0, [r]) v) : v = .ref (kA r) := by
  obtain ⟨a, r', rfl, h1, h2⟩ := tv_ref h rfl
  rw [List.mem_singleton.mp h2] at h1
  rcases hth.1 a r h1 with ⟨g, e, z, _⟩ | ⟨_, _, z, _⟩
  · rw [hg] at z; cases z
  · rw [z]
abbrev en_ro (as : List tv_T) (t : tv_T) : en_T := (as, some t, true, 0, 0, 0, [], [], (0, [], [], [], []))
/-- a step that only looks -/
theorem cl_look {l : Launch} {D : va_G} {kA : Nat → ClassId} {G : List rg_T} {own : String} {op : ClassFile.Instr} {len : Nat} {as : List tv_T} {t : tv_T}
    (h : ∀ (p : Program) (e : Env) (R : Room) (s : State) (m : MethodId) (args : Array Value) (below : List Frame) (meth : Method) (c : Code) (H : Heap) (locs : List Loc) (cells slots : Nat) (Q : State → Prop) (cc : ByteArray) (pc nL : Nat) (ret : Option FieldType) (nm : String) (A : Nat → Prop) (ws : va_W) (ta : Nat → Option Nat) (ls : Array Slot) (av rest : List Value),
      cx p s m args meth c cc nL ret own nm → nsr kA A s → va_S A s.heap H locs → th_ok kA G ta ws → ag_ok ta as av → decode cc pc = .ok (op, len) → (∀ v, tv_ok ta t v → W p l e R s m args below meth c H locs cells slots Q (F0 m (pc + len) ls (v :: rest))) → W p l e R s m args below meth c H locs cells slots Q (F0 m pc ls (av.reverse ++ rest))) : cl_ok l D kA G own op len (en_ro as t) := by
  intro p e R s m args below meth c H locs cells slots Q cc pc nL ret nm A ws ta ls av gv hv rest X hK hN hA hP hD hS hth hag hgv hhv hpr hrest hfr hlo hce hsl hls hdec kk
  refine h p e R s m args below meth c H locs cells slots Q cc pc nL ret nm A ws ta ls av rest X hN hS hth hag hdec (fun v hv2 => ?_)
  exact kk ta ws H locs (some v) (fun _ _ q => q) hth hP hD hS hv2 ⟨fun f hf => absurd hf List.not_mem_nil, Or.inl rfl⟩ (fun _ => rfl) kp_refl
theorem cl_ldc {l : Launch} {D : va_G} {kA : Nat → ClassId} {G : List rg_T} {own tx : String} {idx i : Nat} (h : (own, idx, tx, i) ∈ ro_tab) (hi : ro_id (5000 + i) = true) (h5 : 5000 + i ≠ 5500) : cl_ok l D kA G own (.ldc idx) 2 (en_ro [] (2, 0, 0, [5000 + i])) := by
  refine cl_look (fun p e R s m args below meth c H locs cells slots Q cc pc nL ret nm A ws ta ls av rest X hN hS hth hag hdec kk => ?_)
  cases av with
  | cons _ _ => exact hag.elim
  | nil => exact va_ldcS X.1 X.2.1 X.2.2.2.1 (hN.2.2.2.1 _ h) hdec (kk _ (ro_ref hth hi h5))
theorem cl_ldcw {l : Launch} {D : va_G} {kA : Nat → ClassId} {G : List rg_T} {own tx : String} {idx i : Nat} (h : (own, idx, tx, i) ∈ ro_tab) (hi : ro_id (5000 + i) = true) (h5 : 5000 + i ≠ 5500) : cl_ok l D kA G own (.ldc_w idx) 3 (en_ro [] (2, 0, 0, [5000 + i])) := by
  refine cl_look (fun p e R s m args below meth c H locs cells slots Q cc pc nL ret nm A ws ta ls av rest X hN hS hth hag hdec kk => ?_)
  cases av with
  | cons _ _ => exact hag.elim
  | nil => exact va_ldcwS X.1 X.2.1 X.2.2.2.1 (hN.2.2.2.1 _ h) hdec (kk _ (ro_ref hth hi h5))
theorem cl_compact {l : Launch} {D : va_G} {kA : Nat → ClassId} {G : List rg_T} {own : String} {idx : Nat} (h : Cond.fieldLink own idx "java/lang/String" "COMPACT_STRINGS" "Z" ∈ lw_g) : cl_ok l D kA G own (.getstatic idx) 3 (en_ro [] (0, 1, 1, [])) := by
  refine cl_look (fun p e R s m args below meth c H locs cells slots Q cc pc nL ret nm A ws ta ls av rest X hN hS hth hag hdec kk => ?_)
  cases av with
  | cons _ _ => exact hag.elim
  | nil => exact va_gets X.1 X.2.1 hN.2.2.2.2.1 hS X.2.2.2.1 (X.2.2.2.2.1 _ h) (fun _ q => q) hdec (kk _ (Or.inl ⟨rfl, 1, rfl, by decide, by decide⟩))
def ro_strs : List Nat := (List.range ro_N).map (fun i => 5000 + i)
def ro_ids : List Nat := (List.range ro_N).map (fun i => 5000 + i) ++ (List.range ro_N).map (fun i => 5200 + i) ++ [5400, 5401, 5500]
theorem ro_ids_mem {r : Nat} (h : ro_id r = true) : r ∈ ro_ids := by
  unfold ro_id at h
  unfold ro_ids
  simp only [Bool.or_eq_true, Bool.and_eq_true, decide_eq_true_eq] at h
  simp only [List.mem_append, List.mem_map, List.mem_range, List.mem_cons, List.not_mem_nil, or_false]
  unfold ro_N
  rcases h with (((⟨a, b⟩ | ⟨a, b⟩) | a) | a) | a
  · exact Or.inl (Or.inl ⟨r - 5000, by omega, by omega⟩)
  · exact Or.inl (Or.inr ⟨r - 5200, by omega, by omega⟩)
  · exact Or.inr (Or.inl a)
  · exact Or.inr (Or.inr (Or.inl a))
  · exact Or.inr (Or.inr (Or.inr a))
theorem cl_format {l : Launch} {D : va_G} {kA : Nat → ClassId} {G : List rg_T} {own : String} {idx : Nat} (h : Cond.fieldLink own idx "jdk/internal/util/Preconditions" "SIOOBE_FORMATTER" "Ljava/util/function/BiFunction;" ∈ lw_g) : cl_ok l D kA G own (.getstatic idx) 3 (en_ro [] (3, 0, 0, ro_ids)) := by
  refine cl_look (fun p e R s m args below meth c H locs cells slots Q cc pc nL ret nm A ws ta ls av rest X hN hS hth hag hdec kk => ?_)
  cases av with
  | cons _ _ => exact hag.elim
  | nil =>
    obtain ⟨v, h1, h2⟩ := hN.2.2.2.2.2.2.2.2
    refine va_gets X.1 X.2.1 h2 hS X.2.2.2.1 (X.2.2.2.2.1 _ h) (fun _ q => q) hdec (kk _ (Or.inr (Or.inr (Or.inr (Or.inl ⟨rfl, ?_⟩)))))
    rcases h1 with h1 | h1
    · exact Or.inl h1
    · obtain ⟨r', q1, q2, _⟩ := hth.2 5500 (by decide)
      exact Or.inr ⟨_, r', h1, q2, ro_ids_mem q1⟩
theorem cl_counts {l : Launch} {D : va_G} {kA : Nat → ClassId} {G : List rg_T} {own : String} {idx : Nat} {host : String} (h : Cond.fieldLinkNest own idx "DrawingHouse" "ORDER_COUNTS" "[I" host ∈ lw_n) : cl_ok l D kA G own (.getstatic idx) 3 (en_ro [] (2, 0, 0, [5400])) := by
  refine cl_look (fun p e R s m args below meth c H locs cells slots Q cc pc nL ret nm A ws ta ls av rest X hN hS hth hag hdec kk => ?_)
  cases av with
  | cons _ _ => exact hag.elim
  | nil => exact va_getsN X.1 X.2.1 hN.2.2.2.2.2.1.1 hS X.2.2.2.1 (hN.1 _ h) (fun _ q => q) hdec (kk _ (ro_ref hth (by decide) (by decide)))
theorem cl_starts {l : Launch} {D : va_G} {kA : Nat → ClassId} {G : List rg_T} {own : String} {idx : Nat} {host : String} (h : Cond.fieldLinkNest own idx "DrawingHouse" "ORDER_STARTS" "[I" host ∈ lw_n) : cl_ok l D kA G own (.getstatic idx) 3 (en_ro [] (2, 0, 0, [5401])) := by
  refine cl_look (fun p e R s m args below meth c H locs cells slots Q cc pc nL ret nm A ws ta ls av rest X hN hS hth hag hdec kk => ?_)
  cases av with
  | cons _ _ => exact hag.elim
  | nil => exact va_getsN X.1 X.2.1 hN.2.2.2.2.2.2.1 hS X.2.2.2.1 (hN.1 _ h) (fun _ q => q) hdec (kk _ (ro_ref hth (by decide) (by decide)))
theorem cl_value {l : Launch} {D : va_G} {kA : Nat → ClassId} {G : List rg_T} {own : String} {idx i : Nat} (h : Cond.fieldLink own idx "java/lang/String" "value" "[B" ∈ lw_g) (hg : G[5000 + i]? = none) (hi : i < ro_N) (hr : ro_id (5200 + i) = true) (h5 : 5200 + i ≠ 5500) : cl_ok l D kA G own (.getfield idx) 3 (en_ro [(2, 0, 0, [5000 + i])] (2, 0, 0, [5200 + i])) := by
  refine cl_look (fun p e R s m args below meth c H locs cells slots Q cc pc nL ret nm A ws ta ls av rest X hN hS hth hag hdec kk => ?_)
  match av, hag with
  | [v0], ⟨h0, _⟩ =>
    rw [ro_is hth hg h0]
    exact vk_getf X.1 X.2.1 (hN.2.2.1 i hi).2.2.1 hS X.2.2.2.1 (X.2.2.2.2.1 _ h) (fun _ q => q) hdec (kk _ (ro_ref hth hr h5))
theorem cl_coder {l : Launch} {D : va_G} {kA : Nat → ClassId} {G : List rg_T} {own : String} {idx i : Nat} (h : Cond.fieldLink own idx "java/lang/String" "coder" "B" ∈ lw_g) (hg : G[5000 + i]? = none) (hi : i < ro_N) : cl_ok l D kA G own (.getfield idx) 3 (en_ro [(2, 0, 0, [5000 + i])] (0, 0, 0, [])) := by
  refine cl_look (fun p e R s m args below meth c H locs cells slots Q cc pc nL ret nm A ws ta ls av rest X hN hS hth hag hdec kk => ?_)
  match av, hag with
  | [v0], ⟨h0, _⟩ =>
    rw [ro_is hth hg h0]
    exact vk_getf X.1 X.2.1 (hN.2.2.1 i hi).2.1 hS X.2.2.2.1 (X.2.2.2.2.1 _ h) (fun _ q => q) hdec (kk _ (Or.inl ⟨rfl, 0, rfl, by decide, by decide⟩))
theorem cl_tlen {l : Launch} {D : va_G} {kA : Nat → ClassId} {G : List rg_T} {own : String} {i n : Nat} (hg : G[5200 + i]? = none) (hi : i < ro_N) (hn : (ro_txt.getD i []).length = n) (hb : n < 1000) : cl_ok l D kA G own .arraylength 1 (en_ro [(2, 0, 0, [5200 + i])] (0, (n : Int), (n : Int), [])) := by
  refine cl_look (fun p e R s m args below meth c H locs cells slots Q cc pc nL ret nm A ws ta ls av rest X hN hS hth hag hdec kk => ?_)
  match av, hag with
  | [v0], ⟨h0, _⟩ =>
    rw [ro_is hth hg h0]
    refine va_tlen X.1 X.2.1 (hN.2.2.1 i hi).2.2.2 hS rfl hdec (kk _ ?_)
    rw [hn]
    exact ln_ty (Nat.le_refl n) (Nat.le_refl n) (by omega)
def ro_in (i : Nat) (lo hi : Int) : Bool := (ro_txt.getD i []).all (fun b => decide (lo ≤ b.toInt) && decide (b.toInt ≤ hi))
theorem cl_tbyte {l : Launch} {D : va_G} {kA : Nat → ClassId} {G : List rg_T} {own : String} {i n : Nat} {lo hi plo phi : Int} (hg : G[5200 + i]? = none) (hi' : i < ro_N) (hn : (ro_txt.getD i []).length = n) (hp : 0 ≤ plo ∧ phi < n) (hb : ro_in i lo hi = true) : cl_ok l D kA G own .baload 1 (en_ro [(2, 0, 0, [5200 + i]), (0, plo, phi, [])] (0, lo, hi, [])) := by
  refine cl_look (fun p e R s m args below meth c H locs cells slots Q cc pc nL ret nm A ws ta ls av rest X hN hS hth hag hdec kk => ?_)
  match av, hag with
  | [v0, v1], ⟨h0, h1, _⟩ =>
    rw [ro_is hth hg h0]
    obtain ⟨x, rfl, x1, x2⟩ := tv_int h1 rfl
    have y1 : plo ≤ x.toInt := x1
    have y2 : x.toInt ≤ phi := x2
    have hx : 0 ≤ x.toInt := by omega
    obtain ⟨z1, z2, z3⟩ := in_nat (x := x) (n := n) hx (by omega)
    have hT := (hN.2.2.1 i hi').2.2.2
    rw [hn] at hT
    refine va_tb X.1 X.2.1 hT hS z1 rfl hdec (kk _ (Or.inl ⟨rfl, _, rfl, ?_⟩))
    rw [z2]
    have hlt : x.toInt.toNat < (ro_txt.getD i []).length := by omega
    have hm : ((ro_txt.getD i []).getD x.toInt.toNat 0) ∈ ro_txt.getD i [] := by
      generalize ro_txt.getD i [] = L at hlt ⊢
      rw [List.getD_eq_getElem?_getD, List.getElem?_eq_getElem hlt]; exact List.getElem_mem hlt
    have := List.all_eq_true.mp hb _ hm
    simp only [Bool.and_eq_true, decide_eq_true_eq] at this
    exact this
theorem cl_tint {l : Launch} {D : va_G} {kA : Nat → ClassId} {G : List rg_T} {own : String} {r : Nat} {L : List Int32} {lo hi plo phi : Int} (hr : r = 5400 ∧ L = ro_cnt ∨ r = 5401 ∧ L = ro_sta) (hg : G[r]? = none) (hp : 0 ≤ plo ∧ phi < 7) (hb : ((List.range 7).filter (fun j : Nat => decide (plo ≤ (j : Int)) && decide ((j : Int) ≤ phi))).all (fun j : Nat => decide (lo ≤ (L.getD j 0).toInt) && decide ((L.getD j 0).toInt ≤ hi)) = true) : cl_ok l D kA G own .iaload 1 (en_ro [(2, 0, 0, [r]), (0, plo, phi, [])] (0, lo, hi, [])) := by
  refine cl_look (fun p e R s m args below meth c H locs cells slots Q cc pc nL ret nm A ws ta ls av rest X hN hS hth hag hdec kk => ?_)
  match av, hag with
  | [v0, v1], ⟨h0, h1, _⟩ =>
    rw [ro_is hth hg h0]
    obtain ⟨x, rfl, x1, x2⟩ := tv_int h1 rfl
    have y1 : plo ≤ x.toInt := x1
    have y2 : x.toInt ≤ phi := x2
    have hx : 0 ≤ x.toInt := by omega
    obtain ⟨z1, z2, z3⟩ := in_nat (x := x) (n := 7) hx (by omega)
    have hm := List.all_eq_true.mp hb x.toInt.toNat (List.mem_filter.mpr ⟨List.mem_range.mpr (by omega), by simp only [Bool.and_eq_true, decide_eq_true_eq]; omega⟩)
    simp only [Bool.and_eq_true, decide_eq_true_eq] at hm
    rcases hr with ⟨rfl, rfl⟩ | ⟨rfl, rfl⟩
    · refine va_ti X.1 X.2.1 hN.2.2.2.2.2.1.2 hS z1 rfl hdec (kk _ (Or.inl ⟨rfl, _, rfl, ?_⟩))
      rw [z2]; exact hm
    · refine va_ti X.1 X.2.1 hN.2.2.2.2.2.2.2.1 hS z1 rfl hdec (kk _ (Or.inl ⟨rfl, _, rfl, ?_⟩))
      rw [z2]; exact hm
/-- a method of a String constant -/
theorem cl_string {l : Launch} {D : va_G} {kA : Nat → ClassId} {G : List rg_T} {own : String} {y : MethodName} {bytes : ByteArray} {maxL index i : Nat} {ret' : Option FieldType} {en : en_T} {ts : List tv_T} (hen : en.1 = (2, 0, 0, [5000 + i]) :: ts) (hg : G[5000 + i]? = none) (hi : i < ro_N) (hcl : y.cls = "java/lang/String") (hM : ct_ok l D kA G y (Cond.code y bytes maxL ret' :: lw_g) en)
    (hc : Cond.code y bytes maxL ret' ∈ lw_g) (hini : Cond.initialized y.cls ∈ lw_g) (hl : Cond.methodLink own index y ∈ lw_g) (hin : Cond.instanceMethod y ∈ lw_g) (hsel : Cond.selects y.cls y y ∈ lw_g)
    (hd : y.cls ≠ "java/lang/invoke/MethodHandle" ∧ y.cls ≠ "java/lang/invoke/VarHandle" ∧ (parseMethodDescriptor y.desc).map (fun d => d.parameters.length) = some ts.length) (hm : maxL ≤ 37) : cl_ok l D kA G own (.invokevirtual index) 3 en := by
  intro p e R s m args below meth c H locs cells slots Q cc pc nL ret nm A ws ta ls av gv hv rest X hK hN hA hP hD hS hth hag hgv hhv hpr hrest hfr hlo hce hsl hls hdec kk
  have hM2 := hM H.size ta ws av gv hv hth hag hgv hhv hpr
  rw [hen] at hag
  cases av with
  | nil => exact hag.elim
  | cons v0 As =>
    obtain rfl := ro_is hth hg hag.1
    have hrv : ∃ cellB : Cell, H[kA (5000 + i)]? = some cellB ∧ cellB.vm.isStatics = false ∧ s.vm.findClass y.cls = some cellB.cls := by
      obtain ⟨cell, h1, h2, h3, -⟩ := (hN.2.2.1 i hi).1.kept hS.2.1
      exact ⟨cell, h1, h2, by rw [hcl]; exact h3⟩
    have hst : (Value.ref (kA (5000 + i)) :: As).reverse ++ rest = As.reverse ++ .ref (kA (5000 + i)) :: rest := by rw [List.reverse_cons, List.append_assoc]; rfl
    exact m_go (k_rV16 X hM2 rfl hc hini hl hin hsel ts.length hd ⟨hfr, by show 16 + (maxL + 11) + 64 * en.2.2.2.1 ≤ R.locals; omega⟩ rfl rfl hrv (m_pre hN hA hS hK hP hD) (ag_len hag.2) hls hst hrest hdec ⟨hce, hsl⟩) hP hD hS hA kk
