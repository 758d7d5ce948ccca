/-! what proofs of oracles use -/
theorem fc_un {f : fc_T} {r : List fc_T} {ta : Nat → Option Nat} {ws : va_W} {vs : List Value} (hl : f.1 < 100) (h : fc_ok (f :: r) ta ws vs) : fc_m f.1 (f.2.1.map (n_v vs)) f.2.2 ws ∧ fc_ok r ta ws vs := by
  unfold fc_ok at h
  rw [if_pos hl] at h
  exact ⟨h.1.2, h.2⟩
theorem fc_us {f : fc_T} {r : List fc_T} {ta : Nat → Option Nat} {ws : va_W} {vs : List Value} (hl : ¬ f.1 < 100) (h : fc_ok (f :: r) ta ws vs) : ∃ ta0 w0, ta_le ta0 ta ∧ fc_s f ta0 w0 ws vs ∧ fc_ok r ta0 w0 vs := by
  unfold fc_ok at h
  rw [if_neg hl] at h
  exact h
theorem tv_rng {ta : Nat → Option Nat} {lo hi : Int} {rs : List Nat} {v : Value} (h : tv_ok ta (0, lo, hi, rs) v) : lo ≤ v_iv v ∧ v_iv v ≤ hi := by
  obtain ⟨x, rfl, a, b⟩ := tv_int h rfl
  exact ⟨a, b⟩
theorem tv_rg {ta : Nat → Option Nat} {lo hi : Int} {r : Nat} {v : Value} (h : tv_ok ta (2, lo, hi, [r]) v) : ta (v_ad v) = some r := by
  obtain ⟨a, r', rfl, h1, h2⟩ := tv_ref h rfl
  rw [List.mem_singleton.mp h2] at h1
  exact h1
theorem tv_in {ta : Nat → Option Nat} {lo hi lo' hi' : Int} {rs rs' : List Nat} {v : Value} (h : tv_ok ta (0, lo, hi, rs) v) (h1 : lo' ≤ v_iv v) (h2 : v_iv v ≤ hi') : tv_ok ta (0, lo', hi', rs') v := by
  obtain ⟨x, rfl, _, _⟩ := tv_int h rfl
  exact Or.inl ⟨rfl, x, rfl, h1, h2⟩
/-- an int that is wanted -/
theorem iv_ex {ta : Nat → Option Nat} {lo hi z : Int} (h1 : lo ≤ z) (h2 : z ≤ hi) (h3 : -2147483648 ≤ lo) (h4 : hi ≤ 2147483647) : ∃ x : Int32, x.toInt = z ∧ tv_ok ta (0, lo, hi, []) (.int x) := by
  refine ⟨Int32.ofInt z, ?_, ?_⟩
  · exact Int32.toInt_ofInt_of_le (by omega) (by omega)
  · have e : (Int32.ofInt z).toInt = z := Int32.toInt_ofInt_of_le (by omega) (by omega)
    exact Or.inl ⟨rfl, _, rfl, by show lo ≤ (Int32.ofInt z).toInt; rw [e]; exact h1, by show (Int32.ofInt z).toInt ≤ hi; rw [e]; exact h2⟩
/-- elements of the world are of the kinds of their regions -/
theorem th_el {kA : Nat → ClassId} {G : List rg_T} {A : Nat → Prop} {ta : Nat → Option Nat} {ws : va_W} (hD : va_D A ws) (hth : th_ok kA G ta ws) {a r : Nat} (ha : ta a = some r) {kd n m : Nat} {lo hi : Int} {rs : List Nat} {L : List tv_T} (hg : G[r]? = some (kd, n, m, (0, lo, hi, rs), L)) (hk : kd < 3) {j : Nat} (hj : j < n) : lo ≤ w_el ws a j ∧ w_el ws a j ≤ hi := by
  obtain ⟨e, h2, h3⟩ := th_in hth ha hg
  rcases h3 with ⟨_, n', f, rfl, l1, l2, _, hf, _⟩ | ⟨z, _⟩ | ⟨z, _⟩ | ⟨z, _⟩
  · have := tv_rng (hf j (Nat.lt_of_lt_of_le hj l1))
    unfold w_el
    rw [w_at_mem hD h2]
    exact this
  · exact absurd z (by show ¬ kd = 3; omega)
  · exact absurd z (by show ¬ 4 ≤ kd; omega)
  · exact absurd z (by show ¬ 10 ≤ kd; omega)
theorem sum_bd {ws : va_W} {a : Nat} {lo hi : Int} : ∀ {n : Nat}, (∀ j, j < n → lo ≤ w_el ws a j ∧ w_el ws a j ≤ hi) → n * lo ≤ w_sum ws a n ∧ w_sum ws a n ≤ n * hi
  | 0, _ => by unfold w_sum; omega
  | n + 1, h => by
    have ih := sum_bd (n := n) (fun j hj => h j (by omega))
    have := h n (by omega)
    unfold w_sum
    rw [Int.natCast_add, Int.add_mul, Int.add_mul]
    omega
theorem sum_eq {w0 w1 : va_W} {a : Nat} : ∀ {n : Nat}, (∀ j, j < n → w_el w1 a j = w_el w0 a j) → w_sum w1 a n = w_sum w0 a n
  | 0, _ => rfl
  | n + 1, h => by
    unfold w_sum
    rw [sum_eq (n := n) (fun j hj => h j (by omega)), h n (by omega)]
theorem sum_set {w0 w1 : va_W} {a i : Nat} {v : Int} (h : ∀ b j, w_el w1 b j = if b = a ∧ j = i then v else w_el w0 b j) : ∀ {n : Nat}, i < n → w_sum w1 a n = w_sum w0 a n - w_el w0 a i + v
  | 0, hi => by omega
  | n + 1, hi => by
    unfold w_sum
    by_cases e : i = n
    · subst e
      have e1 : w_sum w1 a i = w_sum w0 a i := sum_eq (fun j hj => by rw [h a j, if_neg (by omega)])
      have e2 : w_el w1 a i = v := by rw [h a i, if_pos ⟨rfl, rfl⟩]
      omega
    · have e1 := sum_set h (n := n) (by omega)
      have e2 : w_el w1 a n = w_el w0 a n := by rw [h a n, if_neg (by omega)]
      omega
theorem el_ne {w0 w1 : va_W} {a i b j : Nat} {v : Int} (h : ∀ b j, w_el w1 b j = if b = a ∧ j = i then v else w_el w0 b j) (hn : b ≠ a ∨ j ≠ i) : w_el w1 b j = w_el w0 b j := by
  rw [h b j, if_neg (by omega)]
theorem ag_one {ta : Nat → Option Nat} {t : tv_T} {v : Value} (h : tv_ok ta t v) : ag_ok ta [t] [v] := ⟨h, trivial⟩
theorem n_v_new {vs : List Value} {v : Value} {n : Nat} (h : vs.length = n) : n_v (vs ++ [v]) n = v := by
  unfold n_v
  rw [List.getElem?_append_right (by omega), h, Nat.sub_self]; rfl
theorem n_v_old {vs xs : List Value} {m : Nat} (h : m < vs.length) : n_v (vs ++ xs) m = n_v vs m := by
  unfold n_v
  rw [List.getElem?_append_left h]
theorem th_fd {kA : Nat → ClassId} {G : List rg_T} {A : Nat → Prop} {ta : Nat → Option Nat} {ws : va_W} (hD : va_D A ws) (hth : th_ok kA G ta ws) {a r : Nat} (ha : ta a = some r) {g : rg_T} (hg : G[r]? = some g) {k : Nat} {t : tv_T} (hk : g.2.2.2.2[k]? = some t) (h10 : decide (10 ≤ g.1) = true) : tv_ok ta t (w_fd ws a k) := by
  obtain ⟨e, h2, h3⟩ := th_in hth ha hg
  have h10' : 10 ≤ g.1 := by simpa using h10
  rcases h3 with ⟨z, _⟩ | ⟨z, _⟩ | ⟨_, z, _⟩ | ⟨_, fs, rfl, l1, hf⟩
  · omega
  · omega
  · omega
  · have hlt := (List.getElem?_eq_some_iff.mp hk).1
    rw [← l1] at hlt
    have hv := List.getElem?_eq_getElem hlt
    unfold w_fd
    rw [w_at_mem hD h2]
    simp only
    rw [List.getD_eq_getElem?_getD, hv]
    exact hf k t _ hk hv
theorem n_v_some {vs : List Value} {n : Nat} {v : Value} (hn : n < vs.length) (h : n_v vs n = v) : vs[n]? = some v := by
  unfold n_v at h
  rw [List.getElem?_eq_getElem hn] at h ⊢
  rw [← h]; rfl
/-- System.arraycopy of ints and bytes, where both ends lie in the rows -/
theorem cl_copy {l : Launch} {D : va_G} {kA : Nat → ClassId} {G : List rg_T} {own : String} {index r1 r2 kd n1 m1 n2 m2 rk : Nat} {lo1 hi1 lo2 hi2 p1 p2 p3 : Int} {rs1 rs2 : List Nat} (hg1 : G[r1]? = some (kd, n1, m1, (0, lo1, hi1, rs1), [])) (hg2 : G[r2]? = some (kd, n2, m2, (0, lo2, hi2, rs2), [])) (hkd : (decide (kd = 0) || (decide (kd = 1) && decide (-128 ≤ lo1) && decide (hi1 ≤ 127))) = true) (hle : (decide (lo2 ≤ lo1) && decide (hi1 ≤ hi2)) = true) (hrk : 1 ≤ rk)
    (hl : Cond.methodLink own index arraycopyName ∈ lw_g) (hnat : Cond.native arraycopyName ∈ lw_g) (hst : Cond.static arraycopyName ∈ lw_g) (hini : Cond.initialized "java/lang/System" ∈ lw_g) :
    cl_ok l D kA G own (.invokestatic index) 3 ([(2, 0, 0, [r1]), (0, 0, p1, []), (2, 0, 0, [r2]), (0, 0, p2, []), (0, 0, p3, [])], none, false, rk, 0, 0, [], [], (2 ^ r2, [], [(21, [1, 4], [(n1 : Int)]), (21, [3, 4], [(n2 : Int)])], [], [])) := by
  intro p e R s m args below meth c H locs cells slots Q cc pc nL ret nm A ws ta ls av gv hv rest X hK hN hA hP hD hS hth hag hgv hhv hpr hrest hfr hlo hce hsl hls hdec kk
  have hag' : ag_ok ta [(2, 0, 0, [r1]), (0, 0, p1, []), (2, 0, 0, [r2]), (0, 0, p2, []), (0, 0, p3, [])] av := hag
  cases hv with
  | cons _ _ => exact hhv.elim
  | nil =>
  cases gv with
  | cons _ _ => exact hgv.elim
  | nil =>
  match av, hag' with
  | [v0, v1, v2, v3, v4], ⟨h0, h1, h2, h3, h4, _⟩ =>
    obtain ⟨a0, q0r, rfl, ha0, hr0⟩ := tv_ref h0 rfl
    obtain ⟨sp, rfl, sp1, sp2⟩ := tv_int h1 rfl
    obtain ⟨a1, q1r, rfl, ha1, hr1⟩ := tv_ref h2 rfl
    obtain ⟨dp, rfl, dp1, dp2⟩ := tv_int h3 rfl
    obtain ⟨n, rfl, nn1, nn2⟩ := tv_int h4 rfl
    rw [List.mem_singleton.mp hr0] at ha0
    rw [List.mem_singleton.mp hr1] at ha1
    have e1 : v_iv (.int sp) + v_iv (.int n) ≤ n1 := (hpr (21, [1, 4], [(n1 : Int)]) List.mem_cons_self).2
    have e2 : v_iv (.int dp) + v_iv (.int n) ≤ n2 := (hpr (21, [3, 4], [(n2 : Int)]) (List.mem_cons_of_mem _ List.mem_cons_self)).2
    have e1' : sp.toInt + n.toInt ≤ n1 := e1
    have e2' : dp.toInt + n.toInt ≤ n2 := e2
    have sp0 : 0 ≤ sp.toInt := sp1
    have dp0 : 0 ≤ dp.toInt := dp1
    have n0 : 0 ≤ n.toInt := nn1
    simp only [Bool.or_eq_true, Bool.and_eq_true, decide_eq_true_eq] at hkd hle
    obtain ⟨i0, c0, hq0, hgo0⟩ := th_at hth ha0 hg1
    obtain ⟨i1, c1, hq1, hgo1⟩ := th_at hth ha1 hg2
    have hk3 : kd < 3 := by omega
    have hkk : kd = 0 ∨ kd = 1 := by omega
    rcases hgo0 with ⟨_, l0, f, rfl, la1, la2, _, hf, _⟩ | ⟨z, _⟩ | ⟨z, _⟩ | ⟨z, _⟩
    rotate_left
    · exact absurd z (by show ¬ kd = 3; omega)
    · exact absurd z (by show ¬ 4 ≤ kd; omega)
    · exact absurd z (by show ¬ 10 ≤ kd; omega)
    rcases hgo1 with ⟨z1, l1, g, rfl, lb1, lb2, lb3, hg, hg'⟩ | ⟨z, _⟩ | ⟨z, _⟩ | ⟨z, _⟩
    rotate_left
    · exact absurd z (by show ¬ kd = 3; omega)
    · exact absurd z (by show ¬ 4 ≤ kd; omega)
    · exact absurd z (by show ¬ 10 ≤ kd; omega)
    have la1' : n1 ≤ l0 := la1
    have lb1' : n2 ≤ l1 := lb1
    have lt0 : ∀ x : Int32, 0 ≤ x.toInt → ¬ x < 0 := fun x hx q => by have h7 := i32_lt.mp q; rw [show (0 : Int32).toInt = 0 from rfl] at h7; omega
    have tn : ∀ x : Int32, x.toNatClampNeg = x.toInt.toNat := fun _ => rfl
    have hml : c.maxLocals = ls.size := X.2.2.1.trans hls.symm
    have room : (rest.map fun v => v.category).sum + (nativeFrameWords "java/lang/System" "arraycopy" 5 + 11) ≤ R.locals := by
      have : nativeFrameWords "java/lang/System" "arraycopy" 5 ≤ 40 := by decide +kernel
      have h64 : 64 * (rk + 1) ≤ R.locals := hlo
      omega
    have hfr1 : 1 ≤ R.frames := by have : rk + 1 ≤ R.frames := hfr; omega
    have fin : ∀ (H1 : Heap) (locs1 : List Loc), va_P D classes (ws.set i1 (a1, .inl (kA kd, l1, .inl (va_cpy f g sp.toNatClampNeg dp.toNatClampNeg n.toNatClampNeg)))) H1 → va_D A (ws.set i1 (a1, .inl (kA kd, l1, .inl (va_cpy f g sp.toNatClampNeg dp.toNatClampNeg n.toNatClampNeg)))) → va_S A s.heap H1 locs1 → W p l e R s m args below meth c H1 locs1 cells slots Q (F0 m (pc + 3) ls rest) := fun H1 locs1 g1 g2 g3 => by
      refine kk ta _ H1 locs1 none (fun _ _ q => q) (th_set hD hth hq1 ha1 hg2 (Or.inl ⟨hk3, l1, _, rfl, lb1, lb2, lb3, fun j hj => ?_, fun j t' hj ht' => by cases ht'⟩)) g1 g2 g3 trivial ⟨fun f hf => (by cases hf), Or.inl rfl⟩ (fun q => by cases q) (kp_arr hq1 ha1 (by show (2 ^ r2).testBit r2 = true; rw [Nat.testBit_two_pow_self]))
      unfold va_cpy
      split
      · rename_i hc
        have := tv_rng (hf (sp.toNatClampNeg + (j - dp.toNatClampNeg)) (by rw [tn, tn] at *; omega))
        exact Or.inl ⟨rfl, _, rfl, by show lo2 ≤ _; have q : lo1 ≤ (f (sp.toNatClampNeg + (j - dp.toNatClampNeg))).toInt := this.1; omega, by show _ ≤ hi2; have q : (f (sp.toNatClampNeg + (j - dp.toNatClampNeg))).toInt ≤ hi1 := this.2; omega⟩
      · exact hg j hj
    rcases hkk with rfl | rfl
    · exact va_copyi X.1 X.2.1 hml X.2.2.2.1 (X.2.2.2.2.1 _ hl) (X.2.2.2.2.1 _ hnat) (X.2.2.2.2.1 _ hst) (X.2.2.2.2.1 _ hini) hK hP hD hS i0 i1 0 0 hq0 hq1 rfl rfl rfl (lt0 _ sp0) (lt0 _ dp0) (lt0 _ n0) (by rw [tn, tn]; omega) (by rw [tn, tn]; omega) (fun i hi => rfl) hfr1 room hdec fin
    · refine va_copyi X.1 X.2.1 hml X.2.2.2.1 (X.2.2.2.2.1 _ hl) (X.2.2.2.2.1 _ hnat) (X.2.2.2.2.1 _ hst) (X.2.2.2.2.1 _ hini) hK hP hD hS i0 i1 1 1 hq0 hq1 rfl rfl rfl (lt0 _ sp0) (lt0 _ dp0) (lt0 _ n0) (by rw [tn, tn]; omega) (by rw [tn, tn]; omega) (fun i hi => ?_) hfr1 room hdec fin
      have := tv_rng (hf (sp.toNatClampNeg + i) (by rw [tn, tn] at *; omega))
      have q1 : lo1 ≤ (f (sp.toNatClampNeg + i)).toInt := this.1
      have q2 : (f (sp.toNatClampNeg + i)).toInt ≤ hi1 := this.2
      generalize f (sp.toNatClampNeg + i) = x at q1 q2 ⊢
      have e9 : x.toInt8.toInt32.toInt = x.toInt := by
        rw [Int8.toInt_toInt32, Int32.toInt_toInt8]
        exact Int.bmod_eq_of_le_mul_two (by show -(256 : Int) ≤ _; omega) (by show _ < (256 : Int); omega)
      rw [← Int32.toInt_inj.mp e9]
      exact pk_fb _
/-- a contract without its ends -/
theorem cl_nopa {l : Launch} {D : va_G} {kA : Nat → ClassId} {G : List rg_T} {own : String} {op : ClassFile.Instr} {len : Nat} {a : List tv_T} {rt : Option tv_T} {pu : Bool} {rk mc ms : Nat} {PA : List sy_T} {ga : ga_L} {mo : mo_T} (h : cl_ok l D kA G own op len (a, rt, pu, rk, mc, ms, PA, ga, mo)) : cl_ok l D kA G own op len (a, rt, pu, rk, mc, ms, [], ga, mo) := by
  intro p e R s m args below meth c H locs cells slots Q cc pc nL ret nm A ws ta ls av gv hv rest X hK hN hA hP hD hS hth hag hgv hhv hpr hrest hfr hlo hce hsl hls hdec kk
  exact h p e R s m args below meth c H locs cells slots Q cc pc nL ret nm A ws ta ls av gv hv rest X hK hN hA hP hD hS hth hag hgv hhv hpr hrest hfr hlo hce hsl hls hdec (fun tb w1 H1 locs1 r b1 b2 b3 b4 b5 b6 b8 b7 b9 => kk tb w1 H1 locs1 r b1 b2 b3 b4 b5 b6 ⟨b8.1, Or.inl rfl⟩ b7 b9)
