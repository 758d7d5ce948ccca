/-! arraycopy, what it copies, and what lies beside it: predicates over further arrays of other regions -/
def cpu_ok (nl : List Nat) (na r2 : Nat) (gk : List tv_T) : Bool := decide (nl[0]? = some 2) && decide (nl[1]? = some 0) && decide (nl[na]? = some 1) && decide (nl[na + 1]? = some 3) && decide (nl[na + 2]? = some 4) && decide (2 ≤ na) && nl.all (fun q => decide (q < 5 + gk.length)) && (List.range na).all (fun i => decide (i < 2) || (match nl[i]? with | some q => decide (5 ≤ q) && (match gk[q - 5]? with | some t => decide (t.1 = 2) && t.2.2.2.all (fun r => decide (r ≠ r2)) | none => false) | none => false))
def vwU (ws : va_W) (na : Nat) (X : List Value) (i : Nat) (z : Int) : Int := match X[i]? with
  | some x => if i < na then w_ei ws (v_ad x) z else 0
  | none => 0
theorem ag_get {ta : Nat → Option Nat} : ∀ {ts : List tv_T} {vs : List Value}, ag_ok ta ts vs → ∀ {i : Nat} {t : tv_T}, ts[i]? = some t → ∃ v, vs[i]? = some v ∧ tv_ok ta t v
  | [], [], _, i, t, h => by cases h
  | t :: ts, v :: vs, hh, 0, t', h => ⟨v, rfl, by have e : t = t' := Option.some.inj h; rw [← e]; exact hh.1⟩
  | t :: ts, v :: vs, hh, i + 1, t', h => ag_get (ts := ts) (vs := vs) hh.2 (i := i) h
  | [], _ :: _, hh, _, _, _ => hh.elim
  | _ :: _, [], hh, _, _, _ => hh.elim
theorem w_el_ne {A2 : Nat → Prop} {ws : va_W} {q0 ad : Nat} {e0 e1 : va_E} (hD1 : va_D A2 (ws.set q0 (ad, e1))) (h : ws[q0]? = some (ad, e0)) {b : Nat} (hb : b ≠ ad) (j : Nat) : w_el (ws.set q0 (ad, e1)) b j = w_el ws b j := by
  unfold w_el
  rw [w_at_set (A1 := A2) hD1 h b, if_neg hb]
section
variable {PQ : pq_T}
theorem cl_copyU {l : Launch} {D : va_G} {kA : Nat → ClassId} {G : List rg_T} {own : String} {index r1 r2 n1 m1 n2 m2 rk k1 k2 na : Nat} {lo1 hi1 lo2 hi2 p1 p2 p3 : Int} {rs1 rs2 : List Nat} {gk : List tv_T} {nl : List Nat} (hg1 : G[r1]? = some (0, n1, m1, (0, lo1, hi1, rs1), [])) (hg2 : G[r2]? = some (0, n2, m2, (0, lo2, hi2, rs2), [])) (hok : cpu_ok nl na r2 gk = true) (hle : (lo2 ≤ lo1 ∧ hi1 ≤ hi2) ∨ ∀ (U : Nat → Int → Int) (xs : List Int) (sp dp n : Int), 0 ≤ sp → 0 ≤ dp → 0 ≤ n → xs.getD na 0 = sp → xs.getD (na + 1) 0 = dp → xs.getD (na + 2) 0 = n → PQ.1 k1 (fun _ _ => 0) (fun i _ => U i) xs → ∀ j, 0 ≤ j → j < n → lo2 ≤ U 1 (sp + j) ∧ U 1 (sp + j) ≤ hi2)
    (hT : ∀ (U U' : Nat → Int → Int) (xs : List Int) (sp dp n : Int), 0 ≤ sp → 0 ≤ dp → 0 ≤ n → (∀ j, 0 ≤ j → U' 0 j = if dp ≤ j ∧ j < dp + n then U 1 (sp + (j - dp)) else U 0 j) → ((∀ j, U' 1 j = U 1 j) ∨ ((∀ j, U' 1 j = U' 0 j) ∧ ∀ j, U 1 j = U 0 j)) → (∀ i, 2 ≤ i → ∀ j, U' i j = U i j) → xs.getD na 0 = sp → xs.getD (na + 1) 0 = dp → xs.getD (na + 2) 0 = n → PQ.1 k1 (fun _ _ => 0) (fun i _ => U i) xs → PQ.1 k2 (fun _ _ => 0) (fun i _ => U' i) xs)
    (hl : Cond.methodLink own index arraycopyName ∈ lw_g) (hnat : Cond.native arraycopyName ∈ lw_g) (hst : Cond.static arraycopyName ∈ lw_g) (hini : Cond.initialized "java/lang/System" ∈ lw_g) :
    cl_ok PQ l D kA G own (.invokestatic index) 3 ([(2, 0, 0, [r1]), (0, 0, p1, []), (2, 0, 0, [r2]), (0, 0, p2, []), (0, 0, p3, [])], none, false, rk, 0, 0, [], [], (2 ^ r2, [], [(21, [1, 4], [(n1 : Int)]), (21, [3, 4], [(n2 : Int)]), (20, nl, [61, (na : Int), (k1 : Int)])], [(20, nl, [61, (na : Int), (k2 : Int)])], gk)) := by
  intro p e R s m args below meth c H locs cells slots Q cc pc nL ret nm A ws ta ls av gv hv rest X hK hN hA hP hD hS hth hag hgv hhv hpr hrest hfr hlo hce hsl hls hdec kk
  have hag' : ag_ok ta [(2, 0, 0, [r1]), (0, 0, p1, []), (2, 0, 0, [r2]), (0, 0, p2, []), (0, 0, p3, [])] av := hag
  have hgl : hv.length = gk.length := ag_len hhv
  cases gv with
  | cons _ _ => exact hgv.elim
  | nil =>
  match av, hag' with
  | [v0, v1, v2, v3, v4], ⟨h0, h1, h2, h3, h4, _⟩ =>
    obtain ⟨a0, q0r, rfl, ha0, hr0⟩ := tv_ref h0 rfl
    obtain ⟨sp, rfl, sp1, sp2⟩ := tv_int h1 rfl
    obtain ⟨a1, q1r, rfl, ha1, hr1⟩ := tv_ref h2 rfl
    obtain ⟨dp, rfl, dp1, dp2⟩ := tv_int h3 rfl
    obtain ⟨n, rfl, nn1, nn2⟩ := tv_int h4 rfl
    rw [List.mem_singleton.mp hr0] at ha0
    rw [List.mem_singleton.mp hr1] at ha1
    have e1 : v_iv (.int sp) + v_iv (.int n) ≤ n1 := (hpr (21, [1, 4], [(n1 : Int)]) List.mem_cons_self).2
    have e2 : v_iv (.int dp) + v_iv (.int n) ≤ n2 := (hpr (21, [3, 4], [(n2 : Int)]) (List.mem_cons_of_mem _ List.mem_cons_self)).2
    have e3 := (hpr (20, nl, [61, (na : Int), (k1 : Int)]) (List.mem_cons_of_mem _ (List.mem_cons_of_mem _ List.mem_cons_self))).2
    have e1' : sp.toInt + n.toInt ≤ n1 := e1
    have e2' : dp.toInt + n.toInt ≤ n2 := e2
    have sp0 : 0 ≤ sp.toInt := sp1
    have dp0 : 0 ≤ dp.toInt := dp1
    have n0 : 0 ≤ n.toInt := nn1
    -- what is known before
    unfold cpu_ok at hok
    simp only [Bool.and_eq_true, decide_eq_true_eq] at hok
    obtain ⟨⟨⟨⟨⟨⟨⟨o0, o1⟩, o2⟩, o3⟩, o4⟩, o5⟩, o6⟩, o7⟩ := hok
    obtain ⟨XV, hXV⟩ : ∃ XV, XV = nl.map (n_v ([.ref a0, .int sp, .ref a1, .int dp, .int n] ++ [] ++ hv)) := ⟨_, rfl⟩
    have xg : ∀ {i q : Nat}, nl[i]? = some q → XV[i]? = some (n_v ([.ref a0, .int sp, .ref a1, .int dp, .int n] ++ [] ++ hv) q) := fun {i q} h => by rw [hXV, List.getElem?_map, h]; rfl
    have x0 : XV[0]? = some (.ref a1) := xg o0
    have x1 : XV[1]? = some (.ref a0) := xg o1
    have x2 : (XV.map v_iv).getD na 0 = sp.toInt := by rw [List.getD_eq_getElem?_getD, List.getElem?_map, xg o2]; rfl
    have x3 : (XV.map v_iv).getD (na + 1) 0 = dp.toInt := by rw [List.getD_eq_getElem?_getD, List.getElem?_map, xg o3]; rfl
    have x4 : (XV.map v_iv).getD (na + 2) 0 = n.toInt := by rw [List.getD_eq_getElem?_getD, List.getElem?_map, xg o4]; rfl
    have u0 : ∀ (w : va_W) (z : Int), vwU w na XV 0 z = w_ei w a1 z := fun w z => by unfold vwU; rw [x0]; exact if_pos (by omega)
    have u1 : ∀ (w : va_W) (z : Int), vwU w na XV 1 z = w_ei w a0 z := fun w z => by unfold vwU; rw [x1]; exact if_pos (by omega)
    have pre : PQ.1 k1 (fun _ _ => 0) (fun i _ => vwU ws na XV i) (XV.map v_iv) := by
      rw [hXV]; exact e3
    obtain ⟨i0, c0, hq0, hgo0⟩ := th_at hth ha0 hg1
    obtain ⟨i1, c1, hq1, hgo1⟩ := th_at hth ha1 hg2
    rcases hgo0 with ⟨_, l0, f, rfl, la1, la2, _, hf, _⟩ | ⟨z, _⟩ | ⟨z, _⟩ | ⟨z, _⟩
    rotate_left
    · exact absurd z (by show ¬ (0 : Nat) = 3; omega)
    · exact absurd z (by show ¬ 4 ≤ (0 : Nat); omega)
    · exact absurd z (by show ¬ 10 ≤ (0 : Nat); omega)
    rcases hgo1 with ⟨z1, l1, g, rfl, lb1, lb2, lb3, hg, hg'⟩ | ⟨z, _⟩ | ⟨z, _⟩ | ⟨z, _⟩
    rotate_left
    · exact absurd z (by show ¬ (0 : Nat) = 3; omega)
    · exact absurd z (by show ¬ 4 ≤ (0 : Nat); omega)
    · exact absurd z (by show ¬ 10 ≤ (0 : Nat); omega)
    have la1' : n1 ≤ l0 := la1
    have lb1' : n2 ≤ l1 := lb1
    have lt0 : ∀ x : Int32, 0 ≤ x.toInt → ¬ x < 0 := fun x hx q => by have h7 := i32_lt.mp q; rw [show (0 : Int32).toInt = 0 from rfl] at h7; omega
    have tn : ∀ x : Int32, x.toNatClampNeg = x.toInt.toNat := fun _ => rfl
    have hml : c.maxLocals = ls.size := X.2.2.1.trans hls.symm
    have room : (rest.map fun v => v.category).sum + (nativeFrameWords "java/lang/System" "arraycopy" 5 + 11) ≤ R.locals := by
      have : nativeFrameWords "java/lang/System" "arraycopy" 5 ≤ 30 := by decide +kernel
      have h64 : 64 * (rk + 1) ≤ R.locals := hlo
      omega
    have hfr1 : 1 ≤ R.frames := by have : rk + 1 ≤ R.frames := hfr; omega
    have lt1 : i1 < ws.length := (List.getElem?_eq_some_iff.mp hq1).1
    have fin : ∀ (H1 : Heap) (locs1 : List Loc), va_P D classes (ws.set i1 (a1, .inl (kA 0, l1, .inl (va_cpy f g sp.toNatClampNeg dp.toNatClampNeg n.toNatClampNeg)))) H1 → va_D A (ws.set i1 (a1, .inl (kA 0, l1, .inl (va_cpy f g sp.toNatClampNeg dp.toNatClampNeg n.toNatClampNeg)))) → va_S A s.heap H1 locs1 → W p l e R s m args below meth c H1 locs1 cells slots Q (F0 m (pc + 3) ls rest) := fun H1 locs1 g1 g2 g3 => by
      have hnew : (ws.set i1 (a1, .inl (kA 0, l1, .inl (va_cpy f g sp.toNatClampNeg dp.toNatClampNeg n.toNatClampNeg))))[i1]? = some (a1, .inl (kA 0, l1, .inl (va_cpy f g sp.toNatClampNeg dp.toNatClampNeg n.toNatClampNeg))) := by rw [List.getElem?_set_self lt1]
      obtain ⟨w1, hw1⟩ : ∃ w1, w1 = ws.set i1 (a1, .inl (kA 0, l1, .inl (va_cpy f g sp.toNatClampNeg dp.toNatClampNeg n.toNatClampNeg))) := ⟨_, rfl⟩
      have post : PQ.1 k2 (fun _ _ => 0) (fun i _ => vwU w1 na XV i) (XV.map v_iv) := by
        refine hT (fun i => vwU ws na XV i) (fun i => vwU w1 na XV i) (XV.map v_iv) sp.toInt dp.toInt n.toInt sp0 dp0 n0 (fun j j0 => ?_) ?_ ?_ x2 x3 x4 pre
        · show vwU w1 na XV 0 j = if dp.toInt ≤ j ∧ j < dp.toInt + n.toInt then vwU ws na XV 1 (sp.toInt + (j - dp.toInt)) else vwU ws na XV 0 j
          rw [u0, u0, u1]
          show w_el w1 a1 j.toNat = if dp.toInt ≤ j ∧ j < dp.toInt + n.toInt then w_el ws a0 (sp.toInt + (j - dp.toInt)).toNat else w_el ws a1 j.toNat
          rw [hw1, w_el_i g2 hnew, w_el_i hD hq0, w_el_i hD hq1, cpy_el, tn, tn, tn]
          by_cases hc : dp.toInt ≤ j ∧ j < dp.toInt + n.toInt
          · rw [if_pos hc, if_pos (by omega), show sp.toInt.toNat + (j.toNat - dp.toInt.toNat) = (sp.toInt + (j - dp.toInt)).toNat by omega]
          · rw [if_neg hc, if_neg (by omega)]
        · show (∀ j, vwU w1 na XV 1 j = vwU ws na XV 1 j) ∨ ((∀ j, vwU w1 na XV 1 j = vwU w1 na XV 0 j) ∧ ∀ j, vwU ws na XV 1 j = vwU ws na XV 0 j)
          by_cases hi : i0 = i1
          · right
            subst hi
            rw [hq0] at hq1
            have ea : a0 = a1 := by have := Option.some.inj hq1; injection this
            exact ⟨fun j => by rw [u0, u1, ea], fun j => by rw [u0, u1, ea]⟩
          · left
            intro j
            rw [u1, u1]
            show w_el w1 a0 j.toNat = w_el ws a0 j.toNat
            have hold : (ws.set i1 (a1, .inl (kA 0, l1, .inl (va_cpy f g sp.toNatClampNeg dp.toNatClampNeg n.toNatClampNeg))))[i0]? = some (a0, .inl (kA 0, l0, .inl f)) := by rw [List.getElem?_set_ne (fun q => hi q.symm)]; exact hq0
            rw [hw1, w_el_i g2 hold, w_el_i hD hq0]
        · intro i hi j
          show vwU w1 na XV i j = vwU ws na XV i j
          unfold vwU
          by_cases hin : i < na
          · have h8 := List.all_eq_true.mp o7 i (List.mem_range.mpr hin)
            rw [show decide (i < 2) = false by simp; omega, Bool.false_or] at h8
            cases hq : nl[i]? with
            | none => rw [hq] at h8; cases h8
            | some q =>
              rw [hq] at h8
              simp only [Bool.and_eq_true, decide_eq_true_eq] at h8
              cases hk : gk[q - 5]? with
              | none => rw [hk] at h8; exact absurd h8.2 (by simp)
              | some t =>
                rw [hk] at h8
                simp only [Bool.and_eq_true, decide_eq_true_eq] at h8
                obtain ⟨v, hv1, hv2⟩ := ag_get hhv hk
                obtain ⟨a, r, rfl, ha, hr⟩ := tv_ref hv2 h8.2.1
                have hne : a ≠ a1 := fun e => by
                  have h9 := List.all_eq_true.mp h8.2.2 r hr
                  simp only [decide_eq_true_eq] at h9
                  rw [e, ha1] at ha
                  exact h9 (Option.some.inj ha).symm
                have hxi : XV[i]? = some (.ref a) := by
                  rw [xg hq]
                  have : n_v ([.ref a0, .int sp, .ref a1, .int dp, .int n] ++ [] ++ hv) q = .ref a := by
                    unfold n_v
                    rw [List.append_nil, List.getElem?_append_right (by show 5 ≤ q; omega)]
                    show (hv[q - 5]?).getD .null = _
                    rw [hv1]; rfl
                  rw [this]
                rw [hxi]
                show (if i < na then w_el w1 a j.toNat else 0) = (if i < na then w_el ws a j.toNat else 0)
                rw [hw1, w_el_ne g2 hq1 hne]
          · cases XV[i]? with
            | none => rfl
            | some x => show (if i < na then _ else _) = (if i < na then _ else _); rw [if_neg hin, if_neg hin]
      refine kk ta _ H1 locs1 none (fun _ _ q => q) (th_set hD hth hq1 ha1 hg2 (Or.inl ⟨(by show (0 : Nat) < 3; omega), l1, _, rfl, lb1, lb2, lb3, fun j hj => ?_, fun j t' hj ht' => by cases ht'⟩)) g1 g2 g3 trivial ⟨fun f hf => ?_, Or.inl rfl⟩ (fun q => by cases q) (kp_arr hq1 ha1 (by show (2 ^ r2).testBit r2 = true; rw [Nat.testBit_two_pow_self]))
      · unfold va_cpy
        split
        · rename_i hc
          have hin : j < l1 := hj
          have hcn : sp.toNatClampNeg + (j - dp.toNatClampNeg) < l0 := by rw [tn, tn] at *; omega
          have hb : lo2 ≤ (f (sp.toNatClampNeg + (j - dp.toNatClampNeg))).toInt ∧ (f (sp.toNatClampNeg + (j - dp.toNatClampNeg))).toInt ≤ hi2 := by
            rcases hle with hle | hle
            · have := tv_rng (hf _ hcn)
              have q : lo1 ≤ (f (sp.toNatClampNeg + (j - dp.toNatClampNeg))).toInt := this.1
              have q2 : (f (sp.toNatClampNeg + (j - dp.toNatClampNeg))).toInt ≤ hi1 := this.2
              omega
            · have q := hle _ _ _ _ _ sp0 dp0 n0 x2 x3 x4 pre ((j : Int) - dp.toInt) (by rw [tn, tn] at *; omega) (by rw [tn, tn] at *; omega)
              have e : w_ei ws a0 (sp.toInt + ((j : Int) - dp.toInt)) = (f (sp.toNatClampNeg + (j - dp.toNatClampNeg))).toInt := by
                show w_el ws a0 (sp.toInt + ((j : Int) - dp.toInt)).toNat = _
                rw [w_el_i hD hq0, tn, tn, show (sp.toInt + ((j : Int) - dp.toInt)).toNat = sp.toInt.toNat + (j - dp.toInt.toNat) by rw [tn, tn] at *; omega]
              have q2 : lo2 ≤ vwU ws na XV 1 (sp.toInt + ((j : Int) - dp.toInt)) ∧ vwU ws na XV 1 (sp.toInt + ((j : Int) - dp.toInt)) ≤ hi2 := q
              rw [u1, e] at q2; exact q2
          exact Or.inl ⟨rfl, _, rfl, hb.1, hb.2⟩
        · exact hg j hj
      · obtain rfl := List.mem_singleton.mp hf
        rw [← hw1]
        refine ⟨fun q hq => ?_, ?_⟩
        · show q < ([Value.ref a0, .int sp, .ref a1, .int dp, .int n] ++ [] ++ hv ++ (none : Option Value).toList).length
          have hl : ([Value.ref a0, .int sp, .ref a1, .int dp, .int n] ++ [] ++ hv ++ (none : Option Value).toList).length = 5 + gk.length := by
            rw [← hgl]; simp; omega
          rw [hl]
          exact of_decide_eq_true (List.all_eq_true.mp o6 q hq)
        · rw [show (none : Option Value).toList = [] from rfl, List.append_nil]
          have p2 := post
          rw [hXV] at p2
          exact p2
    exact va_copyi X.1 X.2.1 hml X.2.2.2.1 (X.2.2.2.2.1 _ hl) (X.2.2.2.2.1 _ hnat) (X.2.2.2.2.1 _ hst) (X.2.2.2.2.1 _ hini) hK hP hD hS i0 i1 0 0 hq0 hq1 rfl rfl rfl (lt0 _ sp0) (lt0 _ dp0) (lt0 _ n0) (by rw [tn, tn]; omega) (by rw [tn, tn]; omega) (fun i hi => rfl) hfr1 room hdec fin
end
