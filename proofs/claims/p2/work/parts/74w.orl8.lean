/-! Integer.bitCount, exactly, at what is all ones below a place -/
def BCf (b : BitVec 32) : BitVec 32 :=
  let c := b - ((b >>> 1) &&& 1431655765#32)
  let d := (c &&& 858993459#32) + ((c >>> 2) &&& 858993459#32)
  let e := (d + (d >>> 4)) &&& 252645135#32
  let f := e + (e >>> 8)
  let g := f + (f >>> 16)
  g &&& 63#32
theorem bv_add (a b : Int) : bv (a + b) = bv a + bv b := by unfold bv; rw [BitVec.ofInt_add]
theorem bv_sub (a b : Int) : bv (a - b) = bv a - bv b := by
  rw [show a - b = a + -b by omega, bv_add, BitVec.sub_eq_add_neg]
  unfold bv; rw [BitVec.ofInt_neg]
theorem bct_of {x an a1 a2 a3 a4 a5 a6 a7 a8 a9 a10 a11 a12 a13 a14 k1 k2 k4 k8 k16 k63 c1 c2 c3 c4 : Int} (h15 : bv an = bv a14 &&& bv k63) (h14 : a14 = a12 + a13) (h13 : bv a13 = bv a12 >>> k16.toNat) (h12 : a12 = a10 + a11) (h11 : bv a11 = bv a10 >>> k8.toNat) (h10 : bv a10 = bv a9 &&& bv c4) (h9 : a9 = a7 + a8) (h8 : bv a8 = bv a7 >>> k4.toNat) (h7 : a7 = a4 + a6) (h4 : bv a4 = bv a3 &&& bv c2) (h6 : bv a6 = bv a5 &&& bv c3) (h5 : bv a5 = bv a3 >>> k2.toNat) (h3 : a3 = x - a2) (h2 : bv a2 = bv a1 &&& bv c1) (h1 : bv a1 = bv x >>> k1.toNat)
    (e1 : k1 = 1) (e2 : k2 = 2) (e4 : k4 = 4) (e8 : k8 = 8) (e16 : k16 = 16) (e63 : k63 = 63) (f1 : c1 = 1431655765) (f2 : c2 = 858993459) (f3 : c3 = 858993459) (f4 : c4 = 252645135) (an0 : 0 ≤ an) (an1 : an ≤ 63) : BCT x an := by
  subst e1 e2 e4 e8 e16 e63 f1 f2 f3 f4
  have hB : bv an = BCf (bv x) := by
    have b3 : bv a3 = bv x - ((bv x >>> 1) &&& 1431655765#32) := by rw [h3, bv_sub, h2, h1]; rfl
    have b7 : bv a7 = (bv a3 &&& 858993459#32) + ((bv a3 >>> 2) &&& 858993459#32) := by rw [h7, bv_add, h4, h6, h5]; rfl
    have b10 : bv a10 = (bv a7 + (bv a7 >>> 4)) &&& 252645135#32 := by rw [h10, h9, bv_add, h8]; rfl
    have b12 : bv a12 = bv a10 + (bv a10 >>> 8) := by rw [h12, bv_add, h11]; rfl
    have b14 : bv a14 = bv a12 + (bv a12 >>> 16) := by rw [h14, bv_add, h13]; rfl
    rw [h15, b14, b12, b10, b7, b3]; rfl
  have t : ∀ z : Int, 0 ≤ z → z ≤ 63 → (bv z).toInt = z := fun z z0 z1 => by
    unfold bv; rw [BitVec.toInt_ofInt]; unfold Int.bmod; simp only; split <;> omega
  refine ⟨fun k hk e => ?_, fun x0 x1 => ?_⟩
  · have : ∀ k : Nat, k < 26 → BCf (bv ((2 : Int) ^ k - 1)) = bv (k : Int) := by decide +kernel
    rw [e, this k (by omega)] at hB
    have := t an an0 an1
    have := t k (by omega) (by omega)
    rw [← hB] at this
    omega
  · have q : ∀ k : Nat, k < 64 → BCf (bv (k : Int)) = bv ((cnN k 6 : Nat) : Int) ∧ cnN k 6 ≤ 63 := by decide +kernel
    have q1 := q x.toNat (by omega)
    rw [show ((x.toNat : Nat) : Int) = x by omega] at q1
    rw [q1.1] at hB
    have := t an an0 an1
    have := t ((cnN x.toNat 6 : Nat) : Int) (by omega) (by omega)
    rw [← hB] at this
    omega
/-! arraycopy, and what it copies: predicates of the two arrays before and behind it -/
theorem cpy_el {f g : Nat → Int32} {sp dp n : Nat} (j : Nat) : (va_cpy f g sp dp n j).toInt = if dp ≤ j ∧ j < dp + n then (f (sp + (j - dp))).toInt else (g j).toInt := by
  unfold va_cpy
  split <;> rfl
def pa2 (A B : Int → Int) : Nat → Nat → Int → Int := fun i _ z => match i with
  | 0 => A z
  | 1 => B z
  | _ => 0
theorem pa2_of {ws : va_W} {v0 v1 : Value} {xs : List Value} : (fun (i : Nat) (_ : Nat) (z : Int) => match (v0 :: v1 :: xs)[i]? with | some x => if i < (2 : Int).toNat then w_ei ws (v_ad x) z else 0 | none => 0) = pa2 (w_ei ws (v_ad v0)) (w_ei ws (v_ad v1)) := by
  funext i k z
  match i with
  | 0 => rfl
  | 1 => rfl
  | i + 2 =>
    show (match xs[i]? with | some x => if i + 2 < (2 : Int).toNat then w_ei ws (v_ad x) z else 0 | none => 0) = 0
    cases xs[i]? with
    | none => rfl
    | some x => show (if i + 2 < (2 : Int).toNat then _ else 0) = _; rw [if_neg (by show ¬ i + 2 < 2; omega)]
def gi5 (m : Nat) : List Nat := (List.range m).map (fun i => i + 5)
theorem gi5_map {a b d e f : Value} {hv : List Value} : (gi5 hv.length).map (n_v ([a, b, d, e, f] ++ [] ++ hv)) = hv := by
  apply List.ext_getElem
  · unfold gi5; rw [List.length_map, List.length_map, List.length_range]
  · intro i h1 h2
    have e : ((gi5 hv.length).map (n_v ([a, b, d, e, f] ++ [] ++ hv)))[i] = n_v ([a, b, d, e, f] ++ [] ++ hv) (i + 5) := by simp [gi5]
    rw [e]
    show (hv[i]?).getD .null = hv[i]
    rw [List.getElem?_eq_getElem h2]; rfl
theorem w_el_i {A : Nat → Prop} {ws : va_W} (hD : va_D A ws) {a k n : Nat} {cl : ClassId} {f : Nat → Int32} (h : ws[k]? = some (a, .inl (cl, n, .inl f))) (j : Nat) : w_el ws a j = (f j).toInt := by
  unfold w_el
  rw [w_at_mem hD (List.mem_of_getElem? h)]
section
variable {PQ : pq_T}
theorem cl_copyT {l : Launch} {D : va_G} {kA : Nat → ClassId} {G : List rg_T} {own : String} {index r1 r2 n1 m1 n2 m2 rk k1 k2 : Nat} {lo1 hi1 lo2 hi2 p1 p2 p3 : Int} {rs1 rs2 : List Nat} {gk : List tv_T} (hg1 : G[r1]? = some (0, n1, m1, (0, lo1, hi1, rs1), [])) (hg2 : G[r2]? = some (0, n2, m2, (0, lo2, hi2, rs2), [])) (hle : (lo2 ≤ lo1 ∧ hi1 ≤ hi2) ∨ ∀ (Dd S : Int → Int) (sp dp n : Int) (gs : List Int), 0 ≤ sp → 0 ≤ dp → 0 ≤ n → PQ.1 k1 (fun _ _ => 0) (pa2 Dd S) (0 :: 0 :: sp :: dp :: n :: gs) → ∀ j, 0 ≤ j → j < n → lo2 ≤ S (sp + j) ∧ S (sp + j) ≤ hi2)
    (hT : ∀ (Dd S D' S' : Int → Int) (sp dp n : Int) (gs : List Int), 0 ≤ sp → 0 ≤ dp → 0 ≤ n → (∀ j, 0 ≤ j → D' j = if dp ≤ j ∧ j < dp + n then S (sp + (j - dp)) else Dd j) → ((∀ j, S' j = S j) ∨ ((∀ j, S' j = D' j) ∧ ∀ j, S j = Dd j)) → PQ.1 k1 (fun _ _ => 0) (pa2 Dd S) (0 :: 0 :: sp :: dp :: n :: gs) → PQ.1 k2 (fun _ _ => 0) (pa2 D' S') (0 :: 0 :: sp :: dp :: n :: gs))
    (hl : Cond.methodLink own index arraycopyName ∈ lw_g) (hnat : Cond.native arraycopyName ∈ lw_g) (hst : Cond.static arraycopyName ∈ lw_g) (hini : Cond.initialized "java/lang/System" ∈ lw_g) :
    cl_ok PQ l D kA G own (.invokestatic index) 3 ([(2, 0, 0, [r1]), (0, 0, p1, []), (2, 0, 0, [r2]), (0, 0, p2, []), (0, 0, p3, [])], none, false, rk, 0, 0, [], [], (2 ^ r2, [], [(21, [1, 4], [(n1 : Int)]), (21, [3, 4], [(n2 : Int)]), (20, 2 :: 0 :: 1 :: 3 :: 4 :: gi5 gk.length, [61, 2, (k1 : Int)])], [(20, 2 :: 0 :: 1 :: 3 :: 4 :: gi5 gk.length, [61, 2, (k2 : Int)])], gk)) := by
  intro p e R s m args below meth c H locs cells slots Q cc pc nL ret nm A ws ta ls av gv hv rest X hK hN hA hP hD hS hth hag hgv hhv hpr hrest hfr hlo hce hsl hls hdec kk
  have hag' : ag_ok ta [(2, 0, 0, [r1]), (0, 0, p1, []), (2, 0, 0, [r2]), (0, 0, p2, []), (0, 0, p3, [])] av := hag
  have hgl : hv.length = gk.length := ag_len hhv
  cases gv with
  | cons _ _ => exact hgv.elim
  | nil =>
  match av, hag' with
  | [v0, v1, v2, v3, v4], ⟨h0, h1, h2, h3, h4, _⟩ =>
    obtain ⟨a0, q0r, rfl, ha0, hr0⟩ := tv_ref h0 rfl
    obtain ⟨sp, rfl, sp1, sp2⟩ := tv_int h1 rfl
    obtain ⟨a1, q1r, rfl, ha1, hr1⟩ := tv_ref h2 rfl
    obtain ⟨dp, rfl, dp1, dp2⟩ := tv_int h3 rfl
    obtain ⟨n, rfl, nn1, nn2⟩ := tv_int h4 rfl
    rw [List.mem_singleton.mp hr0] at ha0
    rw [List.mem_singleton.mp hr1] at ha1
    have e1 : v_iv (.int sp) + v_iv (.int n) ≤ n1 := (hpr (21, [1, 4], [(n1 : Int)]) List.mem_cons_self).2
    have e2 : v_iv (.int dp) + v_iv (.int n) ≤ n2 := (hpr (21, [3, 4], [(n2 : Int)]) (List.mem_cons_of_mem _ List.mem_cons_self)).2
    have e3 := (hpr (20, 2 :: 0 :: 1 :: 3 :: 4 :: gi5 gk.length, [61, 2, (k1 : Int)]) (List.mem_cons_of_mem _ (List.mem_cons_of_mem _ List.mem_cons_self))).2
    have e1' : sp.toInt + n.toInt ≤ n1 := e1
    have e2' : dp.toInt + n.toInt ≤ n2 := e2
    have sp0 : 0 ≤ sp.toInt := sp1
    have dp0 : 0 ≤ dp.toInt := dp1
    have n0 : 0 ≤ n.toInt := nn1
    -- what is known before
    have pre : PQ.1 k1 (fun _ _ => 0) (pa2 (w_ei ws a1) (w_ei ws a0)) (0 :: 0 :: sp.toInt :: dp.toInt :: n.toInt :: hv.map v_iv) := by
      have e4 : PQ.1 ((k1 : Int)).toNat (fun _ _ => 0) (fun (i : Nat) (_ : Nat) (z : Int) => match ((2 :: 0 :: 1 :: 3 :: 4 :: gi5 gk.length).map (n_v ([.ref a0, .int sp, .ref a1, .int dp, .int n] ++ [] ++ hv)))[i]? with | some x => if i < (2 : Int).toNat then w_ei ws (v_ad x) z else 0 | none => 0) (((2 :: 0 :: 1 :: 3 :: 4 :: gi5 gk.length).map (n_v ([.ref a0, .int sp, .ref a1, .int dp, .int n] ++ [] ++ hv))).map v_iv) := e3
      have e5 : (2 :: 0 :: 1 :: 3 :: 4 :: gi5 gk.length).map (n_v ([.ref a0, .int sp, .ref a1, .int dp, .int n] ++ [] ++ hv)) = .ref a1 :: .ref a0 :: .int sp :: .int dp :: .int n :: hv := by
        rw [List.map_cons, List.map_cons, List.map_cons, List.map_cons, List.map_cons, ← hgl, gi5_map]; rfl
      rw [e5, pa2_of, Int.toNat_natCast] at e4
      exact e4
    obtain ⟨i0, c0, hq0, hgo0⟩ := th_at hth ha0 hg1
    obtain ⟨i1, c1, hq1, hgo1⟩ := th_at hth ha1 hg2
    rcases hgo0 with ⟨_, l0, f, rfl, la1, la2, _, hf, _⟩ | ⟨z, _⟩ | ⟨z, _⟩ | ⟨z, _⟩
    rotate_left
    · exact absurd z (by show ¬ (0 : Nat) = 3; omega)
    · exact absurd z (by show ¬ 4 ≤ (0 : Nat); omega)
    · exact absurd z (by show ¬ 10 ≤ (0 : Nat); omega)
    rcases hgo1 with ⟨z1, l1, g, rfl, lb1, lb2, lb3, hg, hg'⟩ | ⟨z, _⟩ | ⟨z, _⟩ | ⟨z, _⟩
    rotate_left
    · exact absurd z (by show ¬ (0 : Nat) = 3; omega)
    · exact absurd z (by show ¬ 4 ≤ (0 : Nat); omega)
    · exact absurd z (by show ¬ 10 ≤ (0 : Nat); omega)
    have la1' : n1 ≤ l0 := la1
    have lb1' : n2 ≤ l1 := lb1
    have lt0 : ∀ x : Int32, 0 ≤ x.toInt → ¬ x < 0 := fun x hx q => by have h7 := i32_lt.mp q; rw [show (0 : Int32).toInt = 0 from rfl] at h7; omega
    have tn : ∀ x : Int32, x.toNatClampNeg = x.toInt.toNat := fun _ => rfl
    have hml : c.maxLocals = ls.size := X.2.2.1.trans hls.symm
    have room : (rest.map fun v => v.category).sum + (nativeFrameWords "java/lang/System" "arraycopy" 5 + 11) ≤ R.locals := by
      have : nativeFrameWords "java/lang/System" "arraycopy" 5 ≤ 30 := by decide +kernel
      have h64 : 64 * (rk + 1) ≤ R.locals := hlo
      omega
    have hfr1 : 1 ≤ R.frames := by have : rk + 1 ≤ R.frames := hfr; omega
    have lt1 : i1 < ws.length := (List.getElem?_eq_some_iff.mp hq1).1
    have fin : ∀ (H1 : Heap) (locs1 : List Loc), va_P D classes (ws.set i1 (a1, .inl (kA 0, l1, .inl (va_cpy f g sp.toNatClampNeg dp.toNatClampNeg n.toNatClampNeg)))) H1 → va_D A (ws.set i1 (a1, .inl (kA 0, l1, .inl (va_cpy f g sp.toNatClampNeg dp.toNatClampNeg n.toNatClampNeg)))) → va_S A s.heap H1 locs1 → W p l e R s m args below meth c H1 locs1 cells slots Q (F0 m (pc + 3) ls rest) := fun H1 locs1 g1 g2 g3 => by
      have hnew : (ws.set i1 (a1, .inl (kA 0, l1, .inl (va_cpy f g sp.toNatClampNeg dp.toNatClampNeg n.toNatClampNeg))))[i1]? = some (a1, .inl (kA 0, l1, .inl (va_cpy f g sp.toNatClampNeg dp.toNatClampNeg n.toNatClampNeg))) := by rw [List.getElem?_set_self lt1]
      obtain ⟨w1, hw1⟩ : ∃ w1, w1 = ws.set i1 (a1, .inl (kA 0, l1, .inl (va_cpy f g sp.toNatClampNeg dp.toNatClampNeg n.toNatClampNeg))) := ⟨_, rfl⟩
      have post : PQ.1 k2 (fun _ _ => 0) (pa2 (w_ei w1 a1) (w_ei w1 a0)) (0 :: 0 :: sp.toInt :: dp.toInt :: n.toInt :: hv.map v_iv) := by
        refine hT (w_ei ws a1) (w_ei ws a0) (w_ei w1 a1) (w_ei w1 a0) sp.toInt dp.toInt n.toInt (hv.map v_iv) sp0 dp0 n0 (fun j j0 => ?_) ?_ pre
        · show w_el w1 a1 j.toNat = if dp.toInt ≤ j ∧ j < dp.toInt + n.toInt then w_el ws a0 (sp.toInt + (j - dp.toInt)).toNat else w_el ws a1 j.toNat
          rw [hw1, w_el_i g2 hnew, w_el_i hD hq0, w_el_i hD hq1, cpy_el, tn, tn, tn]
          by_cases hc : dp.toInt ≤ j ∧ j < dp.toInt + n.toInt
          · rw [if_pos hc, if_pos (by omega), show sp.toInt.toNat + (j.toNat - dp.toInt.toNat) = (sp.toInt + (j - dp.toInt)).toNat by omega]
          · rw [if_neg hc, if_neg (by omega)]
        · by_cases hi : i0 = i1
          · right
            subst hi
            rw [hq0] at hq1
            have ea : a0 = a1 := by have := Option.some.inj hq1; injection this
            subst ea
            exact ⟨fun _ => rfl, fun _ => rfl⟩
          · left
            intro j
            show w_el w1 a0 j.toNat = w_el ws a0 j.toNat
            have hold : (ws.set i1 (a1, .inl (kA 0, l1, .inl (va_cpy f g sp.toNatClampNeg dp.toNatClampNeg n.toNatClampNeg))))[i0]? = some (a0, .inl (kA 0, l0, .inl f)) := by rw [List.getElem?_set_ne (fun q => hi q.symm)]; exact hq0
            rw [hw1, w_el_i g2 hold, w_el_i hD hq0]
      refine kk ta _ H1 locs1 none (fun _ _ q => q) (th_set hD hth hq1 ha1 hg2 (Or.inl ⟨(by show (0 : Nat) < 3; omega), l1, _, rfl, lb1, lb2, lb3, fun j hj => ?_, fun j t' hj ht' => by cases ht'⟩)) g1 g2 g3 trivial ⟨fun f hf => ?_, Or.inl rfl⟩ (fun q => by cases q) (kp_arr hq1 ha1 (by show (2 ^ r2).testBit r2 = true; rw [Nat.testBit_two_pow_self]))
      · unfold va_cpy
        split
        · rename_i hc
          have hin : j < l1 := hj
          have hcn : sp.toNatClampNeg + (j - dp.toNatClampNeg) < l0 := by rw [tn, tn] at *; omega
          have hb : lo2 ≤ (f (sp.toNatClampNeg + (j - dp.toNatClampNeg))).toInt ∧ (f (sp.toNatClampNeg + (j - dp.toNatClampNeg))).toInt ≤ hi2 := by
            rcases hle with hle | hle
            · have := tv_rng (hf _ hcn)
              have q : lo1 ≤ (f (sp.toNatClampNeg + (j - dp.toNatClampNeg))).toInt := this.1
              have q2 : (f (sp.toNatClampNeg + (j - dp.toNatClampNeg))).toInt ≤ hi1 := this.2
              omega
            · have q := hle _ _ _ _ _ _ sp0 dp0 n0 pre ((j : Int) - dp.toInt) (by rw [tn, tn] at *; omega) (by rw [tn, tn] at *; omega)
              have e : w_ei ws a0 (sp.toInt + ((j : Int) - dp.toInt)) = (f (sp.toNatClampNeg + (j - dp.toNatClampNeg))).toInt := by
                show w_el ws a0 (sp.toInt + ((j : Int) - dp.toInt)).toNat = _
                rw [w_el_i hD hq0, tn, tn, show (sp.toInt + ((j : Int) - dp.toInt)).toNat = sp.toInt.toNat + (j - dp.toInt.toNat) by rw [tn, tn] at *; omega]
              rw [e] at q; exact q
          exact Or.inl ⟨rfl, _, rfl, hb.1, hb.2⟩
        · exact hg j hj
      · obtain rfl := List.mem_singleton.mp hf
        rw [← hw1]
        have e5 : (2 :: 0 :: 1 :: 3 :: 4 :: gi5 gk.length).map (n_v ([.ref a0, .int sp, .ref a1, .int dp, .int n] ++ [] ++ hv ++ (none : Option Value).toList)) = .ref a1 :: .ref a0 :: .int sp :: .int dp :: .int n :: hv := by
          rw [show (none : Option Value).toList = [] from rfl, List.append_nil, List.map_cons, List.map_cons, List.map_cons, List.map_cons, List.map_cons, ← hgl, gi5_map]; rfl
        refine ⟨fun q hq => ?_, ?_⟩
        · show q < ([Value.ref a0, .int sp, .ref a1, .int dp, .int n] ++ [] ++ hv ++ (none : Option Value).toList).length
          have hl : ([Value.ref a0, .int sp, .ref a1, .int dp, .int n] ++ [] ++ hv ++ (none : Option Value).toList).length = 5 + gk.length := by
            rw [← hgl]; simp; omega
          rw [hl]
          have hq' : q ∈ 2 :: 0 :: 1 :: 3 :: 4 :: gi5 gk.length := hq
          simp only [List.mem_cons] at hq'
          rcases hq' with h | h | h | h | h | h
          · omega
          · omega
          · omega
          · omega
          · omega
          · unfold gi5 at h
            obtain ⟨i, hi, e⟩ := List.mem_map.mp h
            have := List.mem_range.mp hi
            omega
        · show PQ.1 ((k2 : Int)).toNat (fun _ _ => 0) (fun (i : Nat) (_ : Nat) (z : Int) => match ((2 :: 0 :: 1 :: 3 :: 4 :: gi5 gk.length).map (n_v ([.ref a0, .int sp, .ref a1, .int dp, .int n] ++ [] ++ hv ++ (none : Option Value).toList)))[i]? with | some x => if i < (2 : Int).toNat then w_ei w1 (v_ad x) z else 0 | none => 0) (((2 :: 0 :: 1 :: 3 :: 4 :: gi5 gk.length).map (n_v ([.ref a0, .int sp, .ref a1, .int dp, .int n] ++ [] ++ hv ++ (none : Option Value).toList))).map v_iv)
          rw [e5, pa2_of, Int.toNat_natCast]
          exact post
    exact va_copyi X.1 X.2.1 hml X.2.2.2.1 (X.2.2.2.2.1 _ hl) (X.2.2.2.2.1 _ hnat) (X.2.2.2.2.1 _ hst) (X.2.2.2.2.1 _ hini) hK hP hD hS i0 i1 0 0 hq0 hq1 rfl rfl rfl (lt0 _ sp0) (lt0 _ dp0) (lt0 _ n0) (by rw [tn, tn]; omega) (by rw [tn, tn]; omega) (fun i hi => rfl) hfr1 room hdec fin
end
