section
variable {PQ : pq_T}
/-- a private static method of a nest mate -/
theorem cl_staticN {l : Launch} {D : va_G} {kA : Nat → ClassId} {G : List rg_T} {own host : String} {y : MethodName} {bytes : ByteArray} {maxL index : Nat} {ret' : Option FieldType} {en : en_T} (hM : ct_ok PQ l D kA G y (Cond.code y bytes maxL ret' :: lw_g) en)
    (hc : Cond.code y bytes maxL ret' ∈ lw_g) (hini : Cond.initialized y.cls ∈ lw_g) (hl : Cond.methodLinkNest own index y host ∈ lw_n) (hin : Cond.static y ∈ lw_g)
    (hd : y.cls ≠ "java/lang/invoke/MethodHandle" ∧ y.cls ≠ "java/lang/invoke/VarHandle" ∧ (parseMethodDescriptor y.desc).map (fun d => d.parameters.length) = some en.1.length) (hm : maxL ≤ 37) : cl_ok PQ l D kA G own (.invokestatic index) 3 en := by
  intro p e R s m args below meth c H locs cells slots Q cc pc nL ret nm A ws ta ls av gv hv rest X hK hN hA hP hD hS hth hag hgv hhv hpr hrest hfr hlo hce hsl hls hdec kk
  exact m_go (k_rSN16 hN.1 X (hM H.size ta ws av gv hv hth hag hgv hhv hpr) rfl hc hini hl hin en.1.length hd ⟨hfr, by show 16 + (maxL + 11) + 64 * en.2.2.2.1 ≤ R.locals; omega⟩ rfl rfl (m_pre hN hA hS hK hP hD) (ag_len hag) hls rfl hrest hdec ⟨hce, hsl⟩) hP hD hS hA kk
theorem tv_rngL {ta : Nat → Option Nat} {lo hi : Int} {rs : List Nat} {v : Value} (h : tv_ok ta (1, lo, hi, rs) v) : lo ≤ v_iv v ∧ v_iv v ≤ hi := by
  obtain ⟨x, rfl, a, b⟩ := tv_long h rfl
  exact ⟨a, b⟩
/-- the coder of any String constant -/
theorem cl_coderS {l : Launch} {D : va_G} {kA : Nat → ClassId} {G : List rg_T} {own : String} {idx : Nat} {rs : List Nat} (h : Cond.fieldLink own idx "java/lang/String" "coder" "B" ∈ lw_g) (hr : (rs.all (fun r => decide (5000 ≤ r) && decide (r < 5000 + ro_N) && decide (G[r]? = none))) = true) : cl_ok PQ l D kA G own (.getfield idx) 3 (en_ro [(2, 0, 0, rs)] (0, 0, 0, [])) := by
  refine cl_look (fun p e R s m args below meth c H locs cells slots Q cc pc nL ret nm A ws ta ls av rest X hN hS hth hag hdec kk => ?_)
  match av, hag with
  | [v0], ⟨h0, _⟩ =>
    obtain ⟨a, r, rfl, h1, h2⟩ := tv_ref h0 rfl
    have hq := List.all_eq_true.mp hr r h2
    simp only [Bool.and_eq_true, decide_eq_true_eq] at hq
    have h3 : tv_ok ta (2, 0, 0, [5000 + (r - 5000)]) (.ref a) := Or.inr (Or.inr (Or.inl ⟨rfl, a, r, rfl, h1, List.mem_singleton.mpr (by omega)⟩))
    rw [ro_is hth (show G[5000 + (r - 5000)]? = none by rw [show 5000 + (r - 5000) = r by omega]; exact hq.2) h3]
    exact vk_getf X.1 X.2.1 (hN.2.2.1 (r - 5000) (by omega)).2.1 hS X.2.2.2.1 (X.2.2.2.2.1 _ h) (fun _ q => q) hdec (kk _ (Or.inl ⟨rfl, 0, rfl, by decide, by decide⟩))
theorem ro_is_zq {kA : Nat → ClassId} {G : List rg_T} {ta : Nat → Option Nat} {ws : va_W} {A : Nat → Prop} {s : State} (hN : nsr kA A s) (hth : th_ok kA G ta ws) {rs : List Nat} (hr : (rs.all (fun r => decide (5000 ≤ r) && decide (r < 5000 + ro_N) && decide (G[r]? = none))) = true) {v : Value} (h : tv_ok ta (2, 0, 0, rs) v) : ∃ i, i < ro_N ∧ v = .ref (kA (5000 + i)) := by
  obtain ⟨a, r, rfl, h1, h2⟩ := tv_ref h rfl
  have hq := List.all_eq_true.mp hr r h2
  simp only [Bool.and_eq_true, decide_eq_true_eq] at hq
  have h3 : tv_ok ta (2, 0, 0, [5000 + (r - 5000)]) (.ref a) := Or.inr (Or.inr (Or.inl ⟨rfl, a, r, rfl, h1, List.mem_singleton.mpr (by omega)⟩))
  exact ⟨r - 5000, by omega, ro_is hth (show G[5000 + (r - 5000)]? = none by rw [show 5000 + (r - 5000) = r by omega]; exact hq.2) h3⟩
/-- a method of any String constant -/
theorem cl_stringS {l : Launch} {D : va_G} {kA : Nat → ClassId} {G : List rg_T} {own : String} {y : MethodName} {bytes : ByteArray} {maxL index : Nat} {ret' : Option FieldType} {en : en_T} {rs : List Nat} {ts : List tv_T} (hen : en.1 = (2, 0, 0, rs) :: ts) (hr : (rs.all (fun r => decide (5000 ≤ r) && decide (r < 5000 + ro_N) && decide (G[r]? = none))) = true) (hcl : y.cls = "java/lang/String") (hM : ct_ok PQ l D kA G y (Cond.code y bytes maxL ret' :: lw_g) en)
    (hc : Cond.code y bytes maxL ret' ∈ lw_g) (hini : Cond.initialized y.cls ∈ lw_g) (hl : Cond.methodLink own index y ∈ lw_g) (hin : Cond.instanceMethod y ∈ lw_g) (hsel : Cond.selects y.cls y y ∈ lw_g)
    (hd : y.cls ≠ "java/lang/invoke/MethodHandle" ∧ y.cls ≠ "java/lang/invoke/VarHandle" ∧ (parseMethodDescriptor y.desc).map (fun d => d.parameters.length) = some ts.length) (hm : maxL ≤ 37) : cl_ok PQ l D kA G own (.invokevirtual index) 3 en := by
  intro p e R s m args below meth c H locs cells slots Q cc pc nL ret nm A ws ta ls av gv hv rest X hK hN hA hP hD hS hth hag hgv hhv hpr hrest hfr hlo hce hsl hls hdec kk
  have hM2 := hM H.size ta ws av gv hv hth hag hgv hhv hpr
  rw [hen] at hag
  cases av with
  | nil => exact hag.elim
  | cons v0 As =>
    obtain ⟨i, hi, rfl⟩ := ro_is_zq hN hth hr hag.1
    have hrv : ∃ cellB : Cell, H[kA (5000 + i)]? = some cellB ∧ cellB.vm.isStatics = false ∧ s.vm.findClass y.cls = some cellB.cls := by
      obtain ⟨cell, h1, h2, h3, -⟩ := (hN.2.2.1 i hi).1.kept hS.2.1
      exact ⟨cell, h1, h2, by rw [hcl]; exact h3⟩
    have hst : (Value.ref (kA (5000 + i)) :: As).reverse ++ rest = As.reverse ++ .ref (kA (5000 + i)) :: rest := by rw [List.reverse_cons, List.append_assoc]; rfl
    exact m_go (k_rV16 X hM2 rfl hc hini hl hin hsel ts.length hd ⟨hfr, by show 16 + (maxL + 11) + 64 * en.2.2.2.1 ≤ R.locals; omega⟩ rfl rfl hrv (m_pre hN hA hS hK hP hD) (ag_len hag.2) hls hst hrest hdec ⟨hce, hsl⟩) hP hD hS hA kk
/-! places -/
def pl_gd (G : List rg_T) : Bool := G.all (fun g => decide (g.1 ≠ 0) || (match g.2.2.2.1.2.2.2 with | [c] => decide (g.2.2.2.2 = pl_L c) | _ => true))
theorem pl_gd_ok {G : List rg_T} (h : pl_gd G = true) : pl_good G := fun r g c hr h0 hc => by
  have := List.all_eq_true.mp h g (List.mem_of_getElem? hr)
  rw [Bool.or_eq_true, decide_eq_true_eq] at this
  rcases this with q | q
  · exact absurd h0 q
  · rw [hc] at q
    simpa using q
/-- an element by its place -/
theorem th_pl {kA : Nat → ClassId} {G : List rg_T} {A : Nat → Prop} {ta : Nat → Option Nat} {ws : va_W} (hD : va_D A ws) (hth : th_ok kA G ta ws) {a r : Nat} (ha : ta a = some r) {g : rg_T} (hg : G[r]? = some g) (hk : g.1 = 0) {j : Nat} (hj : j < g.2.1) {t : tv_T} (ht : g.2.2.2.2[j % g.2.2.2.2.length]? = some t) (h8 : t.1 = 0 ∨ t.1 = 8) : pl_k t (w_el ws a j) := by
  obtain ⟨e, h2, h3⟩ := th_in hth ha hg
  rcases h3 with ⟨_, n_zq, f, rfl, l1, l2, _, _, hf⟩ | ⟨z, _⟩ | ⟨z, _⟩ | ⟨z, _⟩
  · unfold w_el
    rw [w_at_mem hD h2]
    exact tv_pl (hf j t (Nat.lt_of_lt_of_le hj l1) ht) h8
  · omega
  · omega
  · omega
theorem pl_kinds (c : Nat) : ∀ t ∈ pl_L c, t.1 = 0 ∨ t.1 = 8 := by
  match c with
  | 0 => exact fun t h => by cases h
  | 1 => decide +kernel
  | 2 => decide +kernel
  | n + 3 => exact fun t h => by cases h
/-- a value that fits all places of a stretch -/
theorem pl_in {c lo hi M : Nat} (hM : (pl_L c).length = M) {a b x : Int} (h : (((pl_L c).drop lo).take (hi + 1 - lo)).all (fun t => decide (t.1 = 0) && decide (t.2.1 ≤ a) && decide (b ≤ t.2.2.1)) = true) (ha : a ≤ x) (hb : x ≤ b) {j : Nat} (h1 : lo ≤ j % M) (h2 : j % M ≤ hi) : pl_ok c j x := by
  intro t ht
  rw [hM] at ht
  have hm : t ∈ ((pl_L c).drop lo).take (hi + 1 - lo) := by
    refine List.mem_of_getElem? (i := j % M - lo) ?_
    rw [List.getElem?_take, if_pos (by omega), List.getElem?_drop, show lo + (j % M - lo) = j % M by omega]
    exact ht
  have := List.all_eq_true.mp h t hm
  simp only [Bool.and_eq_true, decide_eq_true_eq] at this
  unfold pl_k
  rw [if_pos this.1.1]
  omega
/-- a value out of the same place -/
theorem pl_cp {kA : Nat → ClassId} {G : List rg_T} {A : Nat → Prop} {ta : Nat → Option Nat} {ws : va_W} (hD : va_D A ws) (hth : th_ok kA G ta ws) {a r c M : Nat} (ha : ta a = some r) {g : rg_T} (hg : G[r]? = some g) (hk : g.1 = 0) (hL : g.2.2.2.2 = pl_L c) (hM : (pl_L c).length = M) {i j : Nat} (hi : i < g.2.1) (hij : i % M = j % M) : pl_ok c j (w_el ws a i) := by
  intro t ht
  rw [hM] at ht
  refine th_pl hD hth ha hg hk hi (t := t) (by rw [hL, hM, hij]; exact ht) (pl_kinds c t (List.mem_of_getElem? ht))
theorem pl_M1 : (pl_L 1).length = 539 := by decide +kernel
theorem pl_M2 : (pl_L 2).length = 122 := by decide +kernel
theorem or_add {a b k : Nat} (ha : a < 2 ^ k) (hb : 2 ^ k ∣ b) : a ||| b = a + b := by
  obtain ⟨q, rfl⟩ := hb
  rw [Nat.or_comm, Nat.add_comm, Nat.mul_comm, ← Nat.shiftLeft_eq, Nat.shiftLeft_add_eq_or_of_lt ha]
/-- System.arraycopy within a row that has places -/
theorem cl_copyP {l : Launch} {D : va_G} {kA : Nat → ClassId} {G : List rg_T} {own : String} {index r n1 m1 rk p1 p2 p3 : Nat} {lo hi : Int} {rs : List Nat} {L : List tv_T} (hg1 : G[r]? = some (0, n1, m1, (0, lo, hi, rs), L)) (hp : p1 % L.length = p2 % L.length ∧ p1 + p3 ≤ n1 ∧ p2 + p3 ≤ n1 ∧ p1 < 2147483648 ∧ p2 < 2147483648 ∧ p3 < 2147483648) (hrk : 1 ≤ rk)
    (hl : Cond.methodLink own index arraycopyName ∈ lw_g) (hnat : Cond.native arraycopyName ∈ lw_g) (hst : Cond.static arraycopyName ∈ lw_g) (hini : Cond.initialized "java/lang/System" ∈ lw_g) :
    cl_ok PQ l D kA G own (.invokestatic index) 3 ([(2, 0, 0, [r]), (0, (p1 : Int), (p1 : Int), []), (2, 0, 0, [r]), (0, (p2 : Int), (p2 : Int), []), (0, (p3 : Int), (p3 : Int), [])], none, false, rk, 0, 0, [], [], (2 ^ r, [], [], [], [])) := by
  intro p e R s m args below meth c H locs cells slots Q cc pc nL ret nm A ws ta ls av gv hv rest X hK hN hA hP hD hS hth hag hgv hhv hpr hrest hfr hlo hce hsl hls hdec kk
  have hag_zq : ag_ok ta [(2, 0, 0, [r]), (0, (p1 : Int), (p1 : Int), []), (2, 0, 0, [r]), (0, (p2 : Int), (p2 : Int), []), (0, (p3 : Int), (p3 : Int), [])] av := hag
  cases hv with
  | cons _ _ => exact hhv.elim
  | nil =>
  cases gv with
  | cons _ _ => exact hgv.elim
  | nil =>
  match av, hag_zq with
  | [v0, v1, v2, v3, v4], ⟨h0, h1, h2, h3, h4, _⟩ =>
    obtain ⟨a0, q0r, rfl, ha0, hr0⟩ := tv_ref h0 rfl
    obtain ⟨sp, rfl, sp1, sp2⟩ := tv_int h1 rfl
    obtain ⟨a1, q1r, rfl, ha1, hr1⟩ := tv_ref h2 rfl
    obtain ⟨dp, rfl, dp1, dp2⟩ := tv_int h3 rfl
    obtain ⟨n, rfl, nn1, nn2⟩ := tv_int h4 rfl
    rw [List.mem_singleton.mp hr0] at ha0
    rw [List.mem_singleton.mp hr1] at ha1
    have es : sp.toInt = p1 := by have a : (p1 : Int) ≤ sp.toInt := sp1; have b : sp.toInt ≤ (p1 : Int) := sp2; omega
    have ed : dp.toInt = p2 := by have a : (p2 : Int) ≤ dp.toInt := dp1; have b : dp.toInt ≤ (p2 : Int) := dp2; omega
    have en : n.toInt = p3 := by have a : (p3 : Int) ≤ n.toInt := nn1; have b : n.toInt ≤ (p3 : Int) := nn2; omega
    obtain ⟨i0, c0, hq0, hgo0⟩ := th_at hth ha0 hg1
    obtain ⟨i1, c1, hq1, hgo1⟩ := th_at hth ha1 hg1
    rcases hgo0 with ⟨_, l0, f, rfl, la1, la2, _, hf, hf_zq⟩ | ⟨z, _⟩ | ⟨z, _⟩ | ⟨z, _⟩
    rotate_left
    · exact absurd z (by show ¬ (0 : Nat) = 3; omega)
    · exact absurd z (by show ¬ 4 ≤ 0; omega)
    · exact absurd z (by show ¬ 10 ≤ 0; omega)
    rcases hgo1 with ⟨z1, l1, g, rfl, lb1, lb2, lb3, hg, hg_zq⟩ | ⟨z, _⟩ | ⟨z, _⟩ | ⟨z, _⟩
    rotate_left
    · exact absurd z (by show ¬ (0 : Nat) = 3; omega)
    · exact absurd z (by show ¬ 4 ≤ 0; omega)
    · exact absurd z (by show ¬ 10 ≤ 0; omega)
    have la1_zq : n1 ≤ l0 := la1
    have lb1_zq : n1 ≤ l1 := lb1
    have lt0 : ∀ x : Int32, 0 ≤ x.toInt → ¬ x < 0 := fun x hx q => by have h7 := i32_lt.mp q; rw [show (0 : Int32).toInt = 0 from rfl] at h7; omega
    have tn1 : sp.toNatClampNeg = p1 := by show sp.toInt.toNat = p1; omega
    have tn2 : dp.toNatClampNeg = p2 := by show dp.toInt.toNat = p2; omega
    have tn3 : n.toNatClampNeg = p3 := by show n.toInt.toNat = p3; omega
    have hml : c.maxLocals = ls.size := X.2.2.1.trans hls.symm
    have room : (rest.map fun v => v.category).sum + (nativeFrameWords "java/lang/System" "arraycopy" 5 + 11) ≤ R.locals := by
      have : nativeFrameWords "java/lang/System" "arraycopy" 5 ≤ 30 := by decide +kernel
      have h64 : 64 * (rk + 1) ≤ R.locals := hlo
      omega
    have hfr1 : 1 ≤ R.frames := by have : rk + 1 ≤ R.frames := hfr; omega
    refine va_copyi X.1 X.2.1 hml X.2.2.2.1 (X.2.2.2.2.1 _ hl) (X.2.2.2.2.1 _ hnat) (X.2.2.2.2.1 _ hst) (X.2.2.2.2.1 _ hini) hK hP hD hS i0 i1 0 0 hq0 hq1 rfl rfl rfl (lt0 _ (by omega)) (lt0 _ (by omega)) (lt0 _ (by omega)) (by rw [tn1, tn3]; omega) (by rw [tn2, tn3]; omega) (fun i hi => rfl) hfr1 room hdec (fun H1 locs1 g1 g2 g3 => ?_)
    refine kk ta _ H1 locs1 none (fun _ _ q => q) (th_set hD hth hq1 ha1 hg1 (Or.inl ⟨z1, l1, _, rfl, lb1, lb2, lb3, fun j hj => ?_, fun j t_zq hj ht_zq => ?_⟩)) g1 g2 g3 trivial ⟨fun f hf => absurd hf List.not_mem_nil, Or.inl rfl⟩ (fun q => by cases q) (kp_arr hq1 ha1 (by show (2 ^ r).testBit r = true; rw [Nat.testBit_two_pow_self]))
    · rw [tn1, tn2, tn3]
      unfold va_cpy
      split
      · exact hf _ (by omega)
      · exact hg j hj
    · rw [tn1, tn2, tn3]
      unfold va_cpy
      split
      · rename_i hc
        refine hf_zq _ t_zq (by omega) ?_
        have hM : (p1 + (j - p2)) % L.length = j % L.length := by
          have e1 : (p1 + (j - p2)) % L.length = (p2 + (j - p2)) % L.length := by rw [Nat.add_mod, hp.1, ← Nat.add_mod]
          rw [e1, show p2 + (j - p2) = j by omega]
        show L[(p1 + (j - p2)) % L.length]? = some t_zq
        rw [hM]; exact ht_zq
      · exact hg_zq j t_zq hj ht_zq
theorem tv_dvk {ta : Nat → Option Nat} {lo hi : Int} {M : Nat} {v : Value} (h : tv_ok ta (5, lo, hi, [M]) v) : (lo ≤ v_iv v ∧ v_iv v ≤ hi) ∧ ∃ q : Int, v_iv v = M * q := by
  obtain ⟨x, rfl, a, b, q, hq⟩ := tv_div h rfl
  exact ⟨⟨a, b⟩, q, hq⟩
end
section
/-! masks of bytes -/
theorem and255_all : ∀ i : Fin 256, bv ((i.val : Int) - 128) &&& bv 255 = bv (((i.val : Int) - 128) % 256) := by decide +kernel
theorem bv_inj255 {x y : Int} (h : bv x = bv y) (hx : 0 ≤ x ∧ x ≤ 255) (hy : 0 ≤ y ∧ y ≤ 255) : x = y := by
  have h1 : (bv x).toNat = (bv y).toNat := by rw [h]
  unfold bv at h1
  rw [BitVec.toNat_ofInt, BitVec.toNat_ofInt] at h1
  have e : ((2 ^ 32 : Nat) : Int) = 4294967296 := by decide
  rw [e] at h1
  omega
theorem and255 {n a b : Int} (h : bv n = bv a &&& bv b) (hn : 0 ≤ n ∧ n ≤ 255) (ha : -128 ≤ a ∧ a ≤ 127) (hb : 255 ≤ b ∧ b ≤ 255) : n = a % 256 := by
  have e : b = 255 := by omega
  rw [e] at h
  have k := and255_all ⟨(a + 128).toNat, by omega⟩
  simp only at k
  rw [show (((a + 128).toNat : Nat) : Int) - 128 = a from by omega] at k
  rw [k] at h
  exact bv_inj255 h hn (by omega)
end
section
/-! two values named at once -/
theorem n_v_new0 {vs t : List Value} {v : Value} {n : Nat} (h : vs.length = n) : n_v (vs ++ v :: t) n = v := by
  unfold n_v
  rw [List.getElem?_append_right (by omega), h, Nat.sub_self]; rfl
theorem n_v_new1 {vs t : List Value} {v u : Value} {n : Nat} (h : vs.length = n) : n_v (vs ++ v :: u :: t) (n + 1) = u := by
  unfold n_v
  rw [List.getElem?_append_right (by omega), h, show n + 1 - n = 1 from by omega]; rfl
theorem ag_two {ta : Nat → Option Nat} {t t2 : tv_T} {v v2 : Value} (h : tv_ok ta t v) (h2 : tv_ok ta t2 v2) : ag_ok ta [t, t2] [v, v2] := ⟨h, h2, trivial⟩
/-! points of a rectangle -/
theorem grid_lt {x y w h : Int} (hx0 : 0 ≤ x) (hx : x < w) (hy : y < h) : y * w + x < w * h := by
  have h1 := Int.mul_le_mul_of_nonneg_right (show y + 1 ≤ h from by omega) (show 0 ≤ w from by omega)
  rw [Int.add_mul, Int.one_mul, Int.mul_comm h w] at h1
  omega
theorem grid_row {p w h : Int} (hp0 : 0 ≤ p) (hw : 0 < w) (hp : p < w * h) : 0 ≤ p / w ∧ p / w < h := by
  refine ⟨Int.ediv_nonneg hp0 (by omega), ?_⟩
  exact Int.ediv_lt_of_lt_mul hw (by rw [Int.mul_comm]; exact hp)
theorem grid_right {p w h : Int} (hp0 : 0 ≤ p) (hp : p < w * h) (hc : p % w + 1 < w) (hw : 0 < w) : p + 1 < w * h := by
  have h1 := Int.mul_ediv_add_emod p w
  have h2 := (grid_row hp0 hw hp).2
  have h3 := grid_lt (x := p % w + 1) (y := p / w) (w := w) (h := h) (by have := Int.emod_nonneg p (show w ≠ 0 from by omega); omega) hc h2
  rw [Int.mul_comm] at h1
  omega
end
section
variable {PQ : pq_T}
/-! longs and divisions -/
theorem tv_inL {ta : Nat → Option Nat} {lo hi lo_zq hi_zq : Int} {rs rs_zq : List Nat} {v : Value} (h : tv_ok ta (1, lo, hi, rs) v) (h1 : lo_zq ≤ v_iv v) (h2 : v_iv v ≤ hi_zq) : tv_ok ta (1, lo_zq, hi_zq, rs_zq) v := by
  obtain ⟨x, rfl, _, _⟩ := tv_long h rfl
  exact Or.inr (Or.inl ⟨rfl, x, rfl, h1, h2⟩)
theorem dv_c {q a b : Int} (h : q = a.tdiv b) (ha : 0 ≤ a) (hb : 1 ≤ b) : b * q ≤ a ∧ a < b * q + b := by
  rw [Int.tdiv_eq_ediv_of_nonneg ha] at h
  subst h
  have h1 := Int.mul_ediv_add_emod a b
  have h2 := Int.emod_nonneg a (show b ≠ 0 from by omega)
  have h3 := Int.emod_lt_of_pos a (show 0 < b from by omega)
  omega
theorem dv_ten {q a b : Int} (h : q = a.tdiv b) (ha : 0 ≤ a) (hb : 1 ≤ b) : 10 ≤ q → 10 * b ≤ a := by
  intro hq
  have h1 := (dv_c h ha hb).1
  have h2 := Int.mul_le_mul_of_nonneg_left hq (show 0 ≤ b from by omega)
  rw [Int.mul_comm b 10] at h2
  omega
/-! groups lie inside lower ones: the last eight places of a row -/
theorem pl_g8 {k : Int} (h1 : 1 ≤ k) (h7 : k ≤ 7) : (pl_L 1)[(531 + k).toNat]? = some (0, -1, k - 1, []) := by
  rcases (show k = 1 ∨ k = 2 ∨ k = 3 ∨ k = 4 ∨ k = 5 ∨ k = 6 ∨ k = 7 from by omega) with rfl | rfl | rfl | rfl | rfl | rfl | rfl <;> decide +kernel
theorem pl_gin {j : Nat} {x k : Int} (h : pl_ok 1 j x) (h1 : 1 ≤ k) (h7 : k ≤ 7) (hj : ((j % 539 : Nat) : Int) = 531 + k) : x ≤ k - 1 := by
  have e : j % (pl_L 1).length = (531 + k).toNat := by rw [pl_M1]; omega
  have h2 := h (0, -1, k - 1, []) (by rw [e]; exact pl_g8 h1 h7)
  exact h2.2
theorem pl_ginS {j : Nat} {x k : Int} (h1 : 1 ≤ k) (h7 : k ≤ 7) (hj : ((j % 539 : Nat) : Int) = 531 + k) (hx : -1 ≤ x) (hk : x ≤ k - 1) : pl_ok 1 j x := by
  intro t ht
  have e : j % (pl_L 1).length = (531 + k).toNat := by rw [pl_M1]; omega
  rw [e, pl_g8 h1 h7] at ht
  cases ht
  exact ⟨hx, hk⟩
theorem em_of {b q r M : Int} (h : b = M * q + r) (h0 : 0 ≤ r) (h1 : r < M) (hb : 0 ≤ b) : b % M = r := by
  subst h
  rw [Int.add_comm, Int.add_mul_emod_self_left]
  exact Int.emod_eq_of_lt h0 h1
/-! steps on a rectangle of points -/
theorem grid_bd {w h : Int} (hw : 1 ≤ w) (hh : 1 ≤ h) (hp : w * h ≤ 6000) : w ≤ 6000 ∧ h ≤ 6000 := by
  have h1 := Int.mul_le_mul_of_nonneg_left hh (show 0 ≤ w from by omega)
  have h2 := Int.mul_le_mul_of_nonneg_right hw (show 0 ≤ h from by omega)
  rw [Int.mul_one] at h1
  rw [Int.one_mul] at h2
  omega
theorem nx_right {c p w W h : Int} (hc : c = p.tmod w) (hW : W = w) (hp0 : 0 ≤ p) (hw : 1 ≤ w) (hlt : c + 1 < w) (hp : p + 1 ≤ W * h) : p + 2 ≤ W * h := by
  subst hW
  rw [Int.tmod_eq_emod_of_nonneg hp0] at hc
  have := grid_right hp0 (show p < W * h from by omega) (by omega) (by omega)
  omega
/-- one byte of a text that never changes -/
theorem cl_tbyte1 {l : Launch} {D : va_G} {kA : Nat → ClassId} {G : List rg_T} {own : String} {i n k : Nat} {lo hi : Int} (hg : G[5200 + i]? = none) (hi_zq : i < ro_N) (hn : (ro_txt.getD i []).length = n) (hk : k < n) (hb : (decide (lo ≤ ((ro_txt.getD i []).getD k 0).toInt) && decide (((ro_txt.getD i []).getD k 0).toInt ≤ hi)) = true) : cl_ok PQ l D kA G own .baload 1 (en_ro [(2, 0, 0, [5200 + i]), (0, (k : Int), (k : Int), [])] (0, lo, hi, [])) := by
  refine cl_look (fun p e R s m args below meth c H locs cells slots Q cc pc nL ret nm A ws ta ls av rest X hN hS hth hag hdec kk => ?_)
  match av, hag with
  | [v0, v1], ⟨h0, h1, _⟩ =>
    rw [ro_is hth hg h0]
    obtain ⟨x, rfl, x1, x2⟩ := tv_int h1 rfl
    have y1 : (k : Int) ≤ x.toInt := x1
    have y2 : x.toInt ≤ (k : Int) := x2
    have hx : 0 ≤ x.toInt := by omega
    obtain ⟨z1, z2, z3⟩ := in_nat (x := x) (n := n) hx (by omega)
    have hT := (hN.2.2.1 i hi_zq).2.2.2
    rw [hn] at hT
    refine va_tb X.1 X.2.1 hT hS z1 rfl hdec (kk _ (Or.inl ⟨rfl, _, rfl, ?_⟩))
    rw [z2, show x.toInt.toNat = k by omega]
    simp only [Bool.and_eq_true, decide_eq_true_eq] at hb
    exact hb
end
section
/-! counts, sums and numbers of the first elements -/
theorem cnt_0 (f : Int → Int) (t : Int) : cntN f t 0 = 0 := rfl
theorem cnt_s (f : Int → Int) (t : Int) (n : Nat) : cntN f t (n + 1) = cntN f t n + (if f ((n : Nat) : Int) ≤ t then 1 else 0) := rfl
theorem sum_0 (f : Int → Int) : sumN f 0 = 0 := rfl
theorem sum_s (f : Int → Int) (n : Nat) : sumN f (n + 1) = sumN f n + f ((n : Nat) : Int) := rfl
theorem num_0 (f : Int → Int) : numN f 0 = 0 := rfl
theorem num_s (f : Int → Int) (n : Nat) : numN f (n + 1) = 32 * numN f n + f ((n : Nat) : Int) := rfl
theorem cnt_bdN (f : Int → Int) (t : Int) : ∀ n : Nat, 0 ≤ cntN f t n ∧ cntN f t n ≤ n
  | 0 => by rw [cnt_0]; omega
  | n + 1 => by
    have := cnt_bdN f t n
    rw [cnt_s]
    split <;> omega
theorem cnt_eqN {f1 f0 : Int → Int} {t : Int} : ∀ {n : Nat}, (∀ j : Int, 0 ≤ j → j < n → f1 j = f0 j) → cntN f1 t n = cntN f0 t n
  | 0, _ => by rw [cnt_0, cnt_0]
  | n + 1, h => by
    simp only [cnt_s]
    rw [cnt_eqN (fun j h0 h1 => h j h0 (by omega)), h (n : Nat) (by omega) (by omega)]
theorem cnt_setN {f1 f0 : Int → Int} {t i v : Int} : ∀ {n : Nat}, (∀ j : Int, 0 ≤ j → (j = i → f1 j = v) ∧ (j ≠ i → f1 j = f0 j)) → 0 ≤ i → i < n → cntN f1 t n + (if f0 i ≤ t then 1 else 0) = cntN f0 t n + (if v ≤ t then 1 else 0)
  | 0, _, h0, h1 => by omega
  | n + 1, h, h0, h1 => by
    simp only [cnt_s]
    by_cases e : i = (n : Nat)
    · have e1 : cntN f1 t n = cntN f0 t n := cnt_eqN (fun j g0 g1 => (h j g0).2 (by omega))
      have e2 := (h (n : Nat) (by omega)).1 e.symm
      rw [e1, e2, e]; omega
    · have ih := cnt_setN (t := t) (n := n) h h0 (by omega)
      have e2 := (h (n : Nat) (by omega)).2 (fun q => e q.symm)
      rw [e2]; omega
theorem cnt_allN {f : Int → Int} {t : Int} : ∀ {n : Nat}, (∀ j : Int, 0 ≤ j → j < n → f j ≤ t) → cntN f t n = n
  | 0, _ => by rw [cnt_0]; rfl
  | n + 1, h => by
    simp only [cnt_s]
    rw [cnt_allN (fun j h0 h1 => h j h0 (by omega)), if_pos (h (n : Nat) (by omega) (by omega))]; omega
theorem cnt_noneN {f : Int → Int} {t : Int} : ∀ {n : Nat}, (∀ j : Int, 0 ≤ j → j < n → t < f j) → cntN f t n = 0
  | 0, _ => cnt_0 f t
  | n + 1, h => by
    simp only [cnt_s]
    have := h (n : Nat) (by omega) (by omega)
    rw [cnt_noneN (fun j h0 h1 => h j h0 (by omega)), if_neg (by omega)]; omega
theorem cnt_exN {f : Int → Int} {t : Int} {n : Nat} (h : cntN f t n < n) : ∃ j : Int, 0 ≤ j ∧ j < n ∧ t < f j := by
  apply Classical.byContradiction
  intro hn
  have : ∀ j : Int, 0 ≤ j → j < n → f j ≤ t := fun j h0 h1 => by
    apply Classical.byContradiction
    intro h2
    exact hn ⟨j, h0, h1, by omega⟩
  rw [cnt_allN this] at h
  omega
theorem cnt_hasN {f : Int → Int} {t : Int} {n : Nat} (h : 0 < cntN f t n) : ∃ j : Int, 0 ≤ j ∧ j < n ∧ f j ≤ t := by
  apply Classical.byContradiction
  intro hn
  have : ∀ j : Int, 0 ≤ j → j < n → t < f j := fun j h0 h1 => by
    apply Classical.byContradiction
    intro h2
    exact hn ⟨j, h0, h1, by omega⟩
  rw [cnt_noneN this] at h
  omega
/-- one element is above: not all count -/
theorem cnt_ltN {f : Int → Int} {t i : Int} : ∀ {n : Nat}, 0 ≤ i → i < n → t < f i → cntN f t n + 1 ≤ n
  | 0, h0, h1, _ => by omega
  | n + 1, h0, h1, h2 => by
    simp only [cnt_s]
    by_cases e : i = (n : Nat)
    · have := cnt_bdN f t n
      rw [e] at h2
      rw [if_neg (by omega)]; omega
    · have := cnt_ltN (n := n) h0 (by omega) h2
      split <;> omega
theorem cnt_gtN {f : Int → Int} {t i : Int} : ∀ {n : Nat}, 0 ≤ i → i < n → f i ≤ t → 1 ≤ cntN f t n
  | 0, h0, h1, _ => by omega
  | n + 1, h0, h1, h2 => by
    simp only [cnt_s]
    have b := cnt_bdN f t n
    by_cases e : i = (n : Nat)
    · rw [e] at h2
      rw [if_pos h2]; omega
    · have := cnt_gtN (n := n) h0 (by omega) h2
      split <;> omega
theorem sum_eqN {f1 f0 : Int → Int} : ∀ {n : Nat}, (∀ j : Int, 0 ≤ j → j < n → f1 j = f0 j) → sumN f1 n = sumN f0 n
  | 0, _ => by rw [sum_0, sum_0]
  | n + 1, h => by
    simp only [sum_s]
    rw [sum_eqN (fun j h0 h1 => h j h0 (by omega)), h (n : Nat) (by omega) (by omega)]
theorem sum_setN {f1 f0 : Int → Int} {i v : Int} : ∀ {n : Nat}, (∀ j : Int, 0 ≤ j → (j = i → f1 j = v) ∧ (j ≠ i → f1 j = f0 j)) → 0 ≤ i → i < n → sumN f1 n + f0 i = sumN f0 n + v
  | 0, _, h0, h1 => by omega
  | n + 1, h, h0, h1 => by
    simp only [sum_s]
    by_cases e : i = (n : Nat)
    · have e1 : sumN f1 n = sumN f0 n := sum_eqN (fun j g0 g1 => (h j g0).2 (by omega))
      have e2 := (h (n : Nat) (by omega)).1 e.symm
      rw [e1, e2, e]; omega
    · have ih := sum_setN (n := n) h h0 (by omega)
      have e2 := (h (n : Nat) (by omega)).2 (fun q => e q.symm)
      rw [e2]; omega
theorem num_eqN {f1 f0 : Int → Int} : ∀ {n : Nat}, (∀ j : Int, 0 ≤ j → j < n → f1 j = f0 j) → numN f1 n = numN f0 n
  | 0, _ => by rw [num_0, num_0]
  | n + 1, h => by
    simp only [num_s]
    rw [num_eqN (fun j h0 h1 => h j h0 (by omega)), h (n : Nat) (by omega) (by omega)]
theorem num_ltN {f1 f0 : Int → Int} {i : Int} : ∀ {n : Nat}, (∀ j : Int, 0 ≤ j → j < i → f1 j = f0 j) → f0 i + 1 ≤ f1 i → (∀ j : Int, 0 ≤ j → j < n → f0 j ≤ 31 ∧ 0 ≤ f1 j) → 0 ≤ i → i < n → numN f0 n + 1 ≤ numN f1 n
  | 0, _, _, _, h0, h1 => by omega
  | n + 1, h, hi, hb, h0, h1 => by
    simp only [num_s]
    by_cases e : i = (n : Nat)
    · have e1 : numN f1 n = numN f0 n := num_eqN (fun j g0 g1 => h j g0 (by omega))
      rw [e] at hi
      omega
    · have ih := num_ltN (n := n) h hi (fun j g0 g1 => hb j g0 (by omega)) h0 (by omega)
      have b := hb (n : Nat) (by omega) (by omega)
      omega
theorem num_bdN {f : Int → Int} : ∀ {n : Nat}, (∀ j : Int, 0 ≤ j → j < n → 0 ≤ f j ∧ f j ≤ 31) → 0 ≤ numN f n ∧ numN f n < 32 ^ n
  | 0, _ => by rw [num_0]; exact ⟨Int.le_refl _, by show (0 : Int) < 1; decide⟩
  | n + 1, h => by
    have ih := num_bdN (n := n) (fun j g0 g1 => h j g0 (by omega))
    have b := h (n : Nat) (by omega) (by omega)
    have e : (32 : Int) ^ (n + 1) = 32 * 32 ^ n := by rw [Int.pow_succ, Int.mul_comm]
    simp only [num_s]
    rw [e]; omega
/-! the same, up to an int -/
theorem cnt_bd (f : Int → Int) (t : Int) {n : Int} (hn : 0 ≤ n) : 0 ≤ cntE f t n ∧ cntE f t n ≤ n := by
  have := cnt_bdN f t n.toNat
  rw [cntE_is]; omega
theorem cnt_eq {f1 f0 : Int → Int} {t n : Int} (h : ∀ j : Int, 0 ≤ j → j < n → f1 j = f0 j) : cntE f1 t n = cntE f0 t n := by rw [cntE_is, cntE_is]; exact cnt_eqN (fun j h0 h1 => h j h0 (by omega))
theorem cnt_setD {f1 f0 : Int → Int} {t i v n : Int} (h : ∀ j : Int, 0 ≤ j → (j = i → f1 j = v) ∧ (j ≠ i → f1 j = f0 j)) (h0 : 0 ≤ i) (h1 : i < n) : (f0 i ≤ t ∧ v ≤ t ∧ cntE f1 t n = cntE f0 t n) ∨ (f0 i ≤ t ∧ t < v ∧ cntE f1 t n = cntE f0 t n - 1) ∨ (t < f0 i ∧ v ≤ t ∧ cntE f1 t n = cntE f0 t n + 1) ∨ (t < f0 i ∧ t < v ∧ cntE f1 t n = cntE f0 t n) := by
  have e := cnt_setN (t := t) (n := n.toNat) h h0 (by omega)
  rw [cntE_is, cntE_is]
  by_cases a : f0 i ≤ t
  · by_cases b : v ≤ t
    · rw [if_pos a, if_pos b] at e; left; exact ⟨a, b, by omega⟩
    · rw [if_pos a, if_neg b] at e; right; left; exact ⟨a, by omega, by omega⟩
  · by_cases b : v ≤ t
    · rw [if_neg a, if_pos b] at e; right; right; left; exact ⟨by omega, b, by omega⟩
    · rw [if_neg a, if_neg b] at e; right; right; right; exact ⟨by omega, by omega, by omega⟩
theorem cnt_all {f : Int → Int} {t n : Int} (hn : 0 ≤ n) (h : ∀ j : Int, 0 ≤ j → j < n → f j ≤ t) : cntE f t n = n := by
  have := cnt_allN (n := n.toNat) (t := t) (f := f) (fun j h0 h1 => h j h0 (by omega))
  rw [cntE_is]; omega
theorem cnt_none {f : Int → Int} {t n : Int} (h : ∀ j : Int, 0 ≤ j → j < n → t < f j) : cntE f t n = 0 := by rw [cntE_is]; exact cnt_noneN (fun j h0 h1 => h j h0 (by omega))
theorem cnt_lt {f : Int → Int} {t i n : Int} (h0 : 0 ≤ i) (h1 : i < n) (h2 : t < f i) : cntE f t n + 1 ≤ n := by
  have := cnt_ltN (f := f) (t := t) (n := n.toNat) h0 (by omega) h2
  rw [cntE_is]; omega
theorem cnt_gt {f : Int → Int} {t i n : Int} (h0 : 0 ≤ i) (h1 : i < n) (h2 : f i ≤ t) : 1 ≤ cntE f t n := by rw [cntE_is]; exact cnt_gtN (n := n.toNat) h0 (by omega) h2
theorem sumE_eq {f1 f0 : Int → Int} {n : Int} (h : ∀ j : Int, 0 ≤ j → j < n → f1 j = f0 j) : sumE f1 n = sumE f0 n := by rw [sumE_is, sumE_is]; exact sum_eqN (fun j h0 h1 => h j h0 (by omega))
theorem sumE_set {f1 f0 : Int → Int} {i v n : Int} (h : ∀ j : Int, 0 ≤ j → (j = i → f1 j = v) ∧ (j ≠ i → f1 j = f0 j)) (h0 : 0 ≤ i) (h1 : i < n) : sumE f1 n + f0 i = sumE f0 n + v := by rw [sumE_is, sumE_is]; exact sum_setN (n := n.toNat) h h0 (by omega)
theorem num_eq {f1 f0 : Int → Int} {n : Int} (h : ∀ j : Int, 0 ≤ j → j < n → f1 j = f0 j) : numE f1 n = numE f0 n := by rw [numE_is, numE_is]; exact num_eqN (fun j h0 h1 => h j h0 (by omega))
theorem cnt_up {f1 f0 : Int → Int} {c i n : Int} (h : ∀ j : Int, 0 ≤ j → (j = i → f1 j = c) ∧ (j ≠ i → f1 j = f0 j)) (h0 : 0 ≤ i) (h1 : i < n) (hc : c < f0 i) : ∀ t : Int, cntE f0 t n ≤ cntE f1 t n ∧ (t = c → cntE f1 t n = cntE f0 t n + 1) := fun t => by
  have := cnt_setD (t := t) (n := n) h h0 h1
  omega
/-! fields of objects in arrays of references -/
theorem rfi_nm {ws : va_W} {a len kf : Nat} {z : Int} {v : Value} (h : ((v_ad v : Nat) : Int) = w_el ws a z.toNat) (h0 : 0 ≤ z) (h1 : z < len) : w_rfi ws a z len kf = w_fi ws v kf := by
  unfold w_rfi
  rw [decide_eq_true h0, decide_eq_true h1]
  show w_fi ws (.ref (w_ei ws a z).toNat) kf = w_fi ws v kf
  have e : w_ei ws a z = ((v_ad v : Nat) : Int) := h.symm
  rw [e, Int.toNat_natCast]
  rfl
/-! the reference's rectangle -/
theorem st_in {x y w W H m q : Int} (hm : m = y * w) (hw : W = w) (hq : q = m + x) (hx0 : 0 ≤ x) (hx : x ≤ w - 1) (hy0 : 0 ≤ y) (hy : y ≤ H - 1) : 0 ≤ q ∧ q + 1 ≤ W * H := by
  subst hw
  have h1 := grid_lt (x := x) (y := y) (w := W) (h := H) hx0 (by omega) (by omega)
  have h2 := Int.mul_nonneg hy0 (show 0 ≤ W from by omega)
  omega
theorem sp_4 {a b w h W H : Int} (ha : a = 4 * w) (hb : b = a * h) (hw : W = w) (hh : H = h) : b = 4 * (W * H) := by
  subst hw hh ha hb
  rw [Int.mul_assoc]
theorem or_all1 {P : Prop} {B : Int} {φ : Int → Prop} (h : ∀ j : Int, 0 ≤ j → j < B → (P ∨ φ j)) : P ∨ ∀ j : Int, 0 ≤ j → j < B → φ j := by
  by_cases p : P
  · exact Or.inl p
  · exact Or.inr (fun j h0 h1 => (h j h0 h1).resolve_left p)
theorem or_all2 {P Q : Prop} {B : Int} {φ : Int → Prop} (h : ∀ j : Int, 0 ≤ j → j < B → (P ∨ Q ∨ φ j)) : P ∨ Q ∨ ∀ j : Int, 0 ≤ j → j < B → φ j := by
  by_cases p : P
  · exact Or.inl p
  · exact Or.inr (or_all1 (fun j h0 h1 => (h j h0 h1).resolve_left p))
theorem all_or1 {P : Prop} {B : Int} {φ : Int → Prop} (h : P ∨ ∀ j : Int, 0 ≤ j → j < B → φ j) : ∀ j : Int, 0 ≤ j → j < B → (P ∨ φ j) := fun j h0 h1 => h.imp id (fun g => g j h0 h1)
theorem all_or2 {P Q : Prop} {B : Int} {φ : Int → Prop} (h : P ∨ Q ∨ ∀ j : Int, 0 ≤ j → j < B → φ j) : ∀ j : Int, 0 ≤ j → j < B → (P ∨ Q ∨ φ j) := fun j h0 h1 => h.imp id (fun g => all_or1 g j h0 h1)
theorem all_im {P : Prop} {B : Int} {φ : Int → Prop} (h : P → ∀ j : Int, 0 ≤ j → j < B → φ j) : ∀ j : Int, 0 ≤ j → j < B → (P → φ j) := fun j h0 h1 p => h p j h0 h1
end
section
/-! up to four values named at once -/
theorem n_v_newk {vs L : List Value} {v : Value} {n k : Nat} (h : vs.length = n) (hk : L[k]? = some v) : n_v (vs ++ L) (n + k) = v := by
  unfold n_v
  rw [List.getElem?_append_right (by omega), h, show n + k - n = k from by omega, hk]; rfl
theorem ag_three {ta : Nat → Option Nat} {t t2 t3 : tv_T} {v v2 v3 : Value} (h : tv_ok ta t v) (h2 : tv_ok ta t2 v2) (h3 : tv_ok ta t3 v3) : ag_ok ta [t, t2, t3] [v, v2, v3] := ⟨h, h2, h3, trivial⟩
theorem ag_four {ta : Nat → Option Nat} {t t2 t3 t4 : tv_T} {v v2 v3 v4 : Value} (h : tv_ok ta t v) (h2 : tv_ok ta t2 v2) (h3 : tv_ok ta t3 v3) (h4 : tv_ok ta t4 v4) : ag_ok ta [t, t2, t3, t4] [v, v2, v3, v4] := ⟨h, h2, h3, h4, trivial⟩
/-! divisions -/
theorem fdv {x y q : Int} (hq : q = Int.tdiv x y) (hy : 1 ≤ y) : (0 ≤ x → y * q ≤ x ∧ x < y * q + y) ∧ (x < 0 → y * q - y < x ∧ x ≤ y * q) := by
  constructor
  · intro hx
    rw [Int.tdiv_eq_ediv_of_nonneg hx] at hq
    have h1 := Int.mul_ediv_add_emod x y
    have h2 := Int.emod_nonneg x (show y ≠ 0 from by omega)
    have h3 := Int.emod_lt_of_pos x (show 0 < y from by omega)
    rw [← hq] at h1
    omega
  · intro hx
    have e : q = -((-x) / y) := by
      rw [hq, show x = -(-x) from by omega, Int.neg_tdiv, Int.tdiv_eq_ediv_of_nonneg (show 0 ≤ -x from by omega), Int.neg_neg]
    have h1 := Int.mul_ediv_add_emod (-x) y
    have h2 := Int.emod_nonneg (-x) (show y ≠ 0 from by omega)
    have h3 := Int.emod_lt_of_pos (-x) (show 0 < y from by omega)
    have h4 : y * q = -(y * ((-x) / y)) := by rw [e, Int.mul_neg]
    omega
theorem fd_1 {y q n : Int} (h : n = q - 1) : y * n = y * q - y := by rw [h, Int.mul_sub, Int.mul_one]
theorem xor_sg {n a b : Int} (h : bv n = bv a ^^^ bv b) (hn : -2147483648 ≤ n ∧ n ≤ 2147483647) (ha : -2147483648 ≤ a ∧ a ≤ 2147483647) (hb : 0 ≤ b ∧ b ≤ 2147483647) : (n < 0 ↔ a < 0) := by
  have sg : ∀ z : Int, -2147483648 ≤ z → z ≤ 2147483647 → ((bv z).msb = true ↔ z < 0) := fun z h0 h1 => by
    unfold bv
    rw [BitVec.msb_eq_toInt, BitVec.toInt_ofInt, show z.bmod (2 ^ 32) = z from Int.bmod_eq_of_le_mul_two (by show -(4294967296 : Int) ≤ z * 2; omega) (by show z * 2 < (4294967296 : Int); omega)]
    simp
  have e : (bv n).msb = ((bv a).msb ^^ (bv b).msb) := by rw [h, BitVec.msb_xor]
  have eb : (bv b).msb = false := by
    cases hc : (bv b).msb with
    | false => rfl
    | true => have := (sg b (by omega) hb.2).mp hc; omega
  rw [eb, Bool.xor_false] at e
  rw [← sg n hn.1 hn.2, ← sg a ha.1 ha.2, e]
/-- a point of a line -/
theorem dl_in {a c n k q p e : Int} (he : e = c - a) (hp : p = 2 * k * e + n) (hn : 1 ≤ n) (hk0 : 0 ≤ k) (hk : k ≤ n) (h1 : 2 * n * q ≤ p) (h2 : p < 2 * n * q + 2 * n) (e1 : e ≤ n) (e2 : -n ≤ e) : (a ≤ a + q ∧ a + q ≤ c) ∨ (c ≤ a + q ∧ a + q ≤ a) := by
  by_cases s : 0 ≤ e
  · left
    have m1 : 0 ≤ k * e := Int.mul_nonneg hk0 s
    have m2 : k * e ≤ n * e := Int.mul_le_mul_of_nonneg_right hk s
    have p1 : p = 2 * (k * e) + n := by rw [hp, Int.mul_assoc]
    have q0 : 0 ≤ q := by
      apply Classical.byContradiction
      intro h
      have : 2 * n * q ≤ 2 * n * (-1) := Int.mul_le_mul_of_nonneg_left (by omega) (by omega)
      omega
    have q1 : q ≤ e := by
      apply Classical.byContradiction
      intro h
      have h3 : 2 * n * (e + 1) ≤ 2 * n * q := Int.mul_le_mul_of_nonneg_left (by omega) (by omega)
      have h4 : 2 * n * (e + 1) = 2 * (n * e) + 2 * n := by rw [Int.mul_add, Int.mul_one, Int.mul_assoc]
      omega
    omega
  · right
    have m1 : k * e ≤ 0 := by
      have := Int.mul_nonneg hk0 (show 0 ≤ -e from by omega)
      rw [Int.mul_neg] at this; omega
    have m2 : n * e ≤ k * e := by
      have := Int.mul_le_mul_of_nonneg_right hk (show 0 ≤ -e from by omega)
      rw [Int.mul_neg, Int.mul_neg] at this; omega
    have p1 : p = 2 * (k * e) + n := by rw [hp, Int.mul_assoc]
    have q0 : q ≤ 0 := by
      apply Classical.byContradiction
      intro h
      have : 2 * n * 1 ≤ 2 * n * q := Int.mul_le_mul_of_nonneg_left (by omega) (by omega)
      omega
    have q1 : e ≤ q := by
      apply Classical.byContradiction
      intro h
      have h3 : 2 * n * q ≤ 2 * n * (e - 1) := Int.mul_le_mul_of_nonneg_left (by omega) (by omega)
      have h4 : 2 * n * (e - 1) = 2 * (n * e) - 2 * n := by rw [Int.mul_sub, Int.mul_one, Int.mul_assoc]
      omega
    omega
/-- a place in a row of dots -/
theorem dot_in {a w D p q : Int} (hp : p = a * w) (hq : q = Int.tdiv p D) (ha : 0 ≤ a) (hD : a ≤ D) (h1 : 1 ≤ D) (hw : 0 ≤ w) : 0 ≤ q ∧ q ≤ w := by
  have p0 : 0 ≤ p := by rw [hp]; exact Int.mul_nonneg ha hw
  have h := (fdv hq h1).1 p0
  have m : a * w ≤ D * w := Int.mul_le_mul_of_nonneg_right hD hw
  constructor
  · apply Classical.byContradiction
    intro hn
    have : D * q ≤ D * (-1) := Int.mul_le_mul_of_nonneg_left (by omega) (by omega)
    omega
  · apply Classical.byContradiction
    intro hn
    have h3 : D * (w + 1) ≤ D * q := Int.mul_le_mul_of_nonneg_left (by omega) (by omega)
    rw [Int.mul_add, Int.mul_one] at h3
    omega
theorem ag_five {ta : Nat → Option Nat} {t t2 t3 t4 t5 : tv_T} {v v2 v3 v4 v5 : Value} (h : tv_ok ta t v) (h2 : tv_ok ta t2 v2) (h3 : tv_ok ta t3 v3) (h4 : tv_ok ta t4 v4) (h5 : tv_ok ta t5 v5) : ag_ok ta [t, t2, t3, t4, t5] [v, v2, v3, v4, v5] := ⟨h, h2, h3, h4, h5, trivial⟩
theorem ag_six {ta : Nat → Option Nat} {t t2 t3 t4 t5 t6 : tv_T} {v v2 v3 v4 v5 v6 : Value} (h : tv_ok ta t v) (h2 : tv_ok ta t2 v2) (h3 : tv_ok ta t3 v3) (h4 : tv_ok ta t4 v4) (h5 : tv_ok ta t5 v5) (h6 : tv_ok ta t6 v6) : ag_ok ta [t, t2, t3, t4, t5, t6] [v, v2, v3, v4, v5, v6] := ⟨h, h2, h3, h4, h5, h6, trivial⟩
end
section
/-! graphs: J e u v: the edge e joins u and v -/
abbrev pj_T : Type := Int → Int → Int → Prop
/-- y is in every set that holds x and is closed under the steps R -/
def rc (R : Int → Int → Prop) (x y : Int) : Prop := ∀ L : Int → Prop, (∀ a b, R a b → L a → L b) → L x → L y
theorem rc_refl (R : Int → Int → Prop) (x : Int) : rc R x x := fun _ _ h => h
theorem rc_trans {R : Int → Int → Prop} {x y z : Int} (h : rc R x y) (g : rc R y z) : rc R x z := fun L hL hx => g L hL (h L hL hx)
theorem rc_step {R : Int → Int → Prop} {x y : Int} (h : R x y) : rc R x y := fun _ hL hx => hL x y h hx
theorem rc_mono {R Q : Int → Int → Prop} (m : ∀ a b, R a b → Q a b) {x y : Int} (h : rc R x y) : rc Q x y := fun L hL hx => h L (fun a b r => hL a b (m a b r)) hx
theorem rc_symm {R : Int → Int → Prop} (s : ∀ a b, R a b → R b a) {x y : Int} (h : rc R x y) : rc R y x := by
  intro L hL hy
  exact h (fun z => rc R z x) (fun a b r g => rc_trans (rc_step (s a b r)) g) (rc_refl R x) L hL hy
/-- what every step out of x's closure keeps -/
theorem rc_ind {R : Int → Int → Prop} {x y : Int} (h : rc R x y) {L : Int → Prop} (h0 : L x) (h1 : ∀ a b, rc R x a → R a b → L a → L b) : L y :=
  (h (fun z => rc R x z ∧ L z) (fun a b r g => ⟨rc_trans g.1 (rc_step r), h1 a b g.1 r g.2⟩) ⟨rc_refl R x, h0⟩).2
/-- steps along edges that avoid v -/
def sv (J : pj_T) (v : Int) (a b : Int) : Prop := (∃ e, J e a b) ∧ a ≠ v ∧ b ≠ v
def cnA (J : pj_T) (v x y : Int) : Prop := rc (sv J v) x y
def jsym (J : pj_T) : Prop := ∀ e u v, J e u v → J e v u
theorem sv_sym {J : pj_T} (hs : jsym J) (v a b : Int) (h : sv J v a b) : sv J v b a := by
  obtain ⟨⟨e, h1⟩, h2, h3⟩ := h
  exact ⟨⟨e, hs e a b h1⟩, h3, h2⟩
/-- two edges at v whose other ends hang together without v -/
def dir (J : pj_T) (e f : Int) : Prop := ∃ v x y, J e v x ∧ J f v y ∧ cnA J v x y
/-- bl numbers the blocks: same for edges that hang together so, and no more than that -/
def isBl (J : pj_T) (bl : Int → Int) : Prop := (∀ e f, dir J e f → bl e = bl f) ∧ ∀ c : Int → Prop, (∀ e f, dir J e f → c e → c f) → ∀ e f, (∃ u v, J e u v) → (∃ u v, J f u v) → bl e = bl f → c e → c f
/-- an edge of the block leaves a set that hangs together: out of w, by steps of the block R that avoid v, where the graph without v leads from w to x outside -/
theorem exit_lem {J : pj_T} {bl : Int → Int} (hs : jsym J) (hB : isBl J bl) {v w x e f : Int} {R : Int → Int → Prop} (he : J e v w) (hf : J f v x) (hvw : w ≠ v) (hvx : x ≠ v) (hR : ∀ a b, R a b → b ≠ v ∧ ∃ h, J h a b ∧ bl h = bl e) (hc : cnA J v w x) (hx : ¬ rc R w x) : ∃ g s y, J g s y ∧ bl g = bl e ∧ rc R w s ∧ ¬ rc R w y ∧ y ≠ v := by
  have hSv : ∀ s, rc R w s → s ≠ v := fun s hs_zq => rc_ind hs_zq hvw (fun a b _ r _ => (hR a b r).1)
  -- what leads to x outside
  let Q : Int → Prop := fun q => rc (fun a b => sv J v a b ∧ ¬ rc R w a ∧ ¬ rc R w b) x q
  have hQS : ∀ q, Q q → ¬ rc R w q := fun q hq => rc_ind hq hx (fun a b _ r _ => r.2.2)
  have hQv : ∀ q, Q q → q ≠ v := fun q hq => rc_ind hq hvx (fun a b _ r _ => r.1.2.2)
  have hout : ∃ g a b, J g a b ∧ a ≠ v ∧ b ≠ v ∧ ¬ Q a ∧ Q b := by
    apply Classical.byContradiction
    intro hn
    have hcl : ∀ a b, sv J v a b → ¬ Q a → ¬ Q b := by
      intro a b hab ha hb
      obtain ⟨⟨g, hg⟩, h2, h3⟩ := hab
      exact hn ⟨g, a, b, hg, h2, h3, ha, hb⟩
    exact hc (fun q => ¬ Q q) hcl (fun hq => hQS w hq (rc_refl R w)) (rc_refl _ x)
  obtain ⟨g, s, y, hg, hsv, hyv, hsQ, hyQ⟩ := hout
  have hsS : rc R w s := by
    apply Classical.byContradiction
    intro hn
    exact hsQ (rc_trans hyQ (rc_step ⟨⟨⟨g, hs g s y hg⟩, hyv, hsv⟩, hQS y hyQ, hn⟩))
  refine ⟨g, s, y, hg, ?_, hsS, hQS y hyQ, hyv⟩
  have hsx : x ≠ s := fun h => hx (h ▸ hsS)
  -- y to x without s
  have c1 : cnA J s y x := by
    refine rc_symm (sv_sym hs s) ?_
    exact rc_mono (fun a b r => ⟨r.1.1, fun h => r.2.1 (h ▸ hsS), fun h => r.2.2 (h ▸ hsS)⟩) hyQ
  have c2 : cnA J s x v := rc_step ⟨⟨f, hs f v x hf⟩, hsx, fun h => hsv h.symm⟩
  by_cases hw : s = w
  · subst hw
    exact hB.1 g e ⟨s, y, v, hg, hs e v s he, rc_trans c1 c2⟩
  · have c3 : cnA J s v w := rc_step ⟨⟨e, he⟩, fun h => hsv h.symm, fun h => hw h.symm⟩
    -- the last step to s comes from what is reached without s
    have hlast : ∃ h s_zq, J h s s_zq ∧ bl h = bl e ∧ rc (fun a b => R a b ∧ a ≠ s ∧ b ≠ s) w s_zq ∧ s_zq ≠ s := by
      apply Classical.byContradiction
      intro hn
      have hcl : ∀ a b, R a b → (rc (fun a b => R a b ∧ a ≠ s ∧ b ≠ s) w a ∧ a ≠ s) → (rc (fun a b => R a b ∧ a ≠ s ∧ b ≠ s) w b ∧ b ≠ s) := by
        intro a b r ha
        obtain ⟨hbv, h, hh, hb⟩ := hR a b r
        by_cases e1 : b = s
        · subst e1
          exact absurd ⟨h, a, hs h a b hh, hb, ha.1, ha.2⟩ hn
        · exact ⟨rc_trans ha.1 (rc_step ⟨r, ha.2, e1⟩), e1⟩
      exact (hsS _ hcl ⟨rc_refl _ w, fun h => hw h.symm⟩).2 rfl
    obtain ⟨h, s_zq, hh, hb, hr, hne⟩ := hlast
    have c4 : cnA J s w s_zq := rc_mono (fun a b r => by obtain ⟨_, q, hq, _⟩ := hR a b r.1; exact ⟨⟨q, hq⟩, r.2.1, r.2.2⟩) hr
    rw [← hb]
    exact hB.1 g h ⟨s, y, s_zq, hg, hh, rc_trans (rc_trans c1 c2) (rc_trans c3 c4)⟩
end
section
def juni (J : pj_T) : Prop := ∀ e u v u_zq v_zq, J e u v → J e u_zq v_zq → (u_zq = u ∧ v_zq = v) ∨ (u_zq = v ∧ v_zq = u)
def jirr (J : pj_T) : Prop := ∀ e u v, J e u v → u ≠ v
theorem not_closed {c : Int → Prop} {J : pj_T} {bl : Int → Int} (hB : isBl J bl) {e1 f1 : Int} (h1 : ∃ u v, J e1 u v) (h2 : ∃ u v, J f1 u v) (hb : bl e1 = bl f1) (hc : c e1) (hn : ¬ c f1) : ∃ e f v x y, c e ∧ ¬ c f ∧ J e v x ∧ J f v y ∧ cnA J v x y := by
  apply Classical.byContradiction
  intro h
  refine hn (hB.2 c (fun e f hd he => ?_) e1 f1 h1 h2 hb hc)
  apply Classical.byContradiction
  intro hf
  obtain ⟨v, x, y, a, b, d⟩ := hd
  exact h ⟨e, f, v, x, y, he, hf, a, b, d⟩
/-- a block of two edges and more has a ring through each: its ends hang together without it -/
theorem ring_lem {J : pj_T} {bl : Int → Int} (hs : jsym J) (hu : juni J) (hi : jirr J) (hB : isBl J bl) {e0 f0 t h : Int} (h0 : J e0 t h) (h1 : ∃ u v, J f0 u v) (hne : f0 ≠ e0) (hb : bl e0 = bl f0) : rc (fun a b => ∃ g, J g a b ∧ bl g = bl e0 ∧ g ≠ e0) h t := by
  obtain ⟨e, f, v, x, y, he, hf, a, b, d⟩ := not_closed (c := fun e => e = e0) hB ⟨t, h, h0⟩ h1 hb rfl hne
  subst he
  have hbf : bl e = bl f := hB.1 e f ⟨v, x, y, a, b, d⟩
  have hsy : ∀ p q, (∃ g, J g p q ∧ bl g = bl e ∧ g ≠ e) → ∃ g, J g q p ∧ bl g = bl e ∧ g ≠ e := fun p q ⟨g, g1, g2, g3⟩ => ⟨g, hs g p q g1, g2, g3⟩
  have key : rc (fun a b => ∃ g, J g a b ∧ bl g = bl e ∧ g ≠ e) x v := by
    have hxy : rc (fun p q => q ≠ v ∧ p ≠ v ∧ ∃ h, J h p q ∧ bl h = bl e) x y := by
      apply Classical.byContradiction
      intro hn
      obtain ⟨g, s, z, g1, g2, g3, g4, g5⟩ := exit_lem (R := fun p q => q ≠ v ∧ p ≠ v ∧ ∃ h, J h p q ∧ bl h = bl e) hs hB a b (fun h => hi e v x a h.symm) (fun h => hi f v y b h.symm) (fun p q r => ⟨r.1, r.2.2⟩) d hn
      have hsv : s ≠ v := rc_ind g3 (fun h => hi e v x a h.symm) (fun p q _ r _ => r.1)
      exact g4 (rc_trans g3 (rc_step ⟨g5, hsv, g, g1, g2⟩))
    refine rc_trans (rc_mono (fun p q r => ?_) hxy) (rc_step ⟨f, hs f v y b, hbf.symm, hf⟩)
    obtain ⟨r1, r2, g, g1, g2⟩ := r
    refine ⟨g, g1, g2, fun hge => ?_⟩
    subst hge
    rcases hu g v x p q a g1 with ⟨z1, z2⟩ | ⟨z1, z2⟩
    · exact r2 z1
    · exact r1 z2
  rcases hu e v x t h a h0 with ⟨z1, z2⟩ | ⟨z1, z2⟩
  · rw [z1, z2]; exact key
  · rw [z1, z2]; exact rc_symm hsy key
/-- a piece of a block: the edges not drawn of one number; a piece has two ends -/
theorem two_ends {J : pj_T} {bl pc : Int → Int} {D dE : Int → Prop} (hs : jsym J) (hi : jirr J) (hB : isBl J bl)
    (hD : ∀ e u v, J e u v → dE e → D u ∧ D v) (hP : ∀ e f u v w, J e u v → J f u w → ¬ dE e → ¬ dE f → bl e = bl f → ¬ D u → pc e = pc f)
    {e1 f1 : Int} (h1 : ∃ u v, J e1 u v) (h2 : ∃ u v, J f1 u v) (hb : bl e1 = bl f1) (hn1 : ¬ dE e1) (hd1 : dE f1) :
    ∃ v y g k p q, v ≠ y ∧ D v ∧ D y ∧ J g v p ∧ J k y q ∧ bl g = bl e1 ∧ bl k = bl e1 ∧ ¬ dE g ∧ ¬ dE k ∧ pc g = pc e1 ∧ pc k = pc e1 := by
  obtain ⟨e, f, v, w, x, ⟨c1, c2, c3⟩, hf, a, b, d⟩ := not_closed (c := fun e => bl e = bl e1 ∧ ¬ dE e ∧ pc e = pc e1) hB h1 h2 hb ⟨rfl, hn1, rfl⟩ (fun h => h.2.1 hd1)
  have hbf : bl f = bl e1 := by rw [← c1]; exact (hB.1 e f ⟨v, w, x, a, b, d⟩).symm
  have hvD : D v := by
    apply Classical.byContradiction
    intro hn
    have hfn : ¬ dE f := fun h => hn (hD f v x b h).1
    exact hf ⟨hbf, hfn, by rw [← c3]; exact (hP e f v w x a b c2 hfn (by rw [c1, hbf]) hn).symm⟩
  by_cases hw : D w
  · exact ⟨v, w, e, e, w, v, hi e v w a, hvD, hw, a, hs e v w a, c1, c1, c2, c2, c3, c3⟩
  · let R : Int → Int → Prop := fun p q => ¬ D q ∧ ∃ h, J h p q ∧ bl h = bl e
    have hnew : ∀ s, rc R w s → ¬ D s := fun s h => rc_ind h hw (fun p q _ r _ => r.1)
    have hpc : ∀ s, rc R w s → ∀ g u, J g s u → bl g = bl e1 → ¬ dE g ∧ pc g = pc e1 := by
      intro s hS
      refine rc_ind (L := fun s => ∀ g u, J g s u → bl g = bl e1 → ¬ dE g ∧ pc g = pc e1) hS ?_ ?_
      · intro g u g1 g2
        have g3 : ¬ dE g := fun h => hw (hD g w u g1 h).1
        exact ⟨g3, by rw [← c3]; exact (hP e g w v u (hs e v w a) g1 c2 g3 (by rw [c1, g2]) hw).symm⟩
      · intro p q hp r ih g u g1 g2
        obtain ⟨r1, k, k1, k2⟩ := r
        have g3 : ¬ dE g := fun h => r1 (hD g q u g1 h).1
        obtain ⟨i1, i2⟩ := ih k q k1 (by rw [k2, c1])
        exact ⟨g3, by rw [← i2]; exact (hP k g q p u (hs k p q k1) g1 i1 g3 (by rw [k2, c1, g2]) r1).symm⟩
    have hxS : ¬ rc R w x := fun hx => by
      obtain ⟨i1, i2⟩ := hpc x hx f v (hs f v x b) hbf
      exact hf ⟨hbf, i1, i2⟩
    obtain ⟨g, s, y, g1, g2, g3, g4, g5⟩ := exit_lem (R := R) hs hB a b (fun h => hi e v w a h.symm) (fun h => hi f v x b h.symm) (fun p q r => ⟨fun h => r.1 (h ▸ hvD), r.2⟩) d hxS
    have hyD : D y := by
      apply Classical.byContradiction
      intro hn
      exact g4 (rc_trans g3 (rc_step ⟨hn, g, g1, g2⟩))
    obtain ⟨i1, i2⟩ := hpc s g3 g y g1 (by rw [g2, c1])
    exact ⟨v, y, e, g, w, s, fun h => g5 h.symm, hvD, hyD, a, hs g s y g1, c1, by rw [g2, c1], c2, i1, c3, i2⟩
/-- two ends of a piece hang together over new nodes: a set that holds the one and is closed backwards holds the other -/
theorem piece_way {J : pj_T} {pc : Int → Int} {D U : Int → Prop} (hs : jsym J) (hu : juni J) {p : Int} (hP : ∀ e f u v w, J e u v → J f u w → U e → U f → ¬ D u → pc e = pc f)
    (hG : ∀ c : Int → Prop, (∀ e f u v w, J e u v → J f u w → U e → U f → ¬ D u → c e → c f) → ∀ e f, U e → U f → pc e = pc f → c e → c f)
    {a b ea eb za zb : Int} (hab : a ≠ b) (ha : D a) (hb : D b) (h1 : J ea a za) (h2 : J eb b zb) (u1 : U ea) (u2 : U eb) (p1 : pc ea = p) (p2 : pc eb = p)
    {L : Int → Prop} (hL : ∀ i j h, J h i j → U h → pc h = p → (i = a ∨ ¬ D i) → (j = b ∨ ¬ D j) → L j → L i) (h0 : L b) : L a := by
  by_cases hz : D zb
  · -- an edge between drawn nodes is a piece of its own
    have e1 : ea = eb := by
      refine hG (fun e => e = eb) (fun e f u v w g1 g2 _ _ hn hc => ?_) eb ea u2 u1 (by rw [p1, p2]) rfl
      subst hc
      rcases hu e b zb u v h2 g1 with ⟨z1, _⟩ | ⟨z1, _⟩
      · exact absurd (z1 ▸ hb) hn
      · exact absurd (z1 ▸ hz) hn
    subst e1
    rcases hu ea b zb a za h2 h1 with ⟨z1, _⟩ | ⟨z1, z2⟩
    · exact absurd z1 hab
    · rw [z2] at h1
      exact hL a b ea h1 u1 p1 (Or.inl rfl) (Or.inl rfl) h0
  · have hc : ¬ D za ∧ ∀ u v, J ea u v → ¬ D u → L u := by
      have := hG (fun e => pc e = p ∧ (∃ u v, J e u v ∧ ¬ D u) ∧ ∀ u v, J e u v → ¬ D u → L u) (fun e f u v w g1 g2 ue uf hn hc => ?_) eb ea u2 u1 (by rw [p1, p2]) ⟨p2, ⟨zb, b, hs eb b zb h2, hz⟩, fun u v g hn => ?_⟩
      · obtain ⟨_, ⟨u, v, g, hn⟩, h3⟩ := this
        refine ⟨fun hz_zq => ?_, h3⟩
        rcases hu ea a za u v h1 g with ⟨z1, _⟩ | ⟨z1, _⟩
        · exact hn (z1 ▸ ha)
        · exact hn (z1 ▸ hz_zq)
      · obtain ⟨q1, q2, q3⟩ := hc
        have hLu : L u := q3 u v g1 hn
        have hpf : pc f = p := by rw [← hP e f u v w g1 g2 ue uf hn]; exact q1
        refine ⟨hpf, ⟨u, w, g2, hn⟩, fun u_zq v_zq g hn_zq => ?_⟩
        rcases hu f u w u_zq v_zq g2 g with ⟨z1, z2⟩ | ⟨z1, z2⟩
        · rw [z1]; exact hLu
        · subst z1; subst z2
          exact hL u_zq v_zq f g uf hpf (Or.inr hn_zq) (Or.inr hn) hLu
      · rcases hu eb b zb u v h2 g with ⟨z1, _⟩ | ⟨z1, z2⟩
        · exact absurd (z1 ▸ hb) hn
        · subst z1; subst z2
          exact hL u v eb g u2 p2 (Or.inr hn) (Or.inl rfl) h0
    exact hL a za ea h1 u1 p1 (Or.inl rfl) (Or.inr hc.1) (hc.2 za a (hs ea a za h1) hc.1)
/-- an ear: where all edges are of one block, an edge lies among the drawn nodes and a new node has an edge, a way leads over new nodes from one drawn node to another -/
theorem ear_lem {J : pj_T} {bl : Int → Int} {D : Int → Prop} (hs : jsym J) (hu : juni J) (hi : jirr J) (hB : isBl J bl) (hone : ∀ e f u v u_zq v_zq, J e u v → J f u_zq v_zq → bl e = bl f)
    {f1 t h e1 z z_zq : Int} (h1 : J f1 t h) (ht : D t) (hh : D h) (h2 : J e1 z z_zq) (hz : ¬ D z) :
    ∃ a b, a ≠ b ∧ D a ∧ D b ∧ ∀ L : Int → Prop, (∀ i j k, J k i j → ¬ (D i ∧ D j) → (i = a ∨ ¬ D i) → (j = b ∨ ¬ D j) → L j → L i) → L b → L a := by
  have hn1 : ¬ ∃ u v, J f1 u v ∧ ¬ D u := fun ⟨u, u_zq, k1, k2⟩ => by
    rcases hu f1 t h u u_zq h1 k1 with ⟨z1, _⟩ | ⟨z1, _⟩
    · exact k2 (z1 ▸ ht)
    · exact k2 (z1 ▸ hh)
  obtain ⟨e, f, v, w, x, ⟨u, u_zq, k1, k2⟩, hf, a, b, d⟩ := not_closed (c := fun e => ∃ u v, J e u v ∧ ¬ D u) hB ⟨z, z_zq, h2⟩ ⟨t, h, h1⟩ (hone e1 f1 z z_zq t h h2 h1) ⟨z, z_zq, h2, hz⟩ hn1
  have hv : D v := Classical.byContradiction (fun h => hf ⟨v, x, b, h⟩)
  have hx : D x := Classical.byContradiction (fun h => hf ⟨x, v, hs f v x b, h⟩)
  have hw : ¬ D w := by
    rcases hu e v w u u_zq a k1 with ⟨z1, _⟩ | ⟨z1, _⟩
    · exact absurd (z1 ▸ hv) k2
    · exact z1 ▸ k2
  let R : Int → Int → Prop := fun p q => ¬ D q ∧ ∃ h, J h p q ∧ bl h = bl e
  have hnew : ∀ s, rc R w s → ¬ D s := fun s h => rc_ind h hw (fun p q _ r _ => r.1)
  obtain ⟨g, s, y, g1, g2, g3, g4, g5⟩ := exit_lem (R := R) hs hB a b (fun h => hi e v w a h.symm) (fun h => hi f v x b h.symm) (fun p q r => ⟨fun h => r.1 (h ▸ hv), r.2⟩) d (fun h => hnew x h hx)
  have hyD : D y := Classical.byContradiction (fun hn => g4 (rc_trans g3 (rc_step ⟨hn, g, g1, g2⟩)))
  refine ⟨v, y, fun h => g5 h.symm, hv, hyD, fun L hL h0 => ?_⟩
  have hsn := hnew s g3
  have hLs : L s := hL s y g g1 (fun h => hsn h.1) (Or.inr hsn) (Or.inl rfl) h0
  -- back from s to w
  have hback : L w := by
    have : L s → L w := rc_ind (L := fun s => L s → L w) g3 id (fun p q hp r ih hq => by
      obtain ⟨r1, k, q1, q2⟩ := r
      exact ih (hL p q k q1 (fun h => r1 h.2) (Or.inr (hnew p hp)) (Or.inr r1) hq))
    exact this hLs
  exact hL v w e a (fun h => hw h.2) (Or.inl rfl) (Or.inr hw) hback
end
section
/-! maps: A u v: u and v are neighbours; nx u v: who comes behind u and v on a face's round -/
abbrev pa_T : Type := Int → Int → Prop
noncomputable def pb (P : Prop) : Bool := @decide P (Classical.propDecidable P)
theorem pb_t {P : Prop} (h : P) : pb P = true := @decide_eq_true P (Classical.propDecidable P) h
theorem pb_f {P : Prop} (h : ¬ P) : pb P = false := @decide_eq_false P (Classical.propDecidable P) h
theorem pb_i {P : Prop} (h : pb P = true) : P := @of_decide_eq_true P (Classical.propDecidable P) h
theorem pb_iff {P Q : Prop} (h : P ↔ Q) : pb P = pb Q := by
  by_cases p : P
  · rw [pb_t p, pb_t (h.mp p)]
  · rw [pb_f p, pb_f (fun q => p (h.mpr q))]
/-- symmetric, no loops; each goes on; no two meet; around each node all hang together -/
def mp1 (A : pa_T) : Prop := (∀ u v, A u v → A v u) ∧ ∀ u v, A u v → u ≠ v
def mp2 (A : pa_T) (nx : Int → Int → Int) : Prop := ∀ u v, A u v → A v (nx u v)
def mp3 (A : pa_T) (nx : Int → Int → Int) : Prop := ∀ u u_zq v, A u v → A u_zq v → nx u v = nx u_zq v → u = u_zq
def mp4 (A : pa_T) (nx : Int → Int → Int) : Prop := ∀ v (L : Int → Prop), (∀ u, A u v → L u → L (nx u v)) → ∀ u u_zq, A u v → A u_zq v → L u → L u_zq
def mp (A : pa_T) (nx : Int → Int → Int) : Prop := mp1 A ∧ mp2 A nx ∧ mp3 A nx ∧ mp4 A nx
/-- the same on each face -/
def finv (A : pa_T) (nx : Int → Int → Int) (χ : Int → Int → Bool) : Prop := ∀ u v, A u v → χ v (nx u v) = χ u v
/-- where both sides of an edge differ -/
def fbd (χ : Int → Int → Bool) (x y : Int) : Bool := χ x y ^^ χ y x
def eI (u v x y : Int) : Bool := decide ((x = u ∧ y = v) ∨ (x = v ∧ y = u))
/-- every closed way bounds: by ways ρ to each node -/
def pls (A : pa_T) (nx : Int → Int → Int) (ρ : Int → Int → Int → Bool) : Prop := ∀ u v, A u v → ∃ χ, finv A nx χ ∧ ∀ x y, A x y → fbd χ x y = ((ρ u x y ^^ ρ v x y) ^^ eI u v x y)
theorem fbd_sym (χ : Int → Int → Bool) (x y : Int) : fbd χ x y = fbd χ y x := by unfold fbd; exact Bool.xor_comm _ _
theorem eI_no {A : pa_T} (h1 : mp1 A) {u v x y : Int} (huv : ¬ A u v) (hxy : A x y) : eI u v x y = false := by
  unfold eI
  refine decide_eq_false (fun h => ?_)
  rcases h with ⟨rfl, rfl⟩ | ⟨rfl, rfl⟩
  · exact huv hxy
  · exact huv (h1.1 _ _ hxy)
/-- along a ring from the one behind l one comes to l -/
theorem ring_to {A : pa_T} {nx : Int → Int → Int} (h2 : mp2 A nx) (h1 : mp1 A) (h4 : mp4 A nx) {v l : Int} (hl : A l v) : ∀ u, A u v → rc (fun a b => A a v ∧ a ≠ l ∧ b = nx a v) (nx l v) u := by
  intro u hu
  refine h4 v (fun u => rc (fun a b => A a v ∧ a ≠ l ∧ b = nx a v) (nx l v) u) (fun a ha hL => ?_) (nx l v) u (h1.1 _ _ (h2 l v hl)) hu (rc_refl _ _)
  by_cases e : a = l
  · rw [e]; exact rc_refl _ _
  · exact rc_trans hL (rc_step ⟨ha, e, rfl⟩)
/-- where two maps are put together at nodes that lie in parts of the first of their own -/
def shd (A1 A2 : pa_T) (i : Int) : Prop := (∃ u, A1 u i) ∧ ∃ u, A2 u i
def glu (A1 A2 : pa_T) (nx1 nx2 nx : Int → Int → Int) (l1 l2 : Int → Int) : Prop :=
  (∀ i j, shd A1 A2 i → shd A1 A2 j → rc A1 i j → i = j) ∧
  (∀ v, shd A1 A2 v → A1 (l1 v) v ∧ A2 (l2 v) v ∧ nx (l1 v) v = nx2 (l2 v) v ∧ nx (l2 v) v = nx1 (l1 v) v) ∧
  (∀ u v, A1 u v → ¬ (shd A1 A2 v ∧ u = l1 v) → nx u v = nx1 u v) ∧
  (∀ u v, A2 u v → ¬ (shd A1 A2 v ∧ u = l2 v) → nx u v = nx2 u v)
theorem glu_dis {A1 A2 : pa_T} (h1 : mp1 A1) (h2 : mp1 A2) (hg : ∀ i j, shd A1 A2 i → shd A1 A2 j → rc A1 i j → i = j) {x y : Int} (a : A1 x y) (b : A2 x y) : False :=
  h1.2 x y a (hg x y ⟨⟨y, h1.1 _ _ a⟩, y, h2.1 _ _ b⟩ ⟨⟨x, a⟩, x, b⟩ (rc_step a))
theorem glu_mp {A1 A2 : pa_T} {nx1 nx2 nx : Int → Int → Int} {l1 l2 : Int → Int} (m1 : mp A1 nx1) (m2 : mp A2 nx2) (hg : glu A1 A2 nx1 nx2 nx l1 l2) : mp (fun u v => A1 u v ∨ A2 u v) nx := by
  obtain ⟨⟨s1, i1⟩, a2, a3, a4⟩ := m1
  obtain ⟨⟨s2, i2⟩, b2, b3, b4⟩ := m2
  obtain ⟨g1, g2, g3, g4⟩ := hg
  have hd : ∀ {x y : Int}, A1 x y → A2 x y → False := fun a b => glu_dis ⟨s1, i1⟩ ⟨s2, i2⟩ g1 a b
  refine ⟨⟨fun u v h => h.elim (fun h => Or.inl (s1 u v h)) (fun h => Or.inr (s2 u v h)), fun u v h => h.elim (i1 u v) (i2 u v)⟩, ?_, ?_, ?_⟩
  · intro u v h
    rcases h with h | h
    · by_cases q : shd A1 A2 v ∧ u = l1 v
      · rw [q.2, (g2 v q.1).2.2.1]; exact Or.inr (b2 _ _ (g2 v q.1).2.1)
      · rw [g3 u v h q]; exact Or.inl (a2 u v h)
    · by_cases q : shd A1 A2 v ∧ u = l2 v
      · rw [q.2, (g2 v q.1).2.2.2]; exact Or.inl (a2 _ _ (g2 v q.1).1)
      · rw [g4 u v h q]; exact Or.inr (b2 u v h)
  · have key : ∀ u u_zq v, A1 u v → A1 u_zq v → nx u v = nx u_zq v → u = u_zq := by
      intro u u_zq v h h_zq e
      by_cases q : shd A1 A2 v ∧ u = l1 v
      · by_cases q_zq : shd A1 A2 v ∧ u_zq = l1 v
        · rw [q.2, q_zq.2]
        · rw [q.2, (g2 v q.1).2.2.1, g3 u_zq v h_zq q_zq] at e
          have z1 := b2 _ _ (g2 v q.1).2.1
          rw [e] at z1
          exact (hd (a2 u_zq v h_zq) z1).elim
      · by_cases q_zq : shd A1 A2 v ∧ u_zq = l1 v
        · rw [q_zq.2, (g2 v q_zq.1).2.2.1, g3 u v h q] at e
          have z1 := b2 _ _ (g2 v q_zq.1).2.1
          rw [← e] at z1
          exact (hd (a2 u v h) z1).elim
        · rw [g3 u v h q, g3 u_zq v h_zq q_zq] at e; exact a3 u u_zq v h h_zq e
    have key2 : ∀ u u_zq v, A2 u v → A2 u_zq v → nx u v = nx u_zq v → u = u_zq := by
      intro u u_zq v h h_zq e
      by_cases q : shd A1 A2 v ∧ u = l2 v
      · by_cases q_zq : shd A1 A2 v ∧ u_zq = l2 v
        · rw [q.2, q_zq.2]
        · rw [q.2, (g2 v q.1).2.2.2, g4 u_zq v h_zq q_zq] at e
          have z1 := a2 _ _ (g2 v q.1).1
          rw [e] at z1
          exact (hd z1 (b2 u_zq v h_zq)).elim
      · by_cases q_zq : shd A1 A2 v ∧ u_zq = l2 v
        · rw [q_zq.2, (g2 v q_zq.1).2.2.2, g4 u v h q] at e
          have z1 := a2 _ _ (g2 v q_zq.1).1
          rw [← e] at z1
          exact (hd z1 (b2 u v h)).elim
        · rw [g4 u v h q, g4 u_zq v h_zq q_zq] at e; exact b3 u u_zq v h h_zq e
    have key3 : ∀ u u_zq v, A1 u v → A2 u_zq v → nx u v = nx u_zq v → False := by
      intro u u_zq v h h_zq e
      have hv : shd A1 A2 v := ⟨⟨u, h⟩, u_zq, h_zq⟩
      by_cases q : u = l1 v
      · by_cases q_zq : u_zq = l2 v
        · rw [q, q_zq, (g2 v hv).2.2.1, (g2 v hv).2.2.2] at e
          have z1 := a2 _ _ (g2 v hv).1
          rw [← e] at z1
          exact hd z1 (b2 _ _ (g2 v hv).2.1)
        · rw [q, (g2 v hv).2.2.1, g4 u_zq v h_zq (fun z => q_zq z.2)] at e
          exact q_zq (b3 _ _ v (g2 v hv).2.1 h_zq e).symm
      · by_cases q_zq : u_zq = l2 v
        · rw [q_zq, (g2 v hv).2.2.2, g3 u v h (fun z => q z.2)] at e
          exact q (a3 _ _ v h (g2 v hv).1 e)
        · rw [g3 u v h (fun z => q z.2), g4 u_zq v h_zq (fun z => q_zq z.2)] at e
          have z1 := a2 u v h
          rw [e] at z1
          exact hd z1 (b2 u_zq v h_zq)
    intro u u_zq v h h_zq e
    rcases h with h | h
    · rcases h_zq with h_zq | h_zq
      · exact key u u_zq v h h_zq e
      · exact (key3 u u_zq v h h_zq e).elim
    · rcases h_zq with h_zq | h_zq
      · exact (key3 u_zq u v h_zq h e.symm).elim
      · exact key2 u u_zq v h h_zq e
  · intro v L hL
    by_cases hv : shd A1 A2 v
    · obtain ⟨c1, c2, c3, c4⟩ := g2 v hv
      have t2 : L (nx2 (l2 v) v) → ∀ u, A2 u v → L u := by
        intro h0 u hu
        refine ring_to b2 ⟨s2, i2⟩ b4 c2 u hu L (fun a b r ha => ?_) h0
        have := hL a (Or.inr r.1) ha
        rw [g4 a v r.1 (fun z => r.2.1 z.2), ← r.2.2] at this; exact this
      have t1 : L (nx1 (l1 v) v) → ∀ u, A1 u v → L u := by
        intro h0 u hu
        refine ring_to a2 ⟨s1, i1⟩ a4 c1 u hu L (fun a b r ha => ?_) h0
        have := hL a (Or.inl r.1) ha
        rw [g3 a v r.1 (fun z => r.2.1 z.2), ← r.2.2] at this; exact this
      have all1 : (∀ u, A1 u v → L u) → ∀ u, A2 u v → L u := fun h => t2 (by rw [← c3]; exact hL _ (Or.inl c1) (h _ c1))
      have all2 : (∀ u, A2 u v → L u) → ∀ u, A1 u v → L u := fun h => t1 (by rw [← c4]; exact hL _ (Or.inr c2) (h _ c2))
      have from1 : ∀ u, A1 u v → L u → ∀ w, A1 w v → L w := by
        intro u hu hLu w hw
        refine a4 v L (fun a ha hLa => ?_) u w hu hw hLu
        by_cases q : a = l1 v
        · have z1 := hL a (Or.inl ha) hLa
          rw [q, c3] at z1
          have z2 := hL (l2 v) (Or.inr c2) (t2 z1 _ c2)
          rw [c4] at z2
          rw [q]; exact z2
        · have := hL a (Or.inl ha) hLa
          rw [g3 a v ha (fun z => q z.2)] at this; exact this
      have from2 : ∀ u, A2 u v → L u → ∀ w, A2 w v → L w := by
        intro u hu hLu w hw
        refine b4 v L (fun a ha hLa => ?_) u w hu hw hLu
        by_cases q : a = l2 v
        · have z1 := hL a (Or.inr ha) hLa
          rw [q, c4] at z1
          have z2 := hL (l1 v) (Or.inl c1) (t1 z1 _ c1)
          rw [c3] at z2
          rw [q]; exact z2
        · have := hL a (Or.inr ha) hLa
          rw [g4 a v ha (fun z => q z.2)] at this; exact this
      intro u u_zq hu hu_zq hLu
      rcases hu with hu | hu
      · have z := from1 u hu hLu
        rcases hu_zq with hu_zq | hu_zq
        · exact z u_zq hu_zq
        · exact all1 z u_zq hu_zq
      · have z := from2 u hu hLu
        rcases hu_zq with hu_zq | hu_zq
        · exact all2 z u_zq hu_zq
        · exact z u_zq hu_zq
    · intro u u_zq hu hu_zq hLu
      rcases hu with hu | hu
      · rcases hu_zq with hu_zq | hu_zq
        · refine a4 v L (fun a ha hLa => ?_) u u_zq hu hu_zq hLu
          have := hL a (Or.inl ha) hLa
          rw [g3 a v ha (fun z => hv z.1)] at this; exact this
        · exact absurd ⟨⟨u, hu⟩, u_zq, hu_zq⟩ hv
      · rcases hu_zq with hu_zq | hu_zq
        · exact absurd ⟨⟨u_zq, hu_zq⟩, u, hu⟩ hv
        · refine b4 v L (fun a ha hLa => ?_) u u_zq hu hu_zq hLu
          have := hL a (Or.inr ha) hLa
          rw [g4 a v ha (fun z => hv z.1)] at this; exact this
end
section
theorem rcA_sym {A : pa_T} (h : mp1 A) {x y : Int} (r : rc A x y) : rc A y x := rc_symm h.1 r
/-- the shared node of a node's part -/
def gat (A1 A2 : pa_T) (w : Int) : Prop := ∃ i, shd A1 A2 i ∧ rc A1 i w
noncomputable def gtn (A1 A2 : pa_T) (w : Int) : Int := @dite Int (gat A1 A2 w) (Classical.propDecidable _) (fun h => Classical.choose h) (fun _ => w)
theorem gtn_is {A1 A2 : pa_T} (h1 : mp1 A1) (hg : ∀ i j, shd A1 A2 i → shd A1 A2 j → rc A1 i j → i = j) {w i : Int} (hi : shd A1 A2 i) (hr : rc A1 i w) : gtn A1 A2 w = i := by
  have h : gat A1 A2 w := ⟨i, hi, hr⟩
  unfold gtn
  rw [dif_pos h]
  have q := Classical.choose_spec h
  exact hg _ _ q.1 hi (rc_trans q.2 (rcA_sym h1 hr))
theorem gtn_no {A1 A2 : pa_T} {w : Int} (h : ¬ gat A1 A2 w) : gtn A1 A2 w = w := by unfold gtn; rw [dif_neg h]
theorem gat_step {A1 A2 : pa_T} {u v : Int} (h : A1 u v) (g : gat A1 A2 u) : gat A1 A2 v := by
  obtain ⟨i, hi, hr⟩ := g
  exact ⟨i, hi, rc_trans hr (rc_step h)⟩
/-- who is reached by steps of A1 is the start or has an edge of A1 -/
theorem rc_has {A1 : pa_T} {i w : Int} (h : rc A1 i w) : w = i ∨ ∃ u, A1 u w := rc_ind (L := fun w => w = i ∨ ∃ u, A1 u w) h (Or.inl rfl) (fun a b _ r _ => Or.inr ⟨a, r⟩)
noncomputable def glr (A1 A2 : pa_T) (ρ1 ρ2 : Int → Int → Int → Bool) (w x y : Int) : Bool :=
  bif pb (A1 x y) then (bif pb (∃ u, A1 u w) then (ρ1 w x y ^^ (bif pb (gat A1 A2 w) then ρ1 (gtn A1 A2 w) x y else false)) else false)
  else (bif pb (gat A1 A2 w ∨ ∃ u, A2 u w) then ρ2 (gtn A1 A2 w) x y else false)
theorem glu_pls {A1 A2 : pa_T} {nx1 nx2 nx : Int → Int → Int} {l1 l2 : Int → Int} {ρ1 ρ2 : Int → Int → Int → Bool} (m1 : mp A1 nx1) (m2 : mp A2 nx2) (hg : glu A1 A2 nx1 nx2 nx l1 l2) (p1 : pls A1 nx1 ρ1) (p2 : pls A2 nx2 ρ2) : pls (fun u v => A1 u v ∨ A2 u v) nx (glr A1 A2 ρ1 ρ2) := by
  obtain ⟨hs1, a2, a3, a4⟩ := m1
  obtain ⟨hs2, b2, b3, b4⟩ := m2
  obtain ⟨g1, g2, g3, g4⟩ := hg
  have hd : ∀ {x y : Int}, A1 x y → A2 x y → False := fun a b => glu_dis hs1 hs2 g1 a b
  have gi : ∀ {w i : Int}, shd A1 A2 i → rc A1 i w → gtn A1 A2 w = i := fun a b => gtn_is hs1 g1 a b
  -- a value of each shared node, spread over its part
  have sp : ∀ (c : Int → Bool), ∃ γ : Int → Bool, (∀ x y, A1 x y → γ x = γ y) ∧ ∀ i, shd A1 A2 i → γ i = c i := by
    intro c
    refine ⟨fun x => pb (∃ i, shd A1 A2 i ∧ rc A1 i x ∧ c i = true), fun x y h => pb_iff ⟨fun ⟨i, h1, h2, h3⟩ => ⟨i, h1, rc_trans h2 (rc_step h), h3⟩, fun ⟨i, h1, h2, h3⟩ => ⟨i, h1, rc_trans h2 (rc_step (hs1.1 _ _ h)), h3⟩⟩, fun i hi => ?_⟩
    cases hc : c i with
    | true => exact pb_t ⟨i, hi, rc_refl _ _, hc⟩
    | false =>
      refine pb_f (fun ⟨j, h1, h2, h3⟩ => ?_)
      rw [g1 j i h1 hi h2, hc] at h3; cases h3
  intro u v huv
  rcases huv with huv | huv
  · -- an edge of the first
    obtain ⟨χ1, hinv, hbd⟩ := p1 u v huv
    obtain ⟨γ, hγ, hγi⟩ := sp (fun i => χ1 (l1 i) i)
    refine ⟨fun x y => bif pb (A1 x y) then (χ1 x y ^^ γ x) else false, ?_, ?_⟩
    · intro x y h
      show (bif pb (A1 y (nx x y)) then (χ1 y (nx x y) ^^ γ y) else false) = (bif pb (A1 x y) then (χ1 x y ^^ γ x) else false)
      rcases h with h | h
      · by_cases q : shd A1 A2 y ∧ x = l1 y
        · obtain ⟨c1, c2, c3, c4⟩ := g2 y q.1
          have e2 : A2 y (nx x y) := by rw [q.2, c3]; exact b2 _ _ c2
          rw [pb_f (fun z => hd z e2), pb_t h, hγ x y h, hγi y q.1, ← q.2]
          simp
        · have e1 : A1 y (nx x y) := by rw [g3 x y h q]; exact a2 x y h
          rw [pb_t e1, pb_t h, g3 x y h q, hinv x y h, hγ x y h]
      · by_cases q : shd A1 A2 y ∧ x = l2 y
        · obtain ⟨c1, c2, c3, c4⟩ := g2 y q.1
          have e2 : A1 y (nx x y) := by rw [q.2, c4]; exact a2 _ _ c1
          rw [pb_f (fun z => hd z h), pb_t e2, q.2, c4, hinv _ _ c1, hγi y q.1]
          simp
        · have e1 : A2 y (nx x y) := by rw [g4 x y h q]; exact b2 x y h
          rw [pb_f (fun z => hd z h), pb_f (fun z => hd z e1)]; rfl
    · intro x y h
      unfold fbd glr
      have gv : gat A1 A2 u ↔ gat A1 A2 v := ⟨gat_step huv, gat_step (hs1.1 _ _ huv)⟩
      have ge : gat A1 A2 u → gtn A1 A2 u = gtn A1 A2 v := fun ⟨i, h1, h2⟩ => by rw [gi h1 h2, gi h1 (rc_trans h2 (rc_step huv))]
      rcases h with h | h
      · have hb := hbd x y h
        unfold fbd at hb
        simp only [pb_t h, pb_t (hs1.1 _ _ h), pb_t (⟨v, hs1.1 _ _ huv⟩ : ∃ z, A1 z u), pb_t (⟨u, huv⟩ : ∃ z, A1 z v), cond_true]
        rw [hγ x y h, pb_iff gv]
        by_cases q : gat A1 A2 v
        · rw [pb_t q, ge (gv.mpr q)]
          simp only [cond_true]
          generalize ρ1 (gtn A1 A2 v) x y = r
          generalize γ y = r2
          revert hb
          generalize χ1 x y = r3
          generalize χ1 y x = r4
          generalize ρ1 u x y = r5
          generalize ρ1 v x y = r6
          generalize eI u v x y = r7
          revert r r2 r3 r4 r5 r6 r7
          decide
        · rw [pb_f q]
          simp only [cond_false]
          generalize γ y = r2
          revert hb
          generalize χ1 x y = r3
          generalize χ1 y x = r4
          generalize ρ1 u x y = r5
          generalize ρ1 v x y = r6
          generalize eI u v x y = r7
          revert r2 r3 r4 r5 r6 r7
          decide
      · have n1 : ¬ A1 x y := fun z => hd z h
        have n2 : ¬ A1 y x := fun z => hd (hs1.1 _ _ z) h
        have n3 : eI u v x y = false := eI_no hs2 (fun z => hd huv z) h
        have hu2 : gat A1 A2 u ∨ (∃ z, A2 z u) ↔ gat A1 A2 u := ⟨fun z => z.elim id (fun z => ⟨u, ⟨⟨v, hs1.1 _ _ huv⟩, z⟩, rc_refl _ _⟩), Or.inl⟩
        have hv2 : gat A1 A2 v ∨ (∃ z, A2 z v) ↔ gat A1 A2 v := ⟨fun z => z.elim id (fun z => ⟨v, ⟨⟨u, huv⟩, z⟩, rc_refl _ _⟩), Or.inl⟩
        simp only [pb_f n1, pb_f n2, n3, cond_false, pb_iff hu2, pb_iff hv2, pb_iff gv]
        by_cases q : gat A1 A2 v
        · rw [pb_t q, ge (gv.mpr q)]; simp
        · rw [pb_f q]; rfl
  · obtain ⟨χ2, hinv, hbd⟩ := p2 u v huv
    obtain ⟨γ, hγ, hγi⟩ := sp (fun i => χ2 (l2 i) i)
    refine ⟨fun x y => bif pb (A1 x y) then γ x else χ2 x y, ?_, ?_⟩
    · intro x y h
      show (bif pb (A1 y (nx x y)) then γ y else χ2 y (nx x y)) = (bif pb (A1 x y) then γ x else χ2 x y)
      rcases h with h | h
      · by_cases q : shd A1 A2 y ∧ x = l1 y
        · obtain ⟨c1, c2, c3, c4⟩ := g2 y q.1
          have e2 : A2 y (nx x y) := by rw [q.2, c3]; exact b2 _ _ c2
          rw [pb_f (fun z => hd z e2), pb_t h, hγ x y h, hγi y q.1, q.2, c3]
          exact hinv _ _ c2
        · have e1 : A1 y (nx x y) := by rw [g3 x y h q]; exact a2 x y h
          rw [pb_t e1, pb_t h, hγ x y h]; rfl
      · by_cases q : shd A1 A2 y ∧ x = l2 y
        · obtain ⟨c1, c2, c3, c4⟩ := g2 y q.1
          have e2 : A1 y (nx x y) := by rw [q.2, c4]; exact a2 _ _ c1
          rw [pb_f (fun z => hd z h), pb_t e2, hγi y q.1, ← q.2]; rfl
        · have e1 : A2 y (nx x y) := by rw [g4 x y h q]; exact b2 x y h
          rw [pb_f (fun z => hd z h), pb_f (fun z => hd z e1), g4 x y h q]
          exact hinv x y h
    · intro x y h
      unfold fbd glr
      -- an end of an edge of the second is its own gate
      have gw : ∀ w, (∃ z, A2 z w) → gtn A1 A2 w = w ∧ ((∃ z, A1 z w) → gat A1 A2 w) := by
        intro w hw
        refine ⟨?_, fun h1 => ⟨w, ⟨h1, hw⟩, rc_refl _ _⟩⟩
        by_cases q : gat A1 A2 w
        · obtain ⟨i, h1, h2⟩ := q
          rcases rc_has h2 with e | e
          · subst e; exact gi h1 h2
          · exact gi ⟨e, hw⟩ (rc_refl _ _)
        · exact gtn_no q
      obtain ⟨u1, u2⟩ := gw u ⟨v, hs2.1 _ _ huv⟩
      obtain ⟨v1, v2⟩ := gw v ⟨u, huv⟩
      rcases h with h | h
      · have n3 : eI u v x y = false := eI_no hs1 (fun z => hd z huv) h
        have z : ∀ w, (∃ z, A2 z w) → (bif pb (∃ u, A1 u w) then (ρ1 w x y ^^ (bif pb (gat A1 A2 w) then ρ1 (gtn A1 A2 w) x y else false)) else false) = false := by
          intro w hw
          obtain ⟨w1, w2⟩ := gw w hw
          by_cases q : ∃ u, A1 u w
          · rw [pb_t q, pb_t (w2 q), w1]; simp
          · rw [pb_f q]; rfl
        simp only [pb_t h, pb_t (hs1.1 _ _ h), cond_true, n3, z u ⟨v, hs2.1 _ _ huv⟩, z v ⟨u, huv⟩, hγ x y h]
        simp
      · have n1 : ¬ A1 x y := fun z => hd z h
        have n2 : ¬ A1 y x := fun z => hd (hs1.1 _ _ z) h
        have hb := hbd x y h
        unfold fbd at hb
        simp only [pb_f n1, pb_f n2, cond_false, u1, v1, pb_t (Or.inr ⟨v, hs2.1 _ _ huv⟩ : gat A1 A2 u ∨ ∃ z, A2 z u), pb_t (Or.inr ⟨u, huv⟩ : gat A1 A2 v ∨ ∃ z, A2 z v), cond_true]
        exact hb
end
section
/-! a new node in a corner -/
def pnA (A : pa_T) (a t u v : Int) : Prop := A u v ∨ (u = a ∧ v = t) ∨ (u = t ∧ v = a)
def pnx (nx : Int → Int → Int) (p a t u v : Int) : Int := if u = p ∧ v = a then t else if u = t ∧ v = a then nx p a else if u = a ∧ v = t then a else nx u v
theorem pnx_1 {nx : Int → Int → Int} {p a t : Int} : pnx nx p a t p a = t := by unfold pnx; rw [if_pos ⟨rfl, rfl⟩]
theorem pnx_2 {nx : Int → Int → Int} {p a t : Int} (h : t ≠ p) : pnx nx p a t t a = nx p a := by unfold pnx; rw [if_neg (fun e => h e.1), if_pos ⟨rfl, rfl⟩]
theorem pnx_3 {nx : Int → Int → Int} {p a t : Int} (h : t ≠ a) : pnx nx p a t a t = a := by unfold pnx; rw [if_neg (fun e => h e.2), if_neg (fun e => h e.2), if_pos ⟨rfl, rfl⟩]
theorem pnx_o {nx : Int → Int → Int} {p a t u v : Int} (h : ¬ (u = p ∧ v = a)) (h1 : u ≠ t) (h2 : v ≠ t) : pnx nx p a t u v = nx u v := by unfold pnx; rw [if_neg h, if_neg (fun e => h1 e.1), if_neg (fun e => h2 e.2)]
theorem pend_mp {A : pa_T} {nx : Int → Int → Int} {p a t : Int} (m : mp A nx) (hp : A p a) (ht : ∀ u, ¬ A u t) : mp (pnA A a t) (pnx nx p a t) := by
  obtain ⟨⟨hs, hi⟩, a2, a3, a4⟩ := m
  have htu : ∀ u, ¬ A t u := fun u h => ht u (hs _ _ h)
  have hta : t ≠ a := fun e => ht p (e ▸ hp)
  have htp : t ≠ p := fun e => htu a (e ▸ hp)
  have ne1 : ∀ {u v}, A u v → u ≠ t := fun h e => htu _ (e ▸ h)
  have ne2 : ∀ {u v}, A u v → v ≠ t := fun h e => ht _ (e ▸ h)
  refine ⟨⟨?_, ?_⟩, ?_, ?_, ?_⟩
  · rintro u v (h | ⟨h1, h2⟩ | ⟨h1, h2⟩)
    · exact Or.inl (hs _ _ h)
    · exact Or.inr (Or.inr ⟨h2, h1⟩)
    · exact Or.inr (Or.inl ⟨h2, h1⟩)
  · rintro u v (h | ⟨h1, h2⟩ | ⟨h1, h2⟩)
    · exact hi _ _ h
    · rw [h1, h2]; exact fun e => hta e.symm
    · rw [h1, h2]; exact hta
  · rintro u v (h | ⟨h1, h2⟩ | ⟨h1, h2⟩)
    · by_cases q : u = p ∧ v = a
      · rw [q.1, q.2, pnx_1]; exact Or.inr (Or.inl ⟨rfl, rfl⟩)
      · rw [pnx_o q (ne1 h) (ne2 h)]; exact Or.inl (a2 u v h)
    · rw [h1, h2, pnx_3 hta]; exact Or.inr (Or.inr ⟨rfl, rfl⟩)
    · rw [h1, h2, pnx_2 htp]; exact Or.inl (a2 _ _ hp)
  · rintro u u_zq v (h | ⟨h1, h2⟩ | ⟨h1, h2⟩) (h_zq | ⟨h1_zq, h2_zq⟩ | ⟨h1_zq, h2_zq⟩) e
    · by_cases q : u = p ∧ v = a
      · by_cases q_zq : u_zq = p ∧ v = a
        · rw [q.1, q_zq.1]
        · rw [q.1, q.2, pnx_1] at e
          rw [q.2] at h_zq q_zq
          rw [pnx_o q_zq (ne1 h_zq) (ne2 h_zq)] at e
          exact absurd (e ▸ a2 u_zq a h_zq) (ht a)
      · by_cases q_zq : u_zq = p ∧ v = a
        · rw [q_zq.1, q_zq.2, pnx_1] at e
          rw [q_zq.2] at h q
          rw [pnx_o q (ne1 h) (ne2 h)] at e
          exact absurd (e ▸ a2 u a h) (ht a)
        · rw [pnx_o q (ne1 h) (ne2 h), pnx_o q_zq (ne1 h_zq) (ne2 h_zq)] at e
          exact a3 u u_zq v h h_zq e
    · exact absurd h (h2_zq ▸ ht u)
    · rw [h1_zq, h2_zq, pnx_2 htp] at e
      rw [h2_zq] at h
      by_cases q : u = p
      · rw [q, pnx_1] at e; exact absurd (e ▸ a2 p a hp) (ht a)
      · rw [pnx_o (fun z => q z.1) (ne1 h) (ne2 h)] at e
        exact absurd (a3 u p a h hp e) q
    · exact absurd h_zq (h2 ▸ ht u_zq)
    · rw [h1, h1_zq]
    · exact absurd (h2.symm.trans h2_zq) hta
    · rw [h1, h2, pnx_2 htp] at e
      rw [h2] at h_zq
      by_cases q : u_zq = p
      · rw [q, pnx_1] at e; exact absurd (e.symm ▸ a2 p a hp) (ht a)
      · rw [pnx_o (fun z => q z.1) (ne1 h_zq) (ne2 h_zq)] at e
        exact absurd (a3 u_zq p a h_zq hp e.symm) q
    · exact absurd (h2_zq.symm.trans h2) hta
    · rw [h1, h1_zq]
  · intro v L hL
    by_cases hv : v = a
    · subst hv
      have c1 : L p → L t := fun h => by have := hL p (Or.inl hp) h; rw [pnx_1] at this; exact this
      have c2 : L t → L (nx p v) := fun h => by have := hL t (Or.inr (Or.inr ⟨rfl, rfl⟩)) h; rw [pnx_2 htp] at this; exact this
      have cl : ∀ u, A u v → L u → L (nx u v) := fun u h hu => by
        by_cases q : u = p
        · rw [q]; rw [q] at hu; exact c2 (c1 hu)
        · have := hL u (Or.inl h) hu; rw [pnx_o (fun z => q z.1) (ne1 h) (ne2 h)] at this; exact this
      have hq : A (nx p v) v := hs _ _ (a2 _ _ hp)
      rintro u u_zq (h | ⟨h1, h2⟩ | ⟨h1, h2⟩) (h_zq | ⟨h1_zq, h2_zq⟩ | ⟨h1_zq, h2_zq⟩) hu
      · exact a4 v L cl u u_zq h h_zq hu
      · exact absurd h2_zq.symm hta
      · rw [h1_zq]; exact c1 (a4 v L cl u p h hp hu)
      · exact absurd h2.symm hta
      · exact absurd h2.symm hta
      · exact absurd h2.symm hta
      · rw [h1] at hu; exact a4 v L cl _ u_zq hq h_zq (c2 hu)
      · exact absurd h2_zq.symm hta
      · rw [h1_zq] ; rw [h1] at hu; exact hu
    · by_cases hv2 : v = t
      · subst hv2
        rintro u u_zq (h | ⟨h1, h2⟩ | ⟨h1, h2⟩) (h_zq | ⟨h1_zq, h2_zq⟩ | ⟨h1_zq, h2_zq⟩) hu
        · exact absurd h (ht u)
        · exact absurd h (ht u)
        · exact absurd h (ht u)
        · exact absurd h_zq (ht u_zq)
        · rw [h1_zq]; rw [h1] at hu; exact hu
        · exact absurd h2_zq hv
        · exact absurd h2 hv
        · exact absurd h2 hv
        · exact absurd h2 hv
      · rintro u u_zq (h | ⟨h1, h2⟩ | ⟨h1, h2⟩) (h_zq | ⟨h1_zq, h2_zq⟩ | ⟨h1_zq, h2_zq⟩) hu
        · refine a4 v L (fun w hw hLw => ?_) u u_zq h h_zq hu
          have := hL w (Or.inl hw) hLw
          rw [pnx_o (fun z => hv z.2) (ne1 hw) hv2] at this; exact this
        · exact absurd h2_zq hv2
        · exact absurd h2_zq hv
        · exact absurd h2 hv2
        · exact absurd h2 hv2
        · exact absurd h2 hv2
        · exact absurd h2 hv
        · exact absurd h2 hv
        · exact absurd h2 hv
def prh (ρ : Int → Int → Int → Bool) (a t w x y : Int) : Bool := bif eI a t x y then decide (w = t) else bif decide (w = t) then ρ a x y else ρ w x y
theorem eI_self (u v : Int) : eI u v u v = true := by unfold eI; exact decide_eq_true (Or.inl ⟨rfl, rfl⟩)
theorem eI_self2 (u v : Int) : eI u v v u = true := by unfold eI; exact decide_eq_true (Or.inr ⟨rfl, rfl⟩)
theorem eI_comm (u v x y : Int) : eI u v x y = eI v u x y := by unfold eI; exact decide_eq_decide.mpr ⟨Or.symm, Or.symm⟩
theorem eI_swap (u v x y : Int) : eI u v x y = eI u v y x := by
  unfold eI
  exact decide_eq_decide.mpr ⟨fun h => h.elim (fun h => Or.inr ⟨h.2, h.1⟩) (fun h => Or.inl ⟨h.2, h.1⟩), fun h => h.elim (fun h => Or.inr ⟨h.2, h.1⟩) (fun h => Or.inl ⟨h.2, h.1⟩)⟩
theorem eI_ne {A : pa_T} (h1 : mp1 A) {a t x y : Int} (h : ¬ A a t) (hxy : A x y) : eI a t x y = false := eI_no h1 h hxy
theorem pend_pls {A : pa_T} {nx : Int → Int → Int} {ρ : Int → Int → Int → Bool} {p a t : Int} (m : mp A nx) (hp : A p a) (ht : ∀ u, ¬ A u t) (hl : pls A nx ρ) : pls (pnA A a t) (pnx nx p a t) (prh ρ a t) := by
  obtain ⟨⟨hs, hi⟩, a2, a3, a4⟩ := m
  have htu : ∀ u, ¬ A t u := fun u h => ht u (hs _ _ h)
  have hta : t ≠ a := fun e => ht p (e ▸ hp)
  have htp : t ≠ p := fun e => htu a (e ▸ hp)
  have ne1 : ∀ {u v}, A u v → u ≠ t := fun h e => htu _ (e ▸ h)
  have ne2 : ∀ {u v}, A u v → v ≠ t := fun h e => ht _ (e ▸ h)
  have nat : ¬ A a t := ht a
  have eo : ∀ {x y}, A x y → eI a t x y = false := fun h => eI_no ⟨hs, hi⟩ nat h
  have main : ∀ u v, A u v → ∃ χ, finv (pnA A a t) (pnx nx p a t) χ ∧ ∀ x y, pnA A a t x y → fbd χ x y = ((prh ρ a t u x y ^^ prh ρ a t v x y) ^^ eI u v x y) := by
    intro u v huv
    obtain ⟨χ, hinv, hbd⟩ := hl u v huv
    refine ⟨fun x y => bif eI a t x y then χ p a else χ x y, ?_, ?_⟩
    · rintro x y (h | ⟨h1, h2⟩ | ⟨h1, h2⟩)
      · show (bif eI a t y (pnx nx p a t x y) then χ p a else χ y (pnx nx p a t x y)) = (bif eI a t x y then χ p a else χ x y)
        rw [eo h]
        by_cases q : x = p ∧ y = a
        · rw [q.1, q.2, pnx_1, eI_self]; rfl
        · rw [pnx_o q (ne1 h) (ne2 h), eo (a2 x y h)]; exact hinv x y h
      · subst h1; subst h2
        show (bif eI x y y (pnx nx p x y x y) then χ p x else _) = (bif eI x y x y then χ p x else _)
        rw [pnx_3 hta, eI_self, eI_self2]; rfl
      · subst h1; subst h2
        show (bif eI y x y (pnx nx p y x x y) then χ p y else χ y (pnx nx p y x x y)) = (bif eI y x x y then χ p y else _)
        rw [pnx_2 htp, eI_self2, eo (a2 _ _ hp)]; exact hinv _ _ hp
    · intro x y h
      have e0 : eI a t y x = eI a t x y := (eI_swap a t x y).symm
      unfold fbd prh
      simp only [e0, decide_eq_false (ne1 huv), decide_eq_false (ne2 huv), cond_false]
      rcases h with h | h
      · rw [eo h]; exact hbd x y h
      · have e1 : eI a t x y = true := by
          rcases h with ⟨h1, h2⟩ | ⟨h1, h2⟩
          · rw [h1, h2]; exact eI_self _ _
          · rw [h1, h2]; exact eI_self2 _ _
        have e2 : eI u v x y = false := by
          unfold eI
          refine decide_eq_false (fun z => ?_)
          rcases h with ⟨h1, h2⟩ | ⟨h1, h2⟩ <;> rcases z with ⟨z1, z2⟩ | ⟨z1, z2⟩
          · exact ne2 huv (z2.symm.trans h2)
          · exact ne1 huv (z2.symm.trans h2)
          · exact ne1 huv (z1.symm.trans h1)
          · exact ne2 huv (z1.symm.trans h1)
        rw [e1, e2]; simp
  have edge : ∃ χ, finv (pnA A a t) (pnx nx p a t) χ ∧ ∀ x y, pnA A a t x y → fbd χ x y = ((prh ρ a t a x y ^^ prh ρ a t t x y) ^^ eI a t x y) := by
    refine ⟨fun _ _ => false, fun _ _ _ => rfl, fun x y h => ?_⟩
    unfold fbd prh
    simp only [decide_eq_false (fun e : a = t => hta e.symm), decide_eq_true (rfl : t = t), cond_true, cond_false]
    generalize ρ a x y = r
    generalize eI a t x y = r2
    cases r <;> cases r2 <;> simp
  rintro u v (h | ⟨h1, h2⟩ | ⟨h1, h2⟩)
  · exact main u v h
  · rw [h1, h2]; exact edge
  · rw [h1, h2]
    obtain ⟨χ, i1, i2⟩ := edge
    refine ⟨χ, i1, fun x y h => ?_⟩
    rw [i2 x y h, eI_comm t a, Bool.xor_comm (prh ρ a t t x y)]
end
section
/-! a new edge between two corners of one face -/
def chA (A : pa_T) (a b u v : Int) : Prop := A u v ∨ (u = a ∧ v = b) ∨ (u = b ∧ v = a)
def cnx (nx : Int → Int → Int) (p a p_zq b u v : Int) : Int := if u = p ∧ v = a then b else if u = b ∧ v = a then nx p a else if u = p_zq ∧ v = b then a else if u = a ∧ v = b then nx p_zq b else nx u v
theorem cnx_1 {nx : Int → Int → Int} {p a p_zq b : Int} : cnx nx p a p_zq b p a = b := by unfold cnx; rw [if_pos ⟨rfl, rfl⟩]
theorem cnx_2 {nx : Int → Int → Int} {p a p_zq b : Int} (h : b ≠ p) : cnx nx p a p_zq b b a = nx p a := by unfold cnx; rw [if_neg (fun e => h e.1), if_pos ⟨rfl, rfl⟩]
theorem cnx_3 {nx : Int → Int → Int} {p a p_zq b : Int} (h : b ≠ a) : cnx nx p a p_zq b p_zq b = a := by unfold cnx; rw [if_neg (fun e => h e.2), if_neg (fun e => h e.2), if_pos ⟨rfl, rfl⟩]
theorem cnx_4 {nx : Int → Int → Int} {p a p_zq b : Int} (h : b ≠ a) (h2 : a ≠ p_zq) : cnx nx p a p_zq b a b = nx p_zq b := by unfold cnx; rw [if_neg (fun e => h e.2), if_neg (fun e => h e.2), if_neg (fun e => h2 e.1), if_pos ⟨rfl, rfl⟩]
theorem cnx_o {nx : Int → Int → Int} {p a p_zq b u v : Int} (h : ¬ (u = p ∧ v = a)) (h1 : ¬ (u = b ∧ v = a)) (h2 : ¬ (u = p_zq ∧ v = b)) (h3 : ¬ (u = a ∧ v = b)) : cnx nx p a p_zq b u v = nx u v := by unfold cnx; rw [if_neg h, if_neg h1, if_neg h2, if_neg h3]
theorem chord_mp {A : pa_T} {nx : Int → Int → Int} {p a p_zq b : Int} (m : mp A nx) (hp : A p a) (hp_zq : A p_zq b) (hab : ¬ A a b) (hne : a ≠ b) : mp (chA A a b) (cnx nx p a p_zq b) := by
  obtain ⟨⟨hs, hi⟩, a2, a3, a4⟩ := m
  have hba : ¬ A b a := fun h => hab (hs _ _ h)
  have hne_zq : b ≠ a := fun e => hne e.symm
  have hbp : b ≠ p := fun e => hba (e ▸ hp)
  have hap : a ≠ p_zq := fun e => hab (e ▸ hp_zq)
  have n1 : ∀ {u v}, A u v → ¬ (u = b ∧ v = a) := fun h e => hba (e.1 ▸ e.2 ▸ h)
  have n2 : ∀ {u v}, A u v → ¬ (u = a ∧ v = b) := fun h e => hab (e.1 ▸ e.2 ▸ h)
  have qb : nx p a ≠ b := fun e => hab (e ▸ a2 _ _ hp)
  have qa : nx p_zq b ≠ a := fun e => hba (e ▸ a2 _ _ hp_zq)
  refine ⟨⟨?_, ?_⟩, ?_, ?_, ?_⟩
  · rintro u v (h | ⟨h1, h2⟩ | ⟨h1, h2⟩)
    · exact Or.inl (hs _ _ h)
    · exact Or.inr (Or.inr ⟨h2, h1⟩)
    · exact Or.inr (Or.inl ⟨h2, h1⟩)
  · rintro u v (h | ⟨h1, h2⟩ | ⟨h1, h2⟩)
    · exact hi _ _ h
    · rw [h1, h2]; exact hne
    · rw [h1, h2]; exact hne_zq
  · rintro u v (h | ⟨h1, h2⟩ | ⟨h1, h2⟩)
    · by_cases q : u = p ∧ v = a
      · rw [q.1, q.2, cnx_1]; exact Or.inr (Or.inl ⟨rfl, rfl⟩)
      · by_cases q_zq : u = p_zq ∧ v = b
        · rw [q_zq.1, q_zq.2, cnx_3 hne_zq]; exact Or.inr (Or.inr ⟨rfl, rfl⟩)
        · rw [cnx_o q (n1 h) q_zq (n2 h)]; exact Or.inl (a2 u v h)
    · rw [h1, h2, cnx_4 hne_zq hap]; exact Or.inl (a2 _ _ hp_zq)
    · rw [h1, h2, cnx_2 hbp]; exact Or.inl (a2 _ _ hp)
  · -- at a, at b, elsewhere
    have va : ∀ u, chA A a b u a → A u a ∨ u = b := by
      rintro u (h | ⟨h1, h2⟩ | ⟨h1, h2⟩)
      · exact Or.inl h
      · exact absurd h2 hne
      · exact Or.inr h1
    have vb : ∀ u, chA A a b u b → A u b ∨ u = a := by
      rintro u (h | ⟨h1, h2⟩ | ⟨h1, h2⟩)
      · exact Or.inl h
      · exact Or.inr h1
      · exact absurd h2 hne_zq
    have xa : ∀ u, A u a → u ≠ p → cnx nx p a p_zq b u a = nx u a := fun u h q => cnx_o (fun z => q z.1) (n1 h) (fun z => hne z.2) (n2 h)
    have xb : ∀ u, A u b → u ≠ p_zq → cnx nx p a p_zq b u b = nx u b := fun u h q => cnx_o (fun z => hne_zq z.2) (n1 h) (fun z => q z.1) (n2 h)
    have key : ∀ u u_zq, (A u a ∨ u = b) → (A u_zq a ∨ u_zq = b) → cnx nx p a p_zq b u a = cnx nx p a p_zq b u_zq a → u = u_zq := by
      intro u u_zq hu hu_zq e
      have ev : ∀ w, (A w a ∨ w = b) → (w = p ∧ cnx nx p a p_zq b w a = b) ∨ (w = b ∧ cnx nx p a p_zq b w a = nx p a) ∨ (A w a ∧ w ≠ p ∧ cnx nx p a p_zq b w a = nx w a) := by
        intro w hw
        rcases hw with hw | hw
        · by_cases q : w = p
          · exact Or.inl ⟨q, by rw [q]; exact cnx_1⟩
          · exact Or.inr (Or.inr ⟨hw, q, xa w hw q⟩)
        · exact Or.inr (Or.inl ⟨hw, by rw [hw]; exact cnx_2 hbp⟩)
      rcases ev u hu with ⟨q1, q2⟩ | ⟨q1, q2⟩ | ⟨q0, q1, q2⟩ <;> rcases ev u_zq hu_zq with ⟨r1, r2⟩ | ⟨r1, r2⟩ | ⟨r0, r1, r2⟩ <;> rw [q2, r2] at e
      · rw [q1, r1]
      · exact absurd e.symm qb
      · exact absurd (e ▸ a2 _ _ r0) hab
      · exact absurd e qb
      · rw [q1, r1]
      · exact absurd (a3 _ _ _ hp r0 e).symm r1
      · exact absurd (e.symm ▸ a2 _ _ q0) hab
      · exact absurd (a3 _ _ _ q0 hp e) q1
      · exact a3 _ _ _ q0 r0 e
    have key2 : ∀ u u_zq, (A u b ∨ u = a) → (A u_zq b ∨ u_zq = a) → cnx nx p a p_zq b u b = cnx nx p a p_zq b u_zq b → u = u_zq := by
      intro u u_zq hu hu_zq e
      have ev : ∀ w, (A w b ∨ w = a) → (w = p_zq ∧ cnx nx p a p_zq b w b = a) ∨ (w = a ∧ cnx nx p a p_zq b w b = nx p_zq b) ∨ (A w b ∧ w ≠ p_zq ∧ cnx nx p a p_zq b w b = nx w b) := by
        intro w hw
        rcases hw with hw | hw
        · by_cases q : w = p_zq
          · exact Or.inl ⟨q, by rw [q]; exact cnx_3 hne_zq⟩
          · exact Or.inr (Or.inr ⟨hw, q, xb w hw q⟩)
        · exact Or.inr (Or.inl ⟨hw, by rw [hw]; exact cnx_4 hne_zq hap⟩)
      rcases ev u hu with ⟨q1, q2⟩ | ⟨q1, q2⟩ | ⟨q0, q1, q2⟩ <;> rcases ev u_zq hu_zq with ⟨r1, r2⟩ | ⟨r1, r2⟩ | ⟨r0, r1, r2⟩ <;> rw [q2, r2] at e
      · rw [q1, r1]
      · exact absurd e.symm qa
      · exact absurd (e ▸ a2 _ _ r0) hba
      · exact absurd e qa
      · rw [q1, r1]
      · exact absurd (a3 _ _ _ hp_zq r0 e).symm r1
      · exact absurd (e.symm ▸ a2 _ _ q0) hba
      · exact absurd (a3 _ _ _ q0 hp_zq e) q1
      · exact a3 _ _ _ q0 r0 e
    intro u u_zq v h h_zq e
    by_cases hva : v = a
    · subst hva; exact key u u_zq (va u h) (va u_zq h_zq) e
    · by_cases hvb : v = b
      · subst hvb; exact key2 u u_zq (vb u h) (vb u_zq h_zq) e
      · have o : ∀ w, chA A a b w v → A w v := by
          rintro w (h | ⟨h1, h2⟩ | ⟨h1, h2⟩)
          · exact h
          · exact absurd h2 hvb
          · exact absurd h2 hva
        rw [cnx_o (fun z => hva z.2) (fun z => hva z.2) (fun z => hvb z.2) (fun z => hvb z.2), cnx_o (fun z => hva z.2) (fun z => hva z.2) (fun z => hvb z.2) (fun z => hvb z.2)] at e
        exact a3 u u_zq v (o u h) (o u_zq h_zq) e
  · intro v L hL
    by_cases hva : v = a
    · subst hva
      have c1 : L p → L b := fun h => by have := hL p (Or.inl hp) h; rw [cnx_1] at this; exact this
      have c2 : L b → L (nx p v) := fun h => by have := hL b (Or.inr (Or.inr ⟨rfl, rfl⟩)) h; rw [cnx_2 hbp] at this; exact this
      have cl : ∀ u, A u v → L u → L (nx u v) := fun u h hu => by
        by_cases q : u = p
        · rw [q]; rw [q] at hu; exact c2 (c1 hu)
        · have := hL u (Or.inl h) hu
          rw [cnx_o (fun z => q z.1) (n1 h) (fun z => hne z.2) (n2 h)] at this; exact this
      have hq : A (nx p v) v := hs _ _ (a2 _ _ hp)
      rintro u u_zq (h | ⟨h1, h2⟩ | ⟨h1, h2⟩) (h_zq | ⟨h1_zq, h2_zq⟩ | ⟨h1_zq, h2_zq⟩) hu
      · exact a4 v L cl u u_zq h h_zq hu
      · exact absurd h2_zq hne
      · rw [h1_zq]; exact c1 (a4 v L cl u p h hp hu)
      · exact absurd h2 hne
      · exact absurd h2 hne
      · exact absurd h2 hne
      · rw [h1] at hu; exact a4 v L cl _ u_zq hq h_zq (c2 hu)
      · exact absurd h2_zq hne
      · rw [h1_zq]; rw [h1] at hu; exact hu
    · by_cases hvb : v = b
      · subst hvb
        have c1 : L p_zq → L a := fun h => by have := hL p_zq (Or.inl hp_zq) h; rw [cnx_3 hne_zq] at this; exact this
        have c2 : L a → L (nx p_zq v) := fun h => by have := hL a (Or.inr (Or.inl ⟨rfl, rfl⟩)) h; rw [cnx_4 hne_zq hap] at this; exact this
        have cl : ∀ u, A u v → L u → L (nx u v) := fun u h hu => by
          by_cases q : u = p_zq
          · rw [q]; rw [q] at hu; exact c2 (c1 hu)
          · have := hL u (Or.inl h) hu
            rw [cnx_o (fun z => hva z.2) (fun z => hva z.2) (fun z => q z.1) (n2 h)] at this; exact this
        have hq : A (nx p_zq v) v := hs _ _ (a2 _ _ hp_zq)
        rintro u u_zq (h | ⟨h1, h2⟩ | ⟨h1, h2⟩) (h_zq | ⟨h1_zq, h2_zq⟩ | ⟨h1_zq, h2_zq⟩) hu
        · exact a4 v L cl u u_zq h h_zq hu
        · rw [h1_zq]; exact c1 (a4 v L cl u p_zq h hp_zq hu)
        · exact absurd h2_zq hva
        · rw [h1] at hu; exact a4 v L cl _ u_zq hq h_zq (c2 hu)
        · rw [h1_zq]; rw [h1] at hu; exact hu
        · exact absurd h2_zq hva
        · exact absurd h2 hva
        · exact absurd h2 hva
        · exact absurd h2 hva
      · rintro u u_zq (h | ⟨h1, h2⟩ | ⟨h1, h2⟩) (h_zq | ⟨h1_zq, h2_zq⟩ | ⟨h1_zq, h2_zq⟩) hu
        · refine a4 v L (fun w hw hLw => ?_) u u_zq h h_zq hu
          have := hL w (Or.inl hw) hLw
          rw [cnx_o (fun z => hva z.2) (fun z => hva z.2) (fun z => hvb z.2) (fun z => hvb z.2)] at this; exact this
        · exact absurd h2_zq hvb
        · exact absurd h2_zq hva
        · exact absurd h2 hvb
        · exact absurd h2 hvb
        · exact absurd h2 hvb
        · exact absurd h2 hva
        · exact absurd h2 hva
        · exact absurd h2 hva
end
section
def apar (x : Nat → Int) (u v : Int) : Nat → Bool
  | 0 => false
  | n + 1 => apar x u v n ^^ eI (x n) (x (n + 1)) u v
theorem finv_xor {A : pa_T} {nx : Int → Int → Int} {χ χ' : Int → Int → Bool} (h : finv A nx χ) (h_zq : finv A nx χ') : finv A nx (fun u v => χ u v ^^ χ' u v) := fun u v a => by
  show (χ v (nx u v) ^^ χ' v (nx u v)) = (χ u v ^^ χ' u v)
  rw [h u v a, h_zq u v a]
theorem fbd_xor (χ χ' : Int → Int → Bool) (u v : Int) : fbd (fun u v => χ u v ^^ χ' u v) u v = (fbd χ u v ^^ fbd χ' u v) := by
  unfold fbd
  show ((χ u v ^^ χ' u v) ^^ (χ v u ^^ χ' v u)) = _
  generalize χ u v = r1; generalize χ' u v = r2; generalize χ v u = r3; generalize χ' v u = r4
  revert r1 r2 r3 r4; decide
theorem arc_sum {A : pa_T} {nx : Int → Int → Int} {ρ : Int → Int → Int → Bool} (hl : pls A nx ρ) {x : Nat → Int} {m : Nat} (hA : ∀ i, i < m → A (x i) (x (i + 1))) : ∀ k, k ≤ m → ∃ χ, finv A nx χ ∧ ∀ u v, A u v → fbd χ u v = ((apar x u v k ^^ ρ (x 0) u v) ^^ ρ (x k) u v)
  | 0, _ => ⟨fun _ _ => false, fun _ _ _ => rfl, fun u v _ => by
      show (false ^^ false) = ((false ^^ ρ (x 0) u v) ^^ ρ (x 0) u v)
      generalize ρ (x 0) u v = r; revert r; decide⟩
  | k + 1, h => by
    obtain ⟨χ, i1, i2⟩ := arc_sum hl hA k (by omega)
    obtain ⟨χ', j1, j2⟩ := hl _ _ (hA k (by omega))
    refine ⟨_, finv_xor i1 j1, fun u v a => ?_⟩
    rw [fbd_xor, i2 u v a, j2 u v a]
    show _ = (((apar x u v k ^^ eI (x k) (x (k + 1)) u v) ^^ ρ (x 0) u v) ^^ ρ (x (k + 1)) u v)
    generalize apar x u v k = r1; generalize ρ (x 0) u v = r2; generalize ρ (x k) u v = r3; generalize ρ (x (k + 1)) u v = r4; generalize eI (x k) (x (k + 1)) u v = r5
    revert r1 r2 r3 r4 r5; decide
theorem pb_or {P Q : Prop} (h : ¬ (P ∧ Q)) : pb (P ∨ Q) = (pb P ^^ pb Q) := by
  by_cases p : P
  · rw [pb_t (Or.inl p), pb_t p, pb_f (fun q => h ⟨p, q⟩)]; rfl
  · by_cases q : Q
    · rw [pb_t (Or.inr q), pb_f p, pb_t q]; rfl
    · rw [pb_f (fun z => z.elim p q), pb_f p, pb_f q]; rfl
theorem eI_pb {a b u v : Int} (h : u ≠ v) : eI a b u v = (pb (u = a ∧ v = b) ^^ pb (v = a ∧ u = b)) := by
  rw [← pb_or (fun z => h (z.1.1.trans z.2.1.symm))]
  unfold eI pb
  exact (@decide_eq_decide _ _ _ (Classical.propDecidable _)).mpr ⟨fun z => z.elim (fun z => Or.inl z) (fun z => Or.inr ⟨z.2, z.1⟩), fun z => z.elim (fun z => Or.inl z) (fun z => Or.inr ⟨z.2, z.1⟩)⟩
theorem apar_th {x : Nat → Int} {u v : Int} (h : u ≠ v) : ∀ m, (∀ i j, i < j → j < m → ¬ (x i = x j ∧ x (i + 1) = x (j + 1))) → apar x u v m = (pb (∃ i, i < m ∧ u = x i ∧ v = x (i + 1)) ^^ pb (∃ i, i < m ∧ v = x i ∧ u = x (i + 1)))
  | 0, _ => by
    rw [pb_f (fun ⟨i, z, _⟩ => by omega), pb_f (fun ⟨i, z, _⟩ => by omega)]; rfl
  | m + 1, hd => by
    have ih := apar_th h m (fun i j a b => hd i j a (by omega))
    show (apar x u v m ^^ eI (x m) (x (m + 1)) u v) = _
    have e1 : ∀ u v : Int, pb (∃ i, i < m + 1 ∧ u = x i ∧ v = x (i + 1)) = (pb (∃ i, i < m ∧ u = x i ∧ v = x (i + 1)) ^^ pb (u = x m ∧ v = x (m + 1))) := by
      intro u v
      rw [← pb_or]
      · refine pb_iff ⟨fun ⟨i, z1, z2⟩ => ?_, fun z => ?_⟩
        · by_cases q : i = m
          · subst q; exact Or.inr z2
          · exact Or.inl ⟨i, by omega, z2⟩
        · rcases z with ⟨i, z1, z2⟩ | z
          · exact ⟨i, by omega, z2⟩
          · exact ⟨m, by omega, z⟩
      · rintro ⟨⟨i, z1, z2, z3⟩, z4, z5⟩
        exact hd i m z1 (by omega) ⟨z2.symm.trans z4, z3.symm.trans z5⟩
    rw [ih, eI_pb h, e1 u v, e1 v u]
    generalize pb (∃ i, i < m ∧ u = x i ∧ v = x (i + 1)) = r1; generalize pb (∃ i, i < m ∧ v = x i ∧ u = x (i + 1)) = r2; generalize pb (u = x m ∧ v = x (m + 1)) = r3; generalize pb (v = x m ∧ u = x (m + 1)) = r4
    revert r1 r2 r3 r4; decide
def crh (ρ : Int → Int → Int → Bool) (a b w x y : Int) : Bool := bif eI a b x y then false else ρ w x y
theorem arc_same {A : pa_T} {nx : Int → Int → Int} {χ : Int → Int → Bool} (hc : finv A nx χ) {x : Nat → Int} {m : Nat} (hA : ∀ i, i < m → A (x i) (x (i + 1))) (hN : ∀ i, i + 2 ≤ m → nx (x i) (x (i + 1)) = x (i + 2)) : ∀ i, i < m → χ (x i) (x (i + 1)) = χ (x 0) (x 1)
  | 0, _ => rfl
  | i + 1, h => by
    rw [← arc_same hc hA hN i (by omega), ← hc _ _ (hA i (by omega)), hN i (by omega)]
theorem chord_pls {A : pa_T} {nx : Int → Int → Int} {ρ : Int → Int → Int → Bool} {p a p_zq b : Int} (m : mp A nx) (hl : pls A nx ρ) (hp : A p a) (hp_zq : A p_zq b) (hab : ¬ A a b) (hne : a ≠ b)
    {x : Nat → Int} {n : Nat} (hn : 1 ≤ n) (x0 : x 0 = a) (x1 : x 1 = nx p a) (xl : x (n - 1) = p_zq) (xn : x n = b) (hA : ∀ i, i < n → A (x i) (x (i + 1))) (hN : ∀ i, i + 2 ≤ n → nx (x i) (x (i + 1)) = x (i + 2))
    (hd : ∀ i j, i < j → j < n → ¬ (x i = x j ∧ x (i + 1) = x (j + 1))) : pls (chA A a b) (cnx nx p a p_zq b) (crh ρ a b) := by
  have m_zq := chord_mp m hp hp_zq hab hne
  obtain ⟨⟨hs, hi⟩, a2, a3, a4⟩ := m
  have hba : ¬ A b a := fun h => hab (hs _ _ h)
  have hne_zq : b ≠ a := fun e => hne e.symm
  have hbp : b ≠ p := fun e => hba (e ▸ hp)
  have hap : a ≠ p_zq := fun e => hab (e ▸ hp_zq)
  have n1 : ∀ {u v}, A u v → ¬ (u = b ∧ v = a) := fun h e => hba (e.1 ▸ e.2 ▸ h)
  have n2 : ∀ {u v}, A u v → ¬ (u = a ∧ v = b) := fun h e => hab (e.1 ▸ e.2 ▸ h)
  have eo : ∀ {x y}, A x y → eI a b x y = false := fun h => eI_no ⟨hs, hi⟩ hab h
  have lift : ∀ χ, finv A nx χ → finv (chA A a b) (cnx nx p a p_zq b) (fun u v => bif eI a b u v then χ p a else χ u v) := by
    intro χ hinv
    have same : χ p_zq b = χ p a := by
      have h1 := arc_same hinv hA hN (n - 1) (by omega)
      rw [show n - 1 + 1 = n by omega, xl, xn, x0, x1] at h1
      rw [h1]; exact hinv _ _ hp
    rintro u v (h | ⟨h1, h2⟩ | ⟨h1, h2⟩)
    · show (bif eI a b v (cnx nx p a p_zq b u v) then χ p a else χ v (cnx nx p a p_zq b u v)) = (bif eI a b u v then χ p a else χ u v)
      rw [eo h]
      by_cases q : u = p ∧ v = a
      · rw [q.1, q.2, cnx_1, eI_self]; rfl
      · by_cases q_zq : u = p_zq ∧ v = b
        · rw [q_zq.1, q_zq.2, cnx_3 hne_zq, eI_self2]; exact same.symm
        · rw [cnx_o q (n1 h) q_zq (n2 h), eo (a2 u v h)]; exact hinv u v h
    · subst h1; subst h2
      show (bif eI u v v (cnx nx p u p_zq v u v) then χ p u else χ v (cnx nx p u p_zq v u v)) = (bif eI u v u v then χ p u else _)
      rw [cnx_4 hne_zq hap, eI_self, eo (a2 _ _ hp_zq)]
      show χ v (nx p_zq v) = χ p u
      rw [hinv _ _ hp_zq, same]
    · subst h1; subst h2
      show (bif eI v u v (cnx nx p v p_zq u u v) then χ p v else χ v (cnx nx p v p_zq u u v)) = (bif eI v u u v then χ p v else _)
      rw [cnx_2 hbp, eI_self2, eo (a2 _ _ hp)]; exact hinv _ _ hp
  have lbd : ∀ χ u v, chA A a b u v → fbd (fun u v => bif eI a b u v then χ p a else χ u v) u v = (bif eI a b u v then false else fbd χ u v) := by
    intro χ u v h
    unfold fbd
    show ((bif eI a b u v then χ p a else χ u v) ^^ (bif eI a b v u then χ p a else χ v u)) = _
    rw [eI_swap a b v u]
    cases eI a b u v
    · rfl
    · simp
  have ec : ∀ u v, chA A a b u v → eI a b u v = false → A u v := by
    rintro u v (h | ⟨h1, h2⟩ | ⟨h1, h2⟩) e
    · exact h
    · rw [h1, h2, eI_self] at e; cases e
    · rw [h1, h2, eI_self2] at e; cases e
  have main : ∀ u v, A u v → ∃ χ, finv (chA A a b) (cnx nx p a p_zq b) χ ∧ ∀ x y, chA A a b x y → fbd χ x y = ((crh ρ a b u x y ^^ crh ρ a b v x y) ^^ eI u v x y) := by
    intro u v huv
    obtain ⟨χ, hinv, hbd⟩ := hl u v huv
    refine ⟨_, lift χ hinv, fun z y h => ?_⟩
    rw [lbd χ z y h]
    unfold crh
    cases e : eI a b z y with
    | false => exact hbd z y (ec z y h e)
    | true =>
      have e2 : eI u v z y = false := by
        unfold eI
        refine decide_eq_false (fun w => ?_)
        have e3 : (z = a ∧ y = b) ∨ (z = b ∧ y = a) := of_decide_eq_true e
        rcases e3 with ⟨h1, h2⟩ | ⟨h1, h2⟩ <;> rcases w with ⟨z1, z2⟩ | ⟨z1, z2⟩
        · exact n2 huv ⟨z1.symm.trans h1, z2.symm.trans h2⟩
        · exact n1 huv ⟨z2.symm.trans h2, z1.symm.trans h1⟩
        · exact n1 huv ⟨z1.symm.trans h1, z2.symm.trans h2⟩
        · exact n2 huv ⟨z2.symm.trans h2, z1.symm.trans h1⟩
      rw [e2]; rfl
  have edge : ∃ χ, finv (chA A a b) (cnx nx p a p_zq b) χ ∧ ∀ x y, chA A a b x y → fbd χ x y = ((crh ρ a b a x y ^^ crh ρ a b b x y) ^^ eI a b x y) := by
    obtain ⟨χ, hinv, hbd⟩ := arc_sum hl hA n (Nat.le_refl _)
    -- the one new face
    let T : Int → Int → Prop := fun u v => (u = b ∧ v = a) ∨ ∃ i, i < n ∧ u = x i ∧ v = x (i + 1)
    have stp : ∀ i, i + 1 < n → cnx nx p a p_zq b (x i) (x (i + 1)) = x (i + 2) := by
      intro i h
      have hAi := hA i (by omega)
      rw [cnx_o (fun z => ?_) (n1 hAi) (fun z => ?_) (n2 hAi), hN i (by omega)]
      · refine hd 0 (i + 1) (by omega) h ⟨by rw [x0]; exact z.2.symm, ?_⟩
        rw [x1, ← hN i (by omega), z.1, z.2]
      · refine hd i (n - 1) (by omega) (by omega) ⟨by rw [xl]; exact z.1, ?_⟩
        rw [show n - 1 + 1 = n by omega, xn]; exact z.2
    have tT : ∀ u v, T u v → T v (cnx nx p a p_zq b u v) := by
      rintro u v (⟨h1, h2⟩ | ⟨i, h1, h2, h3⟩)
      · rw [h1, h2, cnx_2 hbp]; exact Or.inr ⟨0, by omega, x0.symm, x1.symm⟩
      · by_cases q : i + 1 = n
        · have e1 : u = p_zq := by rw [h2, ← xl]; congr 1; omega
          have e2 : v = b := by rw [h3, q, xn]
          rw [e1, e2, cnx_3 hne_zq]; exact Or.inl ⟨rfl, rfl⟩
        · rw [h2, h3, stp i (by omega)]; exact Or.inr ⟨i + 1, by omega, rfl, rfl⟩
    have TA : ∀ u v, T u v → chA A a b u v := by
      rintro u v (⟨h1, h2⟩ | ⟨i, h1, h2, h3⟩)
      · exact Or.inr (Or.inr ⟨h1, h2⟩)
      · rw [h2, h3]; exact Or.inl (hA i h1)
    have bT : ∀ u v, chA A a b u v → T v (cnx nx p a p_zq b u v) → T u v := by
      rintro u v h (⟨h1, h2⟩ | ⟨i, h1, h2, h3⟩)
      · -- goes to a from b: comes from p_zq
        have e := m_zq.2.2.1 u p_zq v h (by rw [h1]; exact Or.inl hp_zq) (by rw [h2, h1, cnx_3 hne_zq])
        exact Or.inr ⟨n - 1, by omega, by rw [xl]; exact e, by rw [show n - 1 + 1 = n by omega, xn]; exact h1⟩
      · cases i with
        | zero =>
          rw [x0] at h2
          have e := m_zq.2.2.1 u b v h (by rw [h2]; exact Or.inr (Or.inr ⟨rfl, rfl⟩)) (by rw [h3, h2, cnx_2 hbp, ← x1])
          exact Or.inl ⟨e, h2⟩
        | succ i =>
          have e := m_zq.2.2.1 u (x i) v h (by rw [h2]; exact Or.inl (hA i (by omega))) (by rw [h3, h2, stp i h1])
          exact Or.inr ⟨i, by omega, e, h2⟩
    have fT : finv (chA A a b) (cnx nx p a p_zq b) (fun u v => pb (T u v)) := fun u v h => pb_iff ⟨bT u v h, tT u v⟩
    refine ⟨_, finv_xor (lift χ hinv) fT, fun u v h => ?_⟩
    rw [fbd_xor, lbd χ u v h]
    have hT : fbd (fun u v => pb (T u v)) u v = (bif eI a b u v then true else apar x u v n) := by
      unfold fbd
      cases e : eI a b u v with
      | true =>
        have e3 : (u = a ∧ v = b) ∨ (u = b ∧ v = a) := of_decide_eq_true e
        have t1 : T b a := Or.inl ⟨rfl, rfl⟩
        have t2 : ¬ T a b := by
          rintro (⟨h1, h2⟩ | ⟨i, h1, h2, h3⟩)
          · exact hne h1
          · exact hab (h2 ▸ h3 ▸ hA i h1)
        rcases e3 with ⟨h1, h2⟩ | ⟨h1, h2⟩
        · rw [h1, h2]; show (pb (T a b) ^^ pb (T b a)) = true; rw [pb_t t1, pb_f t2]; rfl
        · rw [h1, h2]; show (pb (T b a) ^^ pb (T a b)) = true; rw [pb_t t1, pb_f t2]; rfl
      | false =>
        have hA_zq := ec u v h e
        show _ = apar x u v n
        rw [apar_th (hi u v hA_zq) n hd]
        congr 1
        · exact pb_iff ⟨fun z => z.elim (fun z => absurd z (n1 hA_zq)) id, Or.inr⟩
        · exact pb_iff ⟨fun z => z.elim (fun z => absurd z (n1 (hs _ _ hA_zq))) id, Or.inr⟩
    rw [hT]
    unfold crh
    cases e : eI a b u v with
    | true => rfl
    | false =>
      rw [show (bif false then false else fbd χ u v) = fbd χ u v from rfl, hbd u v (ec u v h e), x0, xn]
      show _ = ((ρ a u v ^^ ρ b u v) ^^ false)
      generalize apar x u v n = r1; generalize ρ a u v = r2; generalize ρ b u v = r3
      show (((r1 ^^ r2) ^^ r3) ^^ r1) = _
      revert r1 r2 r3; decide
  rintro u v (h | ⟨h1, h2⟩ | ⟨h1, h2⟩)
  · exact main u v h
  · rw [h1, h2]; exact edge
  · rw [h1, h2]
    obtain ⟨χ, i1, i2⟩ := edge
    refine ⟨χ, i1, fun x y h => ?_⟩
    rw [i2 x y h, eI_comm b a, Bool.xor_comm (crh ρ a b b x y)]
end
section
/-! around a node -/
theorem around {A : pa_T} {nx : Int → Int → Int} (m : mp A nx) {χ : Int → Int → Bool} (hc : finv A nx χ) {v : Int} (h : ∀ u, A u v → fbd χ u v = false) : ∀ u u_zq, A u v → A u_zq v → χ u v = χ u_zq v := by
  intro u u_zq hu hu_zq
  refine (m.2.2.2 v (fun w => A w v ∧ χ w v = χ u v) (fun w hw hL => ?_) u u_zq hu hu_zq ⟨hu, rfl⟩).2.symm
  have h1 := m.1.1 _ _ (m.2.1 w v hw)
  refine ⟨h1, ?_⟩
  have h2 := h _ h1
  have h3 := hc w v hw
  rw [← hL.2, ← h3]
  unfold fbd at h2
  revert h2
  generalize χ (nx w v) v = r1; generalize χ v (nx w v) = r2
  revert r1 r2; decide
theorem around2 {A : pa_T} {nx : Int → Int → Int} (m : mp A nx) {χ : Int → Int → Bool} (hc : finv A nx χ) {v p : Int} (hp : A p v) (hq : fbd χ (nx p v) v = true) (h : ∀ u, A u v → u ≠ p → u ≠ nx p v → fbd χ u v = false) : ∀ u, A u v → u ≠ p → χ u v = !χ p v := by
  intro u hu hne
  have h0 := ring_to m.2.1 m.1 m.2.2.2 hp u hu
  have hst : ∀ w, A w v → χ (nx w v) v = (χ w v ^^ fbd χ (nx w v) v) := by
    intro w hw
    have h3 := hc w v hw
    unfold fbd
    rw [h3]
    generalize χ (nx w v) v = r1; generalize χ w v = r2
    revert r1 r2; decide
  refine rc_ind (L := fun u => A u v ∧ (u ≠ p → χ u v = !χ p v)) h0 ⟨m.1.1 _ _ (m.2.1 p v hp), fun _ => ?_⟩ (fun a b _ r ih => ?_) |>.2 hne
  · rw [hst p hp, hq]
    generalize χ p v = r1; revert r1; decide
  · obtain ⟨r1, r2, r3⟩ := r
    rw [r3]
    have hA := m.1.1 _ _ (m.2.1 a v r1)
    refine ⟨hA, fun hp2 => ?_⟩
    rw [hst a r1, h _ hA hp2 (fun e => r2 (m.2.2.1 a p v r1 hp e)), ih.2 r2]
    generalize χ p v = r1; revert r1; decide
/-- a triangle of edges bounds -/
theorem tri_bd {A : pa_T} {nx : Int → Int → Int} {ρ : Int → Int → Int → Bool} (hl : pls A nx ρ) {a b c : Int} (h1 : A a b) (h2 : A b c) (h3 : A c a) : ∃ χ, finv A nx χ ∧ ∀ x y, A x y → fbd χ x y = ((eI a b x y ^^ eI b c x y) ^^ eI c a x y) := by
  obtain ⟨χ1, i1, j1⟩ := hl a b h1
  obtain ⟨χ2, i2, j2⟩ := hl b c h2
  obtain ⟨χ3, i3, j3⟩ := hl c a h3
  refine ⟨_, finv_xor (finv_xor i1 i2) i3, fun x y h => ?_⟩
  rw [fbd_xor, fbd_xor, j1 x y h, j2 x y h, j3 x y h]
  generalize ρ a x y = r1; generalize ρ b x y = r2; generalize ρ c x y = r3; generalize eI a b x y = r4; generalize eI b c x y = r5; generalize eI c a x y = r6
  revert r1 r2 r3 r4 r5 r6; decide
theorem eI_f {a b x y : Int} (h1 : ¬ (x = a ∧ y = b)) (h2 : ¬ (x = b ∧ y = a)) : eI a b x y = false := by
  unfold eI; exact decide_eq_false (fun z => z.elim h1 h2)
theorem deg1 {A : pa_T} {nx : Int → Int → Int} (m : mp A nx) {a b : Int} (h : A a b) (e : nx a b = a) : ∀ u, A u b → u = a := fun u hu => m.2.2.2 b (fun w => w = a) (fun w _ hL => by rw [hL]; exact e) a u h hu rfl
/-- a face of more than three has a place to be cut -/
theorem cut3 {A : pa_T} {nx : Int → Int → Int} {ρ : Int → Int → Int → Bool} (m : mp A nx) (hl : pls A nx ρ) {a b c d : Int} (hab : A a b) (ec : nx a b = c) (ed : nx b c = d) (c1 : a = c ∨ A a c) (c2 : b = d ∨ A b d) (c3 : c = nx c d ∨ A c (nx c d)) : (c = a ∧ d = b) ∨ (d = a ∧ nx c d = b) := by
  have hs := m.1.1
  have hi := m.1.2
  have hbc : A b c := ec ▸ m.2.1 a b hab
  have hcd : A c d := ed ▸ m.2.1 b c hbc
  rcases c1 with c1 | c1
  · -- b has one neighbour
    left
    refine ⟨c1.symm, ?_⟩
    rcases c2 with c2 | c2
    · exact c2.symm
    · have h1 := deg1 m hab (by rw [ec]; exact c1.symm) d (hs _ _ c2)
      exact absurd (h1.trans c1).symm (hi _ _ hcd)
  · right
    have hca := hs _ _ c1
    have hne_ab := hi _ _ hab
    have hne_bc := hi _ _ hbc
    have hne_ac := hi _ _ c1
    have hdb : b ≠ d := fun e => by
      have h1 := deg1 m hbc (by rw [ed]; exact e.symm) a c1
      exact hne_ab h1
    obtain ⟨χ, hf, hb⟩ := tri_bd hl hab hbc hca
    have k0 : χ b c = χ a b := by rw [← ec]; exact hf a b hab
    have k1 : χ c d = χ a b := by rw [← k0, ← ed]; exact hf b c hbc
    have flip : ∀ x y, A x y → eI a b x y = false → eI b c x y = false → eI c a x y = false → χ x y = χ y x := by
      intro x y h e1 e2 e3
      have h2 := hb x y h
      rw [e1, e2, e3] at h2
      unfold fbd at h2
      revert h2
      generalize χ x y = r1; generalize χ y x = r2
      revert r1 r2; decide
    by_cases hda : d = a
    · refine ⟨hda, ?_⟩
      apply Classical.byContradiction
      intro hw
      have hcw : A c (nx c d) := by
        rcases c3 with c3 | c3
        · have h1 := deg1 m hcd c3.symm b (by rw [hda]; exact hs _ _ hab)
          exact absurd h1 hne_bc
        · exact c3
      have haw : A a (nx c d) := hda ▸ m.2.1 c d hcd
      generalize hW : nx c d = w at *
      have hwc := hi _ _ hcw
      have hwa := hi _ _ haw
      -- at c
      have h5 := around2 m hf (v := c) (p := b) hbc (by
        rw [ed, hda]
        rw [hb a c c1, eI_f (fun z => hne_bc z.2.symm) (fun z => hne_ab z.1), eI_f (fun z => hne_ab z.1) (fun z => hne_ac z.1), eI_self2]; rfl) (fun u hu h1 h2 => by
        rw [ed, hda] at h2
        rw [hb u c hu, eI_f (fun z => h2 z.1) (fun z => h1 z.1), eI_f (fun z => h1 z.1) (fun z => hne_bc z.2.symm), eI_f (fun z => hne_ac z.2.symm) (fun z => h2 z.1)]; rfl) w (hs _ _ hcw) hw
      have h6 := around m hf (v := w) (fun u hu => by
        rw [hb u w hu, eI_f (fun z => hw z.2) (fun z => hwa z.2.symm), eI_f (fun z => hwc z.2.symm) (fun z => hw z.2), eI_f (fun z => hwa z.2.symm) (fun z => hwc z.2.symm)]; rfl) c a hcw haw
      have h7 : χ w c = χ c w := flip w c (hs _ _ hcw) (eI_f (fun z => hwa z.1.symm) (fun z => hw z.1)) (eI_f (fun z => hw z.1) (fun z => hwc z.1.symm)) (eI_f (fun z => hwc z.1.symm) (fun z => hwa z.1.symm))
      have h8 : χ a w = χ c d := by have := hf c d hcd; rw [hW, hda] at this; rw [this, hda]
      rw [k0] at h5
      rw [h8, k1, ← h7, h5] at h6
      revert h6
      generalize χ a b = r; revert r; decide
    · exfalso
      have hbd : A b d := c2.elim (fun e => absurd e hdb) id
      have hdc := hi _ _ hcd
      have h5 := around2 m hf (v := b) (p := a) hab (by
        rw [ec, hb c b (hs _ _ hbc), eI_f (fun z => hne_ac z.1.symm) (fun z => hne_bc z.1.symm), eI_self2, eI_f (fun z => hne_ab z.2.symm) (fun z => hne_ac z.1.symm)]; rfl) (fun u hu h1 h2 => by
        rw [ec] at h2
        rw [hb u b hu, eI_f (fun z => h1 z.1) (fun z => hne_ab z.2.symm), eI_f (fun z => hne_bc z.2) (fun z => h2 z.1), eI_f (fun z => h2 z.1) (fun z => h1 z.1)]; rfl) d (hs _ _ hbd) hda
      have h6 := around m hf (v := d) (fun u hu => by
        rw [hb u d hu, eI_f (fun z => hdb z.2.symm) (fun z => hda z.2), eI_f (fun z => hdc z.2.symm) (fun z => hdb z.2.symm), eI_f (fun z => hda z.2) (fun z => hdc z.2.symm)]; rfl) b c hbd hcd
      have h7 : χ d b = χ b d := flip d b (hs _ _ hbd) (eI_f (fun z => hda z.1) (fun z => hdb z.1.symm)) (eI_f (fun z => hdb z.1.symm) (fun z => hdc z.1.symm)) (eI_f (fun z => hdc z.1.symm) (fun z => hda z.1))
      rw [k1, ← h7, h5] at h6
      revert h6
      generalize χ a b = r; revert r; decide
/-! counting -/
theorem php : ∀ (N M : Nat) (f : Nat → Nat), (∀ i, i < N → f i < M) → (∀ i j, i < N → j < N → f i = f j → i = j) → N ≤ M
  | 0, _, _, _, _ => Nat.zero_le _
  | N + 1, M, f, h1, h2 => by
    have hM := h1 N (by omega)
    have := php N (M - 1) (fun i => if f N < f i then f i - 1 else f i) (fun i hi => ?_) (fun i j hi hj e => ?_)
    · omega
    · show (if f N < f i then f i - 1 else f i) < M - 1
      have a1 := h1 i (by omega)
      have a2 : f i ≠ f N := fun e => by have := h2 i N (by omega) (by omega) e; omega
      split <;> omega
    · have e_zq : (if f N < f i then f i - 1 else f i) = (if f N < f j then f j - 1 else f j) := e
      have a2 : f i ≠ f N := fun e => by have := h2 i N (by omega) (by omega) e; omega
      have a3 : f j ≠ f N := fun e => by have := h2 j N (by omega) (by omega) e; omega
      refine h2 i j (by omega) (by omega) ?_
      split at e_zq <;> split at e_zq <;> omega
def bitsN (f : Nat → Bool) : Nat → Nat
  | 0 => 0
  | n + 1 => bitsN f n + (if f n then 2 ^ n else 0)
theorem bitsN_lt (f : Nat → Bool) : ∀ n, bitsN f n < 2 ^ n
  | 0 => by show 0 < 1; omega
  | n + 1 => by
    have := bitsN_lt f n
    show bitsN f n + (if f n then 2 ^ n else 0) < 2 ^ (n + 1)
    rw [Nat.pow_succ]
    split <;> omega
theorem bitsN_inj {f g : Nat → Bool} : ∀ n, bitsN f n = bitsN g n → ∀ i, i < n → f i = g i
  | 0, _, i, h => by omega
  | n + 1, e, i, h => by
    have h1 := bitsN_lt f n
    have h2 := bitsN_lt g n
    have e_zq : bitsN f n + (if f n then 2 ^ n else 0) = bitsN g n + (if g n then 2 ^ n else 0) := e
    have hn : f n = g n := by
      cases hf : f n <;> cases hg : g n <;> rw [hf, hg] at e_zq <;> simp at e_zq <;> first | rfl | omega
    rw [hn] at e_zq
    by_cases q : i = n
    · rw [q, hn]
    · exact bitsN_inj n (by omega) i (by omega)
/-- a map of bits that does not forget needs as many -/
theorem php2 {K M : Nat} (F : (Nat → Bool) → Nat → Bool) (h : ∀ B B_zq, (∀ i, i < M → F B i = F B_zq i) → ∀ i, i < K → B i = B_zq i) : K ≤ M := by
  have := php (2 ^ K) (2 ^ M) (fun i => bitsN (F (fun j => Nat.testBit i j)) M) (fun i _ => bitsN_lt _ M) (fun i j hi hj e => ?_)
  · exact (Nat.pow_le_pow_iff_right (by omega)).mp this
  · have h1 := h _ _ (bitsN_inj M e)
    apply Nat.eq_of_testBit_eq
    intro k
    by_cases q : k < K
    · exact h1 k q
    · rw [Nat.testBit_lt_two_pow (Nat.lt_of_lt_of_le hi (Nat.pow_le_pow_right (by omega) (by omega))), Nat.testBit_lt_two_pow (Nat.lt_of_lt_of_le hj (Nat.pow_le_pow_right (by omega) (by omega)))]
end
section
def xsum (f : Nat → Bool) : Nat → Bool
  | 0 => false
  | k + 1 => xsum f k ^^ f k
theorem xsum_eq {f g : Nat → Bool} : ∀ k, (∀ i, i < k → f i = g i) → xsum f k = xsum g k
  | 0, _ => rfl
  | k + 1, h => by
    show (xsum f k ^^ f k) = (xsum g k ^^ g k)
    rw [xsum_eq k (fun i hi => h i (by omega)), h k (by omega)]
theorem xsum_xor (f g : Nat → Bool) : ∀ k, xsum (fun i => f i ^^ g i) k = (xsum f k ^^ xsum g k)
  | 0 => rfl
  | k + 1 => by
    show (xsum (fun i => f i ^^ g i) k ^^ (f k ^^ g k)) = ((xsum f k ^^ f k) ^^ (xsum g k ^^ g k))
    rw [xsum_xor f g k]
    generalize xsum f k = r1; generalize xsum g k = r2; generalize f k = r3; generalize g k = r4
    revert r1 r2 r3 r4; decide
theorem xsum_no {f : Nat → Bool} : ∀ k, (∀ i, i < k → f i = false) → xsum f k = false
  | 0, _ => rfl
  | k + 1, h => by
    show (xsum f k ^^ f k) = false
    rw [xsum_no k (fun i hi => h i (by omega)), h k (by omega)]; rfl
theorem xsum_one {f : Nat → Bool} {j : Nat} : ∀ k, j < k → (∀ i, i < k → i ≠ j → f i = false) → xsum f k = f j
  | 0, h, _ => by omega
  | k + 1, h, hf => by
    show (xsum f k ^^ f k) = f j
    by_cases q : j = k
    · subst q
      rw [xsum_no j (fun i hi => hf i (by omega) (by omega))]
      generalize f j = r; revert r; decide
    · rw [xsum_one k (by omega) (fun i hi hne => hf i (by omega) hne), hf k (by omega) (fun e => q e.symm)]
      generalize f j = r; revert r; decide
theorem xsum_pick {n : Nat} {r : Int → Bool} {t : Int} (h0 : 0 ≤ t) (h1 : t < n) : xsum (fun v => decide (t = ((v : Nat) : Int)) && r ((v : Nat) : Int)) n = r t := by
  rw [xsum_one (j := t.toNat) n (by omega) (fun i _ hne => by rw [decide_eq_false (by omega)]; rfl)]
  have e : ((t.toNat : Nat) : Int) = t := by omega
  show (decide (t = ((t.toNat : Nat) : Int)) && r ((t.toNat : Nat) : Int)) = r t
  rw [e, decide_eq_true rfl]; rfl
theorem xsum_ex {n : Nat} {t h : Nat → Int} {r : Int → Bool} {B : Nat → Bool} : ∀ k, (∀ e, e < k → 0 ≤ t e ∧ t e < n ∧ 0 ≤ h e ∧ h e < n) → xsum (fun e => B e && (r (t e) ^^ r (h e))) k = xsum (fun v => xsum (fun e => B e && (decide (t e = ((v : Nat) : Int)) ^^ decide (h e = ((v : Nat) : Int)))) k && r ((v : Nat) : Int)) n
  | 0, _ => (xsum_no (f := fun v => xsum (fun e => B e && (decide (t e = ((v : Nat) : Int)) ^^ decide (h e = ((v : Nat) : Int)))) 0 && r ((v : Nat) : Int)) n (fun i _ => rfl)).symm
  | k + 1, hb => by
    obtain ⟨h1, h2, h3, h4⟩ := hb k (by omega)
    show (xsum (fun e => B e && (r (t e) ^^ r (h e))) k ^^ (B k && (r (t k) ^^ r (h k)))) = _
    rw [xsum_ex k (fun e he => hb e (by omega))]
    have e1 : (B k && (r (t k) ^^ r (h k))) = xsum (fun v => B k && ((decide (t k = ((v : Nat) : Int)) && r ((v : Nat) : Int)) ^^ (decide (h k = ((v : Nat) : Int)) && r ((v : Nat) : Int)))) n := by
      cases B k with
      | false => exact (xsum_no n (fun i _ => rfl)).symm
      | true =>
        show (r (t k) ^^ r (h k)) = xsum (fun v => (decide (t k = ((v : Nat) : Int)) && r ((v : Nat) : Int)) ^^ (decide (h k = ((v : Nat) : Int)) && r ((v : Nat) : Int))) n
        rw [xsum_xor, xsum_pick h1 h2, xsum_pick h3 h4]
    rw [e1, ← xsum_xor]
    refine xsum_eq n (fun v _ => ?_)
    show _ = ((xsum (fun e => B e && (decide (t e = ((v : Nat) : Int)) ^^ decide (h e = ((v : Nat) : Int)))) k ^^ (B k && (decide (t k = ((v : Nat) : Int)) ^^ decide (h k = ((v : Nat) : Int))))) && r ((v : Nat) : Int))
    generalize xsum (fun e => B e && (decide (t e = ((v : Nat) : Int)) ^^ decide (h e = ((v : Nat) : Int)))) k = r1; generalize B k = r2; generalize decide (t k = ((v : Nat) : Int)) = r3; generalize decide (h k = ((v : Nat) : Int)) = r4; generalize r ((v : Nat) : Int) = r5
    revert r1 r2 r3 r4 r5; decide
/-- edges are no more than faces and nodes together -/
theorem euler {n m R : Nat} {t h : Nat → Int} {A : pa_T} {nx : Int → Int → Int} {ρ : Int → Int → Int → Bool} (hl : pls A nx ρ) (hs : ∀ u v, A u v → A v u)
    (hA : ∀ e, e < m → A (t e) (h e)) (hA2 : ∀ u v, A u v → ∃ e, e < m ∧ ((u = t e ∧ v = h e) ∨ (u = h e ∧ v = t e))) (hsi : ∀ e f, e < m → f < m → eI (t e) (h e) (t f) (h f) = true → e = f)
    (hb : ∀ e, e < m → 0 ≤ t e ∧ t e < n ∧ 0 ≤ h e ∧ h e < n) (φ : Int → Int → Nat) (hφ : ∀ u v, A u v → φ u v < R)
    (hc : ∀ χ, finv A nx χ → ∀ x y x_zq y_zq, A x y → A x_zq y_zq → φ x y = φ x_zq y_zq → χ x y = χ x_zq y_zq) : m ≤ R + n := by
  have hX : ∀ e, ∃ χ, e < m → finv A nx χ ∧ ∀ x y, A x y → fbd χ x y = ((ρ (t e) x y ^^ ρ (h e) x y) ^^ eI (t e) (h e) x y) := by
    intro e
    by_cases q : e < m
    · obtain ⟨χ, h1, h2⟩ := hl _ _ (hA e q); exact ⟨χ, fun _ => ⟨h1, h2⟩⟩
    · exact ⟨fun _ _ => false, fun z => absurd z q⟩
  have hXc : ∃ X : Nat → Int → Int → Bool, ∀ e, e < m → finv A nx (X e) ∧ ∀ x y, A x y → fbd (X e) x y = ((ρ (t e) x y ^^ ρ (h e) x y) ^^ eI (t e) (h e) x y) := ⟨fun e => Classical.choose (hX e), fun e => Classical.choose_spec (hX e)⟩
  obtain ⟨X, hXs⟩ := hXc
  let W : (Nat → Bool) → Int → Int → Bool := fun B x y => xsum (fun e => B e && X e x y) m
  have hWf : ∀ B, finv A nx (W B) := fun B u v a => xsum_eq m (fun e he => by rw [(hXs e he).1 u v a])
  let Dg : (Nat → Bool) → Nat → Bool := fun B v => xsum (fun e => B e && (decide (t e = ((v : Nat) : Int)) ^^ decide (h e = ((v : Nat) : Int)))) m
  refine php2 (fun B i => bif decide (i < R) then pb (∃ x y, A x y ∧ φ x y = i ∧ W B x y = true) else Dg B (i - R)) (fun B B_zq hF e0 he0 => ?_)
  have val : ∀ B x y, A x y → pb (∃ x_zq y_zq, A x_zq y_zq ∧ φ x_zq y_zq = φ x y ∧ W B x_zq y_zq = true) = W B x y := by
    intro B x y a
    cases hw : W B x y with
    | true => exact pb_t ⟨x, y, a, rfl, hw⟩
    | false =>
      refine pb_f (fun ⟨x_zq, y_zq, a_zq, e1, e2⟩ => ?_)
      rw [hc (W B) (hWf B) x_zq y_zq x y a_zq a e1, hw] at e2; cases e2
  have hW : ∀ x y, A x y → W B x y = W B_zq x y := by
    intro x y a
    have h1 := hF (φ x y) (by have := hφ x y a; omega)
    simp only [decide_eq_true (hφ x y a), cond_true] at h1
    rw [val B x y a, val B_zq x y a] at h1; exact h1
  have hD : ∀ v, v < n → Dg B v = Dg B_zq v := by
    intro v hv
    have h1 := hF (R + v) (by omega)
    simp only [decide_eq_false (show ¬ R + v < R by omega), cond_false, show R + v - R = v by omega] at h1
    exact h1
  have a0 := hA e0 he0
  have bdW : ∀ B : Nat → Bool, fbd (W B) (t e0) (h e0) = (xsum (fun v => Dg B v && ρ ((v : Nat) : Int) (t e0) (h e0)) n ^^ B e0) := by
    intro B
    have h1 : fbd (W B) (t e0) (h e0) = xsum (fun e => (B e && (ρ (t e) (t e0) (h e0) ^^ ρ (h e) (t e0) (h e0))) ^^ (B e && eI (t e) (h e) (t e0) (h e0))) m := by
      show (xsum (fun e => B e && X e (t e0) (h e0)) m ^^ xsum (fun e => B e && X e (h e0) (t e0)) m) = _
      rw [← xsum_xor]
      refine xsum_eq m (fun e he => ?_)
      have h2 := (hXs e he).2 _ _ a0
      unfold fbd at h2
      revert h2
      generalize B e = r1; generalize X e (t e0) (h e0) = r2; generalize X e (h e0) (t e0) = r3; generalize ρ (t e) (t e0) (h e0) = r4; generalize ρ (h e) (t e0) (h e0) = r5; generalize eI (t e) (h e) (t e0) (h e0) = r6
      revert r1 r2 r3 r4 r5 r6; decide
    rw [h1, xsum_xor, xsum_ex (r := fun v => ρ v (t e0) (h e0)) m hb]
    congr 1
    rw [xsum_one m he0 (fun i hi hne => ?_)]
    · rw [eI_self]; generalize B e0 = r; revert r; decide
    · cases hq : eI (t i) (h i) (t e0) (h e0) with
      | true => exact absurd (hsi i e0 hi he0 hq) hne
      | false => generalize B i = r; revert r; decide
  have h3 : fbd (W B) (t e0) (h e0) = fbd (W B_zq) (t e0) (h e0) := by unfold fbd; rw [hW _ _ a0, hW _ _ (hs _ _ a0)]
  rw [bdW B, bdW B_zq, xsum_eq n (fun v hv => by rw [hD v hv])] at h3
  revert h3
  generalize xsum (fun v => Dg B_zq v && ρ ((v : Nat) : Int) (t e0) (h e0)) n = r1; generalize B e0 = r2; generalize B_zq e0 = r3
  revert r1 r2 r3; decide
end
section
/-! the line over which nodes are taken off -/
def Lam (u v k : Int) (U : Int → Int) (x y : Int) : Prop := (∃ j, 0 ≤ j ∧ j + 1 < k ∧ ((x = U j ∧ y = U (j + 1)) ∨ (y = U j ∧ x = U (j + 1)))) ∨ (x = u ∧ y = v) ∨ (x = v ∧ y = u)
def ocn (A : pa_T) (nx : Int → Int → Int) (lf : Int → Prop) (ω : Int → Int → Bool) : Prop := ∀ χ, finv A nx χ → (∀ t, ¬ lf t → ∀ x, A x t → fbd χ x t = false) → ∀ x y x_zq y_zq, A x y → A x_zq y_zq → ω x y = true → ω x_zq y_zq = true → χ x y = χ x_zq y_zq
def cnv0 (u v k : Int) (U : Int → Int) (lf : Int → Prop) (A : pa_T) : Prop := 3 ≤ k ∧ U 0 = u ∧ U (k - 1) = v ∧ (∀ j, 0 ≤ j → j < k → lf (U j)) ∧ (∀ i j, 0 ≤ i → i < j → j < k → U i ≠ U j) ∧ (∀ j, 0 ≤ j → j + 1 < k → A (U j) (U (j + 1))) ∧ A u v
def cnvw (A : pa_T) (nx : Int → Int → Int) (u v k : Int) (U : Int → Int) (lf : Int → Prop) (ω : Int → Int → Bool) : Prop := finv A nx ω ∧ (∀ x y, A x y → fbd ω x y = pb (Lam u v k U x y)) ∧ (∀ x y, A x y → ¬ lf y → ω x y = true ∧ ω y x = true) ∧ (∀ x y, A x y → ¬ lf x → lf y → ∃ j, 0 ≤ j ∧ j < k ∧ y = U j) ∧ ocn A nx lf ω ∧ ∀ x y, A x y → lf x → lf y → ω x y = true → Lam u v k U x y
theorem Lam_sym {u v k : Int} {U : Int → Int} {x y : Int} (h : Lam u v k U x y) : Lam u v k U y x := by
  rcases h with ⟨j, a, b, c⟩ | ⟨a, b⟩ | ⟨a, b⟩
  · exact Or.inl ⟨j, a, b, c.symm⟩
  · exact Or.inr (Or.inr ⟨b, a⟩)
  · exact Or.inr (Or.inl ⟨b, a⟩)
theorem U_inj {k : Int} {U : Int → Int} (hd : ∀ i j, 0 ≤ i → i < j → j < k → U i ≠ U j) {i j : Int} (hi : 0 ≤ i) (hi2 : i < k) (hj : 0 ≤ j) (hj2 : j < k) (e : U i = U j) : i = j := by
  rcases Int.lt_trichotomy i j with q | q | q
  · exact absurd e (hd i j hi q hj2)
  · exact q
  · exact absurd e.symm (hd j i hj q hi2)
/-- the edges of a stretch of the line, as the sum has them -/
theorem seg_par {k : Int} {U : Int → Int} (hd : ∀ i j, 0 ≤ i → i < j → j < k → U i ≠ U j) {p : Int} (hp : 0 ≤ p) {x y : Int} (hxy : x ≠ y) {n : Nat} (hn : p + n < k) : apar (fun i => U (p + i)) x y n = (pb (∃ i : Nat, i < n ∧ x = U (p + i) ∧ y = U (p + i + 1)) ^^ pb (∃ i : Nat, i < n ∧ y = U (p + i) ∧ x = U (p + i + 1))) := by
  rw [apar_th hxy n (fun i j h1 h2 h3 => hd (p + i) (p + j) (by omega) (by omega) (by omega) h3.1)]
  congr 1
  · exact pb_iff ⟨fun ⟨i, a, b, c⟩ => ⟨i, a, b, by rw [c]; congr 1; omega⟩, fun ⟨i, a, b, c⟩ => ⟨i, a, b, by rw [c]; congr 1; omega⟩⟩
  · exact pb_iff ⟨fun ⟨i, a, b, c⟩ => ⟨i, a, b, by rw [c]; congr 1; omega⟩, fun ⟨i, a, b, c⟩ => ⟨i, a, b, by rw [c]; congr 1; omega⟩⟩
theorem no_cross {A : pa_T} {nx : Int → Int → Int} {ρ : Int → Int → Int → Bool} {u v k : Int} {U : Int → Int} {lf : Int → Prop} {ω : Int → Int → Bool} (m : mp A nx) (hl : pls A nx ρ) (h0 : cnv0 u v k U lf A) (hw : cnvw A nx u v k U lf ω)
    {p q r s : Int} (hp : 0 ≤ p) (hpr : p < r) (hrq : r < q) (hq : q < k) (hs0 : 0 ≤ s) (hsk : s < k) (hs : s < p ∨ q < s) (hpq : A (U p) (U q)) (hrs : A (U r) (U s)) (hns1 : s ≠ r - 1) (hns2 : s ≠ r + 1) : False := by
  obtain ⟨k3, hu, hv, hlf, hd, hadj, huv⟩ := h0
  obtain ⟨w0, w1, w2, w3, w4, w5⟩ := hw
  have hi := m.1.2
  have hsy := m.1.1
  obtain ⟨χ1, f1, b1⟩ := arc_sum hl (x := fun i : Nat => U (p + i)) (m := (q - p).toNat) (fun i hi => by
    have := hadj (p + i) (by omega) (by omega)
    rw [show p + ((i + 1 : Nat) : Int) = p + i + 1 by omega]; exact this) (q - p).toNat (Nat.le_refl _)
  obtain ⟨χ2, f2, b2⟩ := hl _ _ hpq
  have f3 := finv_xor f1 f2
  have b3 : ∀ x y, A x y → fbd (fun x y => χ1 x y ^^ χ2 x y) x y = (apar (fun i : Nat => U (p + i)) x y (q - p).toNat ^^ eI (U p) (U q) x y) := by
    intro x y h
    rw [fbd_xor, b1 x y h, b2 x y h]
    have e1 : p + ((q - p).toNat : Int) = q := by omega
    show (((apar (fun i : Nat => U (p + i)) x y (q - p).toNat ^^ ρ (U (p + ((0 : Nat) : Int))) x y) ^^ ρ (U (p + ((q - p).toNat : Int))) x y) ^^ ((ρ (U p) x y ^^ ρ (U q) x y) ^^ eI (U p) (U q) x y)) = _
    rw [e1, show p + ((0 : Nat) : Int) = p by omega]
    generalize apar (fun i : Nat => U (p + i)) x y (q - p).toNat = r1; generalize ρ (U p) x y = r2; generalize ρ (U q) x y = r3; generalize eI (U p) (U q) x y = r4
    revert r1 r2 r3 r4; decide
  generalize hχ : (fun x y => χ1 x y ^^ χ2 x y) = χ at f3 b3
  -- a place of the line that is not on the ring, and every node off the line
  have off : ∀ z, (∀ j, p ≤ j → j ≤ q → z ≠ U j) → ∀ x, A x z → fbd χ x z = false := by
    intro z hz x h
    rw [b3 x z h, seg_par hd hp (hi _ _ h) (n := (q - p).toNat) (by omega), pb_f, pb_f, eI_f]
    · rfl
    · exact fun e => hz q (by omega) (by omega) e.2
    · exact fun e => hz p (by omega) (by omega) e.2
    · rintro ⟨i, a, b, c⟩; exact hz (p + i) (by omega) (by omega) b
    · rintro ⟨i, a, b, c⟩; exact hz (p + i + 1) (by omega) (by omega) c
  have neU : ∀ {i j : Int}, 0 ≤ i → i < k → 0 ≤ j → j < k → i ≠ j → U i ≠ U j := fun a b c d e h => e (U_inj hd a b c d h)
  -- at r both change at the same edges
  have atr : ∀ x, A x (U r) → fbd (fun x y => χ x y ^^ ω x y) x (U r) = false := by
    intro x h
    rw [fbd_xor, b3 x (U r) h, w1 x (U r) h, seg_par hd hp (hi _ _ h) (n := (q - p).toNat) (by omega), eI_f (fun e => neU (by omega) (by omega) (by omega) (by omega) (by omega : q ≠ r) e.2.symm) (fun e => neU (by omega) (by omega) (by omega) (by omega) (by omega : p ≠ r) e.2.symm)]
    have e1 : pb (Lam u v k U x (U r)) = (pb (∃ i : Nat, i < (q - p).toNat ∧ x = U (p + i) ∧ U r = U (p + i + 1)) ^^ pb (∃ i : Nat, i < (q - p).toNat ∧ U r = U (p + i) ∧ x = U (p + i + 1))) := by
      rw [← pb_or]
      · refine pb_iff ⟨fun z => ?_, fun z => ?_⟩
        · rcases z with ⟨j, a, b, (⟨c, d⟩ | ⟨c, d⟩)⟩ | ⟨a, b⟩ | ⟨a, b⟩
          · have := U_inj hd (by omega) (by omega) (by omega) (by omega) d
            exact Or.inl ⟨(r - 1 - p).toNat, by omega, by rw [c]; congr 1; omega, by congr 1; omega⟩
          · have := U_inj hd (by omega) (by omega) (by omega) (by omega) c
            exact Or.inr ⟨(r - p).toNat, by omega, by congr 1; omega, by rw [d]; congr 1; omega⟩
          · exact absurd (b.trans hv.symm) (neU (by omega) (by omega) (by omega) (by omega) (by omega))
          · exact absurd (b.trans hu.symm) (neU (by omega) (by omega) (by omega) (by omega) (by omega))
        · rcases z with ⟨i, a, b, c⟩ | ⟨i, a, b, c⟩
          · exact Or.inl ⟨p + i, by omega, by omega, Or.inl ⟨b, c⟩⟩
          · exact Or.inl ⟨p + i, by omega, by omega, Or.inr ⟨b, c⟩⟩
      · rintro ⟨⟨i, a, b, c⟩, i_zq, a_zq, b_zq, c_zq⟩
        have h1 := U_inj hd (by omega) (by omega) (by omega) (by omega) c
        have h2 := U_inj hd (by omega) (by omega) (by omega) (by omega) b_zq
        have h3 := U_inj hd (by omega) (by omega) (by omega) (by omega) (b.symm.trans c_zq)
        omega
    rw [e1]
    generalize pb (∃ i : Nat, i < (q - p).toNat ∧ x = U (p + i) ∧ U r = U (p + i + 1)) = r1; generalize pb (∃ i : Nat, i < (q - p).toNat ∧ U r = U (p + i) ∧ x = U (p + i + 1)) = r2
    revert r1 r2; decide
  have hsr := hsy _ _ hrs
  have conr := around m (finv_xor f3 w0) (v := U r) atr
  have ats := off (U s) (fun j h1 h2 => neU hs0 hsk (by omega) (by omega) (by omega))
  have cons := around m f3 (v := U s) ats
  -- the other chord lies inside
  have nL : ¬ Lam u v k U (U r) (U s) := by
    rintro (⟨j, a, b, (⟨c, d⟩ | ⟨c, d⟩)⟩ | ⟨a, b⟩ | ⟨a, b⟩)
    · have h1 := U_inj hd (by omega) (by omega) (by omega) (by omega) c
      have h2 := U_inj hd (by omega) (by omega) (by omega) (by omega) d
      omega
    · have h1 := U_inj hd (by omega) (by omega) (by omega) (by omega) c
      have h2 := U_inj hd (by omega) (by omega) (by omega) (by omega) d
      omega
    · exact absurd (a.trans hu.symm) (neU (by omega) (by omega) (by omega) (by omega) (by omega))
    · exact absurd (a.trans hv.symm) (neU (by omega) (by omega) (by omega) (by omega) (by omega))
  have o1 : ω (U s) (U r) = false := by
    cases h : ω (U s) (U r) with
    | false => rfl
    | true => exact absurd (Lam_sym (w5 _ _ hsr (hlf s hs0 hsk) (hlf r (by omega) (by omega)) h)) nL
  -- a dart at r that lies outside
  have outr : ∃ x y, A x y ∧ ω x y = true ∧ χ x y = !χ (U s) (U r) := by
    have h1 := hadj (r - 1) (by omega) (by omega)
    rw [show r - 1 + 1 = r by omega] at h1
    have h2 := w1 _ _ h1
    have hL : Lam u v k U (U (r - 1)) (U r) := Or.inl ⟨r - 1, by omega, by omega, Or.inl ⟨rfl, by congr 1; omega⟩⟩
    rw [pb_t hL] at h2
    have h3 := conr (U (r - 1)) (U s) h1 hsr
    have h4 : ((χ (U (r - 1)) (U r) ^^ ω (U (r - 1)) (U r)) ^^ (χ (U r) (U (r - 1)) ^^ ω (U r) (U (r - 1)))) = false := atr _ h1
    unfold fbd at h2
    simp only [o1] at h3
    cases hc : ω (U (r - 1)) (U r) with
    | true =>
      refine ⟨_, _, h1, hc, ?_⟩
      rw [hc] at h3
      revert h3
      generalize χ (U (r - 1)) (U r) = r1; generalize χ (U s) (U r) = r2; revert r1 r2; decide
    | false =>
      rw [hc] at h2 h3 h4
      have h5 : ω (U r) (U (r - 1)) = true := by revert h2; generalize ω (U r) (U (r - 1)) = r1; revert r1; decide
      refine ⟨_, _, hsy _ _ h1, h5, ?_⟩
      rw [h5] at h4
      revert h3 h4
      generalize χ (U (r - 1)) (U r) = r1; generalize χ (U s) (U r) = r2; generalize χ (U r) (U (r - 1)) = r3; revert r1 r2 r3; decide
  -- a dart at s that lies outside
  have ev : ∀ z, A z (U s) → χ z (U s) = χ (U s) (U r) ∧ χ (U s) z = χ (U s) (U r) := by
    intro z hz
    have h1 := cons z (U r) hz hrs
    have h2 := ats z hz
    have h3 := ats (U r) hrs
    unfold fbd at h2 h3
    revert h1 h2 h3
    generalize χ z (U s) = r1; generalize χ (U r) (U s) = r2; generalize χ (U s) z = r3; generalize χ (U s) (U r) = r4
    revert r1 r2 r3 r4; decide
  have outs : ∃ x y, A x y ∧ ω x y = true ∧ χ x y = χ (U s) (U r) := by
    have hz : ∃ z, A z (U s) ∧ Lam u v k U z (U s) := by
      by_cases q1 : s + 1 < k
      · exact ⟨U (s + 1), hsy _ _ (hadj s hs0 q1), Or.inl ⟨s, hs0, q1, Or.inr ⟨rfl, rfl⟩⟩⟩
      · refine ⟨U (s - 1), by have := hadj (s - 1) (by omega) (by omega); rw [show s - 1 + 1 = s by omega] at this; exact this, Or.inl ⟨s - 1, by omega, by omega, Or.inl ⟨rfl, by congr 1; omega⟩⟩⟩
    obtain ⟨z, hz1, hz2⟩ := hz
    have h2 := w1 _ _ hz1
    rw [pb_t hz2] at h2
    unfold fbd at h2
    cases hc : ω z (U s) with
    | true => exact ⟨_, _, hz1, hc, (ev z hz1).1⟩
    | false =>
      rw [hc] at h2
      exact ⟨_, _, hsy _ _ hz1, by revert h2; generalize ω (U s) z = r1; revert r1; decide, (ev z hz1).2⟩
  obtain ⟨x, y, a1, a2, a3⟩ := outr
  obtain ⟨x_zq, y_zq, c1, c2, c3⟩ := outs
  have := w4 χ f3 (fun t ht => off t (fun j h1 h2 e => ht (e ▸ hlf j (by omega) (by omega)))) x y x_zq y_zq a1 c1 a2 c2
  rw [a3, c3] at this
  revert this
  generalize χ (U s) (U r) = r1; revert r1; decide
/-- a node of the line without a chord -/
theorem can_ex {A : pa_T} {nx : Int → Int → Int} {ρ : Int → Int → Int → Bool} {u v k : Int} {U : Int → Int} {lf : Int → Prop} {ω : Int → Int → Bool} (m : mp A nx) (hl : pls A nx ρ) (h0 : cnv0 u v k U lf A) (hw : cnvw A nx u v k U lf ω) :
    ∃ p, 1 ≤ p ∧ p + 1 < k ∧ ∀ q, 0 ≤ q → q < k → q ≠ p → q ≠ p - 1 → q ≠ p + 1 → ¬ A (U p) (U q) := by
  apply Classical.byContradiction
  intro hn
  have hch : ∀ p, 1 ≤ p → p + 1 < k → ∃ q, 0 ≤ q ∧ q < k ∧ q ≠ p ∧ q ≠ p - 1 ∧ q ≠ p + 1 ∧ A (U p) (U q) := by
    intro p h1 h2
    apply Classical.byContradiction
    intro hq
    exact hn ⟨p, h1, h2, fun q a b c d e f => hq ⟨q, a, b, c, d, e, f⟩⟩
  have k3 := h0.1
  have key : ∀ d : Nat, ∀ p q, 0 ≤ p → q < k → p + 2 ≤ q → (q - p).toNat ≤ d → (0 < p ∨ q < k - 1) → A (U p) (U q) → False := by
    intro d
    induction d with
    | zero => intro p q a b c d_zq e f; omega
    | succ d ih =>
      intro p q a b c hd e f
      obtain ⟨s, s1, s2, s3, s4, s5, s6⟩ := hch (p + 1) (by omega) (by omega)
      by_cases hs : s < p ∨ q < s
      · exact no_cross m hl h0 hw a (by omega : p < p + 1) (by omega) b s1 s2 hs f s6 s4 s5
      · exact ih (p + 1) s (by omega) s2 (by omega) (by omega) (by omega) s6
  obtain ⟨s, s1, s2, s3, s4, s5, s6⟩ := hch 1 (by omega) (by omega)
  exact key (s - 1).toNat 1 s (by omega) s2 (by omega) (Nat.le_refl _) (by omega) s6
end
