/-! stores -/
/-- a name fits a kind -/
def nm_le (y : sy_T) (n : Nat) (t : tv_T) : Bool := match y.1[n]? with
  | some u => tv_le u t || (decide (t.1 = 5) && decide (u.1 = 0) && decide (t.2.1 ≤ u.2.1) && decide (u.2.2.1 ≤ t.2.2.1) && y.2.2.2.2.2.any (fun d => d.1 == n && d.2 == t.2.2.2.headD 1))
  | none => false
theorem nm_le_ok {ta : Nat → Option Nat} {ws : va_W} {vs : List Value} {ls : Array Slot} {nL : Nat} {st : List Value} {y : sy_T} (h : sy_ok ta ws vs ls nL st y) {n : Nat} {v : Value} (hv : vs[n]? = some v) {t : tv_T} (hn : nm_le y n t = true) : tv_ok ta t v := by
  unfold nm_le at hn
  split at hn
  · rename_i u hu
    rcases Bool.or_eq_true_iff.mp hn with hn | hn
    · exact tv_le_ok hn (h.1.2 n u v hu hv)
    · simp only [Bool.and_eq_true, decide_eq_true_eq] at hn
      obtain ⟨⟨⟨⟨h1, h2⟩, h3⟩, h4⟩, h5⟩ := hn
      obtain ⟨d, d1, d2⟩ := List.any_eq_true.mp h5
      simp only [Bool.and_eq_true, beq_iff_eq] at d2
      obtain ⟨x, k, e1, e2⟩ := h.2.2.2.2.2 d d1
      rw [d2.1, hv] at e1
      obtain rfl := Option.some.inj e1
      obtain ⟨x', e3, a, b⟩ := tv_int (h.1.2 n u _ hu hv) h2
      obtain rfl := Value.int.inj e3
      rw [d2.2] at e2
      exact Or.inr (Or.inr (Or.inr (Or.inr (Or.inl ⟨h1, x, rfl, by omega, by omega, k, e2⟩))))
  · cases hn
def ec_i (y : sy_T) (b : Nat) (u tv : tv_T) (pl : Nat → Bool) (g : rg_T) : Bool := decide (g.1 = 0) && decide (u.2.2.1 < (g.2.1 : Int)) && decide (tv.1 = 0) && tv_le tv g.2.2.2.1 && (decide (g.2.2.2.2.length = 0) || (sg_part g.2.2.2.2 (of_rng y b g.2.2.2.2.length)).all (tv_le tv) || (match g.2.2.2.1.2.2.2 with | [c] => pl c | _ => false))
def ec_l (u tv : tv_T) (g : rg_T) : Bool := decide (g.1 = 3) && decide (u.2.2.1 < (g.2.1 : Int)) && decide (tv.1 = 1) && tv_le tv g.2.2.2.1
def ec_b (u tv : tv_T) (g : rg_T) : Bool := decide (u.2.2.1 < (g.2.1 : Int)) && decide (tv.1 = 0) && decide (g.2.2.2.2.length = 0) && ((decide (g.1 = 1) && (tv_le (0, -128, 127, []) g.2.2.2.1 || (decide (-128 ≤ tv.2.1) && decide (tv.2.2.1 ≤ 127) && tv_le tv g.2.2.2.1))) || (decide (g.1 = 2) && tv_le (0, 0, 1, []) g.2.2.2.1))
def rg_all (G : List rg_T) (f : rg_T → Bool) (rs : List Nat) : Bool := rs.all (fun q => match G[q]? with | some g => f g | none => false)
theorem rg_all_ok {G : List rg_T} {f : rg_T → Bool} {rs : List Nat} (h : rg_all G f rs = true) {r : Nat} (hr : r ∈ rs) : ∃ g, G[r]? = some g ∧ f g = true := by
  have h1 := List.all_eq_true.mp h r hr
  cases hg : G[r]? with
  | none => rw [hg] at h1; cases h1
  | some g => rw [hg] at h1; exact ⟨g, rfl, h1⟩
def pl_has (fs : List fc_T) (b v : Nat) (c : Nat) : Bool := (fc_now fs).contains (18, [b, v], [(c : Int)])
/-- places of regions are those of the table -/
def pl_good (G : List rg_T) : Prop := ∀ (r : Nat) (g : rg_T) (c : Nat), G[r]? = some g → g.1 = 0 → g.2.2.2.1.2.2.2 = [c] → g.2.2.2.2 = pl_L c
def tr_ast (G : List rg_T) (i : ClassFile.Instr) (len : Nat) (y : sy_T) (fs : List fc_T) : Option sy_T := match y.2.2.1 with
  | v :: b :: a :: r => match y.1[a]?, y.1[b]?, y.1[v]? with
    | some t, some u, some tv => if t.1 = 2 ∧ u.1 = 0 ∧ 0 ≤ u.2.1 ∧ len = 1 then (match i with
      | .iastore => if rg_all G (ec_i y b u tv (pl_has fs b v)) t.2.2.2 then some (sy_at y r) else none
      | .lastore => if rg_all G (ec_l u tv) t.2.2.2 then some (sy_at y r) else none
      | .bastore => if rg_all G (ec_b u tv) t.2.2.2 then some (sy_at y r) else none
      | _ => none) else none
    | _, _, _ => none
  | _ => none
def ast_rs (y : sy_T) : List Nat := match y.2.2.1 with
  | _ :: _ :: a :: _ => (match y.1[a]? with
    | some t => t.2.2.2
    | none => [])
  | _ => []
theorem sy_three {ta : Nat → Option Nat} {vs st : List Value} {env : List tv_T} {a b d : Nat} {r : List Nat} (he : sy_env ta env vs) (h : sy_st vs (d :: b :: a :: r) st) {t u w : tv_T} (h1 : env[a]? = some t) (h2 : env[b]? = some u) (h3 : env[d]? = some w) : ∃ va vb vd rest, st = vd :: vb :: va :: rest ∧ vs[a]? = some va ∧ vs[b]? = some vb ∧ vs[d]? = some vd ∧ tv_ok ta t va ∧ tv_ok ta u vb ∧ tv_ok ta w vd ∧ sy_st vs r rest := by
  cases st with
  | nil => exact h.elim
  | cons vd st =>
    obtain ⟨va, vb, rest, rfl, a1, a2, a3, a4, a5⟩ := sy_two he h.2 h1 h2
    exact ⟨va, vb, vd, rest, rfl, a1, a2, h.1, a3, a4, he.2 d w vd h3 h.1, a5⟩
/-- an array's cell is set: what is known of objects stays -/
theorem sy_kept {ta : Nat → Option Nat} {ws : va_W} {vs : List Value} {ls : Array Slot} {nL : Nat} {st st' : List Value} {y : sy_T} {r : List Nat} (hy : sy_ok ta ws vs ls nL st y) (hs : sy_st vs r st') {q0 a : Nat} {x0 x1 : ClassId × vp_A} (hq : ws[q0]? = some (a, .inl x0)) : sy_ok ta (ws.set q0 (a, .inl x1)) vs ls nL st' (sy_at y r) := by
  refine ⟨hy.1, hy.2.1, hs, fun q hq2 => ?_, hy.2.2.2.2⟩
  obtain ⟨a2, ci, fs, v, m1, m2, m3, m4⟩ := hy.2.2.2.1 q hq2
  obtain ⟨j, hj⟩ := List.mem_iff_getElem?.mp m2
  refine ⟨a2, ci, fs, v, m1, List.mem_iff_getElem?.mpr ⟨j, ?_⟩, m3, m4⟩
  rw [List.getElem?_set_ne (fun e => by subst e; rw [hq] at hj; injection hj with h1; injection h1 with h2 h3; cases h3)]
  exact hj
/-- arrays that may be written, fields; facts wanted, facts given, kinds of values that the caller names besides -/
abbrev mo_T : Type := Nat × List (Nat × Nat) × List fc_T × List fc_T × List tv_T
def kp (mo : mo_T) (ta : Nat → Option Nat) (ws w1 : va_W) : Prop := (∀ (a ci : Nat) (fs : List Value), (a, .inr (ci, fs)) ∈ ws → ∃ fs' : List Value, (a, .inr (ci, fs')) ∈ w1 ∧ ∀ k : Nat, (ci, k) ∉ mo.2.1 → fs'[k]? = fs[k]?) ∧ ∀ (a r : Nat) (x : ClassId × vp_A), ta a = some r → mo.1.testBit r = false → (a, .inl x) ∈ ws → (a, .inl x) ∈ w1
theorem kp_refl {mo : mo_T} {ta : Nat → Option Nat} {ws : va_W} : kp mo ta ws ws := ⟨fun _ _ fs h => ⟨fs, h, fun _ _ => rfl⟩, fun _ _ _ _ _ h => h⟩
theorem kp_trans {mo : mo_T} {ta tb : Nat → Option Nat} {a b d : va_W} (hle : ta_le ta tb) (h1 : kp mo ta a b) (h2 : kp mo tb b d) : kp mo ta a d := ⟨fun x ci fs h => by
  obtain ⟨f1, m1, e1⟩ := h1.1 x ci fs h
  obtain ⟨f2, m2, e2⟩ := h2.1 x ci f1 m1
  exact ⟨f2, m2, fun k hk => (e2 k hk).trans (e1 k hk)⟩, fun x r e h hn hx => h2.2 x r e (hle x r h) hn (h1.2 x r e h hn hx)⟩
theorem kp_mono {mo mo' : mo_T} {ta : Nat → Option Nat} {a b : va_W} (hs : ∀ q ∈ mo.2.1, q ∈ mo'.2.1) (hm : ∀ r, mo'.1.testBit r = false → mo.1.testBit r = false) (h : kp mo ta a b) : kp mo' ta a b := ⟨fun x ci fs hx => by
  obtain ⟨f1, m1, e1⟩ := h.1 x ci fs hx
  exact ⟨f1, m1, fun k hk => e1 k (fun hq => hk (hs _ hq))⟩, fun x r e h1 hn hx => h.2 x r e h1 (hm r hn) hx⟩
theorem kp_arr {mo : mo_T} {ta : Nat → Option Nat} {ws : va_W} {q0 a r : Nat} {x0 x1 : ClassId × vp_A} (hq : ws[q0]? = some (a, .inl x0)) (hr : ta a = some r) (hm : mo.1.testBit r = true) : kp mo ta ws (ws.set q0 (a, .inl x1)) := by
  refine ⟨fun b ci fs h => ?_, fun b r' x hb hn hx => ?_⟩
  · obtain ⟨j, hj⟩ := List.mem_iff_getElem?.mp h
    refine ⟨fs, List.mem_iff_getElem?.mpr ⟨j, ?_⟩, fun _ _ => rfl⟩
    rw [List.getElem?_set_ne (fun e => by subst e; rw [hq] at hj; injection hj with h1; injection h1 with h2 h3; cases h3)]
    exact hj
  · obtain ⟨j, hj⟩ := List.mem_iff_getElem?.mp hx
    refine List.mem_iff_getElem?.mpr ⟨j, ?_⟩
    rw [List.getElem?_set_ne (fun e => by
      subst e
      rw [hq] at hj
      have e1 : a = b := by have := Option.some.inj hj; injection this
      rw [← e1, hr] at hb
      rw [Option.some.inj hb, hn] at hm
      cases hm)]
    exact hj
theorem kp_fld {mo : mo_T} {ta : Nat → Option Nat} {ws : va_W} {q0 a ci k : Nat} {fs : List Value} {v : Value} (hq : ws[q0]? = some (a, .inr (ci, fs))) (hm : (ci, k) ∈ mo.2.1) : kp mo ta ws (ws.set q0 (a, .inr (ci, fs.set k v))) := by
  refine ⟨fun b cj f h => ?_, fun b r' x hb hn hx => ?_⟩
  rotate_left
  · obtain ⟨j, hj⟩ := List.mem_iff_getElem?.mp hx
    refine List.mem_iff_getElem?.mpr ⟨j, ?_⟩
    rw [List.getElem?_set_ne (fun e => by subst e; rw [hq] at hj; injection hj with h1; injection h1 with h2 h3; cases h3)]
    exact hj
  have hlt := (List.getElem?_eq_some_iff.mp hq).1
  obtain ⟨j, hj⟩ := List.mem_iff_getElem?.mp h
  by_cases e : q0 = j
  · subst e
    rw [hq] at hj
    have e9 := Option.some.inj hj
    have e1 : a = b := by injection e9
    have e8 : ci = cj ∧ fs = f := by injection e9 with _ e7; injection e7 with e6; injection e6 with e5 e4; exact ⟨e5, e4⟩
    refine ⟨fs.set k v, List.mem_iff_getElem?.mpr ⟨q0, by rw [List.getElem?_set_self hlt, e1, e8.1]⟩, fun i hi => ?_⟩
    rw [← e8.1] at hi
    have hne : k ≠ i := fun e => by subst e; exact hi hm
    rw [List.getElem?_set_ne hne, e8.2]
  · refine ⟨f, List.mem_iff_getElem?.mpr ⟨j, ?_⟩, fun _ _ => rfl⟩
    rw [List.getElem?_set_ne e]; exact hj
theorem nar_b (x : Int32) : vp_nar .byte x = x.toInt8.toInt32 := vp_nar_byte x
theorem nar_z (x : Int32) : vp_nar .boolean x = x &&& 1 := rfl
section M10
variable {p : Program} {l : Launch} {e : Env} {R : Room} {s : State} {m : MethodId} {args : Array Value} {below : List Frame} {meth : Method} {c : Code} {H : Heap} {locs : List Loc} {cells slots : Nat} {Q : State → Prop} {cc : ByteArray} {pc : Nat} {i : ClassFile.Instr} {len nL : Nat} {v0 : List Value} {ta : Nat → Option Nat} {ws : va_W} {y y' : sy_T} {D : va_G} {kA : Nat → ClassId} {G : List rg_T} {A : Nat → Prop} {ret : Option FieldType} {own nm : String}
def st_X (i : ClassFile.Instr) (ws w1 : va_W) (y : sy_T) (vs : List Value) : Prop := ∀ d b a r, y.2.2.1 = d :: b :: a :: r → ∃ (ad : Nat) (x : Int32) (vd : Value) (q0 : Nat) (e0 e1 : ClassId × vp_A), vs[a]? = some (.ref ad) ∧ vs[b]? = some (.int x) ∧ vs[d]? = some vd ∧ 0 ≤ x.toInt ∧ ws[q0]? = some (ad, .inl e0) ∧ w1 = ws.set q0 (ad, .inl e1) ∧ (∀ j, j ≠ x.toInt.toNat → el_E e1 j = el_E e0 j) ∧ (el_E e1 x.toInt.toNat = v_iv vd ∨ i = .bastore ∧ (0 ≤ v_iv vd → v_iv vd ≤ 1 → el_E e1 x.toInt.toNat = v_iv vd))
theorem i_01 {z : Int32} (h1 : 0 ≤ z.toInt) (h2 : z.toInt ≤ 1) : z = 0 ∨ z = 1 := by
  have h3 : z.toInt = 0 ∨ z.toInt = 1 := by omega
  rcases h3 with h3 | h3
  · exact Or.inl (Int32.toInt_inj.mp (h3.trans (by decide)))
  · exact Or.inr (Int32.toInt_inj.mp (h3.trans (by decide)))
theorem b_01 {z : Int32} (h1 : 0 ≤ v_iv (.int z)) (h2 : v_iv (.int z) ≤ 1) : z.toInt8.toInt32 = z := by
  rcases i_01 h1 h2 with rfl | rfl <;> decide
theorem z_01 {z : Int32} (h1 : 0 ≤ v_iv (.int z)) (h2 : v_iv (.int z) ≤ 1) : z &&& 1 = z := by
  rcases i_01 h1 h2 with rfl | rfl <;> decide
theorem tr_ast_ok (X : cx p s m args meth c cc nL ret own nm) (hK : va_K D classes (TY kA) s) (hP : va_P D classes ws H) (hD : va_D A ws) (hS : va_S A s.heap H locs) (hth : th_ok kA G ta ws) (hpl : pl_good G) (hd : decode cc pc = .ok (i, len)) {fs : List fc_T} (h : tr_ast G i len y fs = some y') {vs : List Value} {ls : Array Slot} {st : List Value} (hf0 : fc_ok fs ta ws vs)
    (kk : ∀ (H1 : Heap) (locs1 : List Loc) (w1 : va_W), va_P D classes w1 H1 → va_D A w1 → va_S A s.heap H1 locs1 → th_ok kA G ta w1 → (∀ mo : mo_T, (∀ rr ∈ ast_rs y, mo.1.testBit rr = true) → kp mo ta ws w1) → sy_goX p l e R s m args below meth c H1 locs1 cells slots Q nL v0 ta w1 (st_X i ws w1 y) (pc + len) y') (hp0 : v0 <+: vs) (hy : sy_ok ta ws vs ls nL st y) : W p l e R s m args below meth c H locs cells slots Q (F0 m pc ls st) := by
  unfold tr_ast at h
  have hs := hy.2.2.1
  split at h
  · rename_i d b a r hst
    rw [hst] at hs
    split at h
    · rename_i t u tv hta hub htd
      obtain ⟨va, vb, vd, rest, rfl, ha, hb2, hd2, oa, ob, od, hr⟩ := sy_three hy.1 hs hta hub htd
      split at h
      · rename_i hk
        obtain ⟨ad, rg, rfl, h1, h2⟩ := tv_ref oa hk.1
        obtain ⟨x, rfl, x1, x2⟩ := tv_int ob hk.2.1
        have x0 : 0 ≤ x.toInt := by have := hk.2.2.1; omega
        obtain rfl := hk.2.2.2
        have X0 : ∀ (w1 : va_W) (q0 : Nat) (e0 e1 : ClassId × vp_A), ws[q0]? = some (ad, .inl e0) → w1 = ws.set q0 (ad, .inl e1) → (∀ j, j ≠ x.toInt.toNat → el_E e1 j = el_E e0 j) → (el_E e1 x.toInt.toNat = v_iv vd ∨ i = .bastore ∧ (0 ≤ v_iv vd → v_iv vd ≤ 1 → el_E e1 x.toInt.toNat = v_iv vd)) → st_X i ws w1 y vs := fun w1 q0 e0 e1 g1 g2 g3 g4 d' b' a' r' hst' => by
          rw [hst] at hst'
          cases hst'
          exact ⟨ad, x, vd, q0, e0, e1, ha, hb2, hd2, x0, g1, g2, g3, g4⟩
        have hrs : rg ∈ ast_rs y := by
          unfold ast_rs
          rw [hst]
          simp only
          rw [hta]
          exact h2
        split at h
        · split at h
          · rename_i hall
            obtain rfl := Option.some.inj h
            obtain ⟨g, g1, g2⟩ := rg_all_ok hall h2
            obtain ⟨q0, e0, hq, hgo⟩ := th_at hth h1 g1
            simp only [ec_i, Bool.and_eq_true, decide_eq_true_eq] at g2
            obtain ⟨⟨⟨⟨k0, k1⟩, k2⟩, k3⟩, k4⟩ := g2
            obtain ⟨z, rfl, _, _⟩ := tv_int od k2
            rcases hgo with ⟨_, n, f, rfl, l1, l2, l3, hf, hf2⟩ | ⟨q, _⟩ | ⟨q, _⟩ | ⟨q, _⟩
            · rw [k0] at hq
              obtain ⟨i1, i2, i3⟩ := in_nat (x := x) (n := n) x0 (by omega)
              refine va_iast X.1 X.2.1 hK hP hD hS q0 0 hq rfl i1 hd (fun H1 locs1 p1 p2 p3 => kk H1 locs1 _ p1 p2 p3 ?_ (fun _ hm => kp_arr hq h1 (hm rg hrs)) _ _ _ hp0 (X0 _ q0 _ _ hq rfl (fun j hj => by show (upd f _ _ j).toInt = _; unfold upd; rw [if_neg (by rw [i2]; exact hj)]; rfl) (Or.inl (by show (upd f _ _ _).toInt = _; unfold upd; rw [if_pos i2.symm]; rfl))) (sy_kept hy hr hq))
              refine th_set hD hth hq h1 g1 (Or.inl ⟨by omega, n, _, by rw [k0], l1, l2, l3, fun j hj => ?_, fun j t' hj ht' => ?_⟩)
              · unfold upd
                split
                · exact tv_le_ok k3 od
                · exact hf j hj
              · unfold upd
                split
                · rename_i ej
                  rcases Bool.or_eq_true_iff.mp k4 with k4 | k4
                  · rcases Bool.or_eq_true_iff.mp k4 with k4 | k4
                    · have : g.2.2.2.2.length = 0 := by simpa using k4
                      have hlt := (List.getElem?_eq_some_iff.mp ht').1
                      omega
                    · have hlt := (List.getElem?_eq_some_iff.mp ht').1
                      have hr2 := of_rng_ok hy hb2 x0 (show 0 < g.2.2.2.2.length by omega)
                      rw [ej, i2] at ht'
                      exact tv_le_ok (List.all_eq_true.mp k4 _ (sg_part_mem hr2.1 hr2.2 ht')) od
                  · split at k4
                    · rename_i cq0 hcq
                      have hL := hpl rg g cq0 g1 k0 hcq
                      have hF := (fc_now_ok hf0 _ (List.contains_iff_mem.mp k4)).2.2
                      have hF2 : pl_ok ((cq0 : Int)).toNat (v_iv (n_v vs b)).toNat (v_iv (n_v vs d)) := hF
                      rw [n_v_of hb2, n_v_of hd2, Int.toNat_natCast] at hF2
                      rw [ej, i2, hL] at ht'
                      exact pl_tv (hF2 t' ht')
                    · cases k4
                · exact hf2 j t' hj ht'
            · omega
            · omega
            · omega
          · cases h
        · split at h
          · rename_i hall
            obtain rfl := Option.some.inj h
            obtain ⟨g, g1, g2⟩ := rg_all_ok hall h2
            obtain ⟨q0, e0, hq, hgo⟩ := th_at hth h1 g1
            simp only [ec_l, Bool.and_eq_true, decide_eq_true_eq] at g2
            obtain ⟨⟨⟨k0, k1⟩, k2⟩, k3⟩ := g2
            obtain ⟨z, rfl, _, _⟩ := tv_long od k2
            rcases hgo with ⟨q, _⟩ | ⟨_, n, f, rfl, l1, l2, l3, hf⟩ | ⟨q, _⟩ | ⟨q, _⟩
            · omega
            · obtain ⟨i1, i2, i3⟩ := in_nat (x := x) (n := n) x0 (by omega)
              refine va_last X.1 X.2.1 hK hP hD hS q0 3 hq rfl i1 hd (fun H1 locs1 p1 p2 p3 => kk H1 locs1 _ p1 p2 p3 ?_ (fun _ hm => kp_arr hq h1 (hm rg hrs)) _ _ _ hp0 (X0 _ q0 _ _ hq rfl (fun j hj => by show (vp_updL f _ _ j).toInt = _; unfold vp_updL; rw [if_neg (by rw [i2]; exact hj)]; rfl) (Or.inl (by show (vp_updL f _ _ _).toInt = _; unfold vp_updL; rw [if_pos i2.symm]; rfl))) (sy_kept hy hr hq))
              refine th_set hD hth hq h1 g1 (Or.inr (Or.inl ⟨k0, n, _, rfl, l1, l2, l3, fun j hj => ?_⟩))
              unfold vp_updL
              split
              · exact tv_le_ok k3 od
              · exact hf j hj
            · omega
            · omega
          · cases h
        · split at h
          · rename_i hall
            obtain rfl := Option.some.inj h
            obtain ⟨g, g1, g2⟩ := rg_all_ok hall h2
            obtain ⟨q0, e0, hq, hgo⟩ := th_at hth h1 g1
            simp only [ec_b, Bool.and_eq_true, Bool.or_eq_true, decide_eq_true_eq] at g2
            obtain ⟨⟨⟨k1, k2⟩, k9⟩, k3⟩ := g2
            have no9 : ∀ (j : Nat) (t' : tv_T), g.2.2.2.2[j % g.2.2.2.2.length]? = some t' → False := fun j t' ht' => by have := (List.getElem?_eq_some_iff.mp ht').1; omega
            obtain ⟨z, rfl, z1, z2⟩ := tv_int od k2
            rcases hgo with ⟨_, n, f, rfl, l1, l2, l3, hf, hf2⟩ | ⟨q, _⟩ | ⟨q, _⟩ | ⟨q, _⟩
            · obtain ⟨i1, i2, i3⟩ := in_nat (x := x) (n := n) x0 (by omega)
              rcases k3 with ⟨k0, k4⟩ | ⟨k0, k4⟩
              · rw [k0] at hq
                refine va_bast X.1 X.2.1 hK hP hD hS q0 1 hq rfl i1 hd (fun H1 locs1 p1 p2 p3 => kk H1 locs1 _ p1 p2 p3 ?_ (fun _ hm => kp_arr hq h1 (hm rg hrs)) _ _ _ hp0 (X0 _ q0 _ _ hq rfl (fun j hj => by show (upd f _ _ j).toInt = _; unfold upd; rw [if_neg (by rw [i2]; exact hj)]; rfl) (Or.inr ⟨rfl, fun w1 w2 => by show (upd f _ _ _).toInt = _; unfold upd; rw [if_pos i2.symm, nar_b, b_01 w1 w2]; rfl⟩)) (sy_kept hy hr hq))
                refine th_set hD hth hq h1 g1 (Or.inl ⟨by omega, n, _, by rw [k0], l1, l2, l3, fun j hj => ?_, fun j t' _ ht' => (no9 j t' ht').elim⟩)
                unfold upd
                split
                · rw [nar_b]
                  have hb := i2b_ty (ta := ta) z1 z2
                  rcases k4 with k4 | ⟨⟨k5, k6⟩, k7⟩
                  · refine tv_le_ok k4 ?_
                    split at hb
                    · rename_i q
                      simp only [Bool.and_eq_true, decide_eq_true_eq] at q
                      refine tv_le_ok ?_ hb
                      simp [tv_le, q.1, q.2]
                    · exact hb
                  · rw [if_pos (by simp [k5, k6])] at hb
                    refine tv_le_ok (t := (0, tv.2.1, tv.2.2.1, [])) ?_ hb
                    unfold tv_le at k7 ⊢
                    rw [if_pos k2] at k7
                    rw [if_pos rfl]
                    exact k7
                · exact hf j hj
              · rw [k0] at hq
                refine va_zast X.1 X.2.1 hK hP hD hS q0 2 hq rfl i1 hd (fun H1 locs1 p1 p2 p3 => kk H1 locs1 _ p1 p2 p3 ?_ (fun _ hm => kp_arr hq h1 (hm rg hrs)) _ _ _ hp0 (X0 _ q0 _ _ hq rfl (fun j hj => by show (upd f _ _ j).toInt = _; unfold upd; rw [if_neg (by rw [i2]; exact hj)]; rfl) (Or.inr ⟨rfl, fun w1 w2 => by show (upd f _ _ _).toInt = _; unfold upd; rw [if_pos i2.symm, nar_z, z_01 w1 w2]; rfl⟩)) (sy_kept hy hr hq))
                refine th_set hD hth hq h1 g1 (Or.inl ⟨by omega, n, _, by rw [k0], l1, l2, l3, fun j hj => ?_, fun j t' _ ht' => (no9 j t' ht').elim⟩)
                unfold upd
                split
                · rw [nar_z]
                  refine tv_le_ok k4 ?_
                  have hb := and_r (x := z) (y := 1) (by decide)
                  have h1' : (1 : Int32).toInt = 1 := by decide
                  exact Or.inl ⟨rfl, _, rfl, hb.1, Int.le_trans hb.2 (Int.le_of_eq h1')⟩
                · exact hf j hj
            · omega
            · omega
            · omega
          · cases h
        · cases h
      · cases h
    · cases h
  · cases h
/-- a field's rule for writing -/
def pf_rule (own : String) (idx ci k : Nat) (ft : FieldType) : Prop := ∀ (p : Program) (l : Launch) (e : Env) (R : Room) (s : State) (m : MethodId) (args : Array Value) (below : List Frame) (meth : Method) (c : Code) (H : Heap) (locs : List Loc) (cells slots : Nat) (Q : State → Prop) (cc : ByteArray) (pc nL : Nat) (ret : Option FieldType) (nm : String) (D : va_G) (kA : Nat → ClassId) (A : Nat → Prop) (ws : va_W) (ls : Array Slot) (rest : List Value) (q0 a : Nat) (fs : List Value) (v : Value),
  cx p s m args meth c cc nL ret own nm → va_K D classes (TY kA) s → va_P D classes ws H → va_D A ws → va_S A s.heap H locs → ws[q0]? = some (a, .inr (ci, fs)) → k < fs.length → narrow ft v = v → fits ft v = true → decode cc pc = .ok (.putfield idx, 3) →
  (∀ (H1 : Heap) (locs1 : List Loc), va_P D classes (ws.set q0 (a, .inr (ci, fs.set k v))) H1 → va_D A (ws.set q0 (a, .inr (ci, fs.set k v))) → va_S A s.heap H1 locs1 → W p l e R s m args below meth c H1 locs1 cells slots Q (F0 m (pc + 3) ls rest)) → W p l e R s m args below meth c H locs cells slots Q (F0 m pc ls (v :: .ref a :: rest))
theorem pf_mk {own : String} {idx ci k : Nat} {C : String} {T : u_T} {N : Nat} (hc : classes[ci]? = some (C, T, N)) (hi : ∀ w ∈ u_ws C T N, w ∈ lw_g) (ty0 : Nat → FieldType) (hty : ∀ k, k < N → parseFieldDescriptor (T k).2.2.1 = some (ty0 k)) (hnm : ∀ a, a < N → ∀ b, b < N → a ≠ b → (T a).2.1 ≠ (T b).2.1) (hk : k < N) (hl : Cond.fieldLink own idx C (T k).2.1 (T k).2.2.1 ∈ lw_g) (ho : (T k).1 = C) (hf : (T k).2.2.2 = false) : pf_rule own idx ci k (ty0 k) :=
  fun _ _ _ _ _ _ _ _ _ _ _ _ _ _ _ _ _ _ _ _ _ _ _ _ _ _ q0 _ _ _ X hK hP hD hS he hlen hn hfit hd kk => k_put X hK hP hD hS q0 he hc hi ty0 hty hnm k hk hl ho (Or.inl hf) hn hfit hlen hd kk
/-- what fits a field: of ints, booleans, longs, references -/
def ft_ok (ft : FieldType) (tv : tv_T) : Bool := match ft with
  | .int => decide (tv.1 = 0)
  | .boolean => decide (tv.1 = 0) && decide (0 ≤ tv.2.1) && decide (tv.2.2.1 ≤ 1)
  | .long => decide (tv.1 = 1)
  | .object _ => decide (2 ≤ tv.1) && decide (tv.1 < 4)
  | .array _ => decide (2 ≤ tv.1) && decide (tv.1 < 4)
  | _ => false
theorem ft_ok_fit {ft : FieldType} {tv : tv_T} {v : Value} (h : ft_ok ft tv = true) (hv : tv_ok ta tv v) : narrow ft v = v ∧ fits ft v = true := by
  unfold ft_ok at h
  have href : 2 ≤ tv.1 ∧ tv.1 < 4 → v = .null ∨ ∃ a, v = .ref a := fun h2 => by
    rcases hv with ⟨k, _⟩ | ⟨k, _⟩ | ⟨k, a, r, e, _⟩ | ⟨k, e | ⟨a, r, e, _⟩⟩ | ⟨k, _⟩ | ⟨k, _⟩
    · omega
    · omega
    · exact Or.inr ⟨a, e⟩
    · exact Or.inl e
    · exact Or.inr ⟨a, e⟩
    · omega
    · omega
  split at h
  · obtain ⟨x, rfl, _⟩ := tv_int hv (by simpa using h); exact ⟨rfl, rfl⟩
  · simp only [Bool.and_eq_true, decide_eq_true_eq] at h
    obtain ⟨x, rfl, h1, h2⟩ := tv_int hv h.1.1
    have h3 : x.toInt = 0 ∨ x.toInt = 1 := by omega
    rcases h3 with h3 | h3
    · have : x = 0 := Int32.toInt_inj.mp (h3.trans (by decide)); subst this; exact ⟨rfl, rfl⟩
    · have : x = 1 := Int32.toInt_inj.mp (h3.trans (by decide)); subst this; exact ⟨rfl, rfl⟩
  · obtain ⟨x, rfl, _⟩ := tv_long hv (by simpa using h); exact ⟨rfl, rfl⟩
  · rcases href (by simpa using h) with rfl | ⟨a, rfl⟩ <;> exact ⟨rfl, rfl⟩
  · rcases href (by simpa using h) with rfl | ⟨a, rfl⟩ <;> exact ⟨rfl, rfl⟩
  · cases h
def fc_of (ci k : Nat) (y : sy_T) (d : Nat) (g : rg_T) : Bool := decide (g.1 = ci + 10) && (match g.2.2.2.2[k]? with | some w => nm_le y d w | none => false)
def tr_put (G : List rg_T) (ci k : Nat) (ft : FieldType) (y : sy_T) : Option sy_T := match y.2.2.1 with
  | d :: a :: r => match y.1[a]?, y.1[d]? with
    | some t, some tv => if t.1 = 2 ∧ ft_ok ft tv = true ∧ rg_all G (fc_of ci k y d) t.2.2.2 = true then some (y.1, y.2.1, r, ((a, k), d) :: y.2.2.2.1.filter (fun q => !(q.1.2 == k)), y.2.2.2.2) else none
    | _, _ => none
  | _ => none
def pt_X (k : Nat) (ws w1 : va_W) (y : sy_T) (vs : List Value) : Prop := ∀ d a r, y.2.2.1 = d :: a :: r → ∃ (ad : Nat) (vd : Value) (q0 ci : Nat) (fs : List Value), vs[a]? = some (.ref ad) ∧ vs[d]? = some vd ∧ ws[q0]? = some (ad, .inr (ci, fs)) ∧ k < fs.length ∧ w1 = ws.set q0 (ad, .inr (ci, fs.set k vd))
theorem tr_put_ok {idx ci k : Nat} {ft : FieldType} (hr0 : pf_rule own idx ci k ft) (X : cx p s m args meth c cc nL ret own nm) (hK : va_K D classes (TY kA) s) (hP : va_P D classes ws H) (hD : va_D A ws) (hS : va_S A s.heap H locs) (hth : th_ok kA G ta ws) (hd : decode cc pc = .ok (.putfield idx, 3)) (h : tr_put G ci k ft y = some y')
    (kk : ∀ (H1 : Heap) (locs1 : List Loc) (w1 : va_W), va_P D classes w1 H1 → va_D A w1 → va_S A s.heap H1 locs1 → th_ok kA G ta w1 → (∀ mo : mo_T, (ci, k) ∈ mo.2.1 → kp mo ta ws w1) → sy_goX p l e R s m args below meth c H1 locs1 cells slots Q nL v0 ta w1 (pt_X k ws w1 y) (pc + 3) y') : sy_go p l e R s m args below meth c H locs cells slots Q nL v0 ta ws pc y := by
  intro vs ls st hp0 hy
  unfold tr_put at h
  have hs := hy.2.2.1
  split at h
  · rename_i d a r hst
    rw [hst] at hs
    split at h
    · rename_i t tv hta htd
      obtain ⟨va, vd, rest, rfl, ha, hd2, oa, od, hr⟩ := sy_two hy.1 hs hta htd
      split at h
      · rename_i hk
        obtain rfl := Option.some.inj h
        obtain ⟨ad, rg, rfl, h1, h2⟩ := tv_ref oa hk.1
        obtain ⟨g, g1, g2⟩ := rg_all_ok hk.2.2 h2
        obtain ⟨q0, e0, hq, hgo⟩ := th_at hth h1 g1
        simp only [fc_of, Bool.and_eq_true, decide_eq_true_eq] at g2
        obtain ⟨k0, k1⟩ := g2
        obtain ⟨f1, f2⟩ := ft_ok_fit (ta := ta) hk.2.1 od
        split at k1
        · rename_i w hw
          rcases hgo with ⟨z, _⟩ | ⟨z, _⟩ | ⟨_, z, _⟩ | ⟨z10, fs, rfl, hlen, hfs⟩
          · omega
          · omega
          · omega
          · have hci : g.1 - 10 = ci := by omega
            rw [hci] at hq
            have hkl : k < fs.length := by rw [hlen]; exact (List.getElem?_eq_some_iff.mp hw).1
            have hq0 := (List.getElem?_eq_some_iff.mp hq).1
            refine hr0 _ _ _ _ _ _ _ _ _ _ _ _ _ _ _ _ _ _ _ _ _ _ _ _ _ _ q0 ad fs vd X hK hP hD hS hq hkl f1 f2 hd (fun H1 locs1 p1 p2 p3 => kk H1 locs1 _ p1 p2 p3 ?_ (fun _ hm => kp_fld hq hm) vs ls rest hp0 ?_ ⟨hy.1, hy.2.1, hr, fun q hq2 => ?_, hy.2.2.2.2⟩)
            · refine th_set hD hth hq h1 g1 (Or.inr (Or.inr (Or.inr ⟨z10, fs.set k vd, by rw [hci], by rw [List.length_set]; exact hlen, fun j t' v' j1 j2 => ?_⟩)))
              by_cases ej : k = j
              · subst ej
                rw [hw] at j1
                rw [List.getElem?_set_self hkl] at j2
                rw [← Option.some.inj j1, ← Option.some.inj j2]
                exact nm_le_ok hy hd2 k1
              · rw [List.getElem?_set_ne ej] at j2
                exact hfs j t' v' j1 j2
            · intro d' a' r' hst'
              rw [hst] at hst'
              cases hst'
              exact ⟨ad, vd, q0, ci, fs, ha, hd2, hq, hkl, rfl⟩
            · rcases List.mem_cons.mp hq2 with rfl | hq2
              · refine ⟨ad, ci, fs.set k vd, vd, ha, List.mem_iff_getElem?.mpr ⟨q0, by rw [List.getElem?_set_self hq0]⟩, ?_, hd2⟩
                show (fs.set k vd)[k]? = some vd
                rw [List.getElem?_set_self hkl]
              · obtain ⟨q3, q4⟩ := List.mem_filter.mp hq2
                have q5 : ¬ k = q.1.2 := fun e => by simp [e] at q4
                obtain ⟨a2, ci2, fs2, v2, m1, m2, m3, m4⟩ := hy.2.2.2.1 q q3
                obtain ⟨j, hj⟩ := List.mem_iff_getElem?.mp m2
                by_cases ej : q0 = j
                · subst ej
                  rw [hq] at hj
                  have e9 := Option.some.inj hj
                  have e1 : ad = a2 := by injection e9
                  have e8 : ci = ci2 ∧ fs = fs2 := by injection e9 with _ e7; injection e7 with e6; injection e6 with e5 e4; exact ⟨e5, e4⟩
                  refine ⟨ad, ci, fs.set k vd, v2, by rw [e1]; exact m1, List.mem_iff_getElem?.mpr ⟨q0, by rw [List.getElem?_set_self hq0]⟩, ?_, m4⟩
                  rw [List.getElem?_set_ne q5, e8.2]; exact m3
                · refine ⟨a2, ci2, fs2, v2, m1, List.mem_iff_getElem?.mpr ⟨j, ?_⟩, m3, m4⟩
                  rw [List.getElem?_set_ne ej]; exact hj
        · cases k1
      · cases h
    · cases h
  · cases h
end M10
