section
variable {PQ : pq_T}
/-! divisions and longs, with what they tell -/
theorem td_i64 {x y : Int64} (hy : 1 ≤ y.toInt) : (x / y).toInt = x.toInt.tdiv y.toInt := by
  rw [Int64.toInt_div]
  have h := td_in (a := x.toInt) hy
  have h1 := x.le_toInt
  have h2 := x.toInt_lt
  unfold mn2 mx2 at h
  refine Int.bmod_eq_of_le_mul_two ?_ ?_
  · show -(18446744073709551616 : Int) ≤ _
    split at h <;> omega
  · show _ < (18446744073709551616 : Int)
    split at h <;> omega
def ld_div (t u : tv_T) : tv_T := if 0 ≤ t.2.1 then (1, 0, t.2.2.1 / u.2.1, []) else (1, mn2 t.2.1 0, mx2 t.2.2.1 0, [])
theorem ld_div_ok {ta : Nat → Option Nat} {t u : tv_T} {x y : Int64} (hu : 1 ≤ u.2.1) (h1 : t.2.1 ≤ x.toInt) (h2 : x.toInt ≤ t.2.2.1) (h3 : u.2.1 ≤ y.toInt) (h4 : y.toInt ≤ u.2.2.1) : tv_ok ta (ld_div t u) (.long (x / y)) := by
  have e := td_i64 (x := x) (y := y) (by omega)
  have h := td_in (a := x.toInt) (b := y.toInt) (by omega)
  unfold ld_div
  split
  · rename_i h0
    have e2 : x.toInt.tdiv y.toInt = x.toInt / y.toInt := Int.tdiv_eq_ediv_of_nonneg (by omega)
    have q0 : 0 ≤ x.toInt / y.toInt := Int.ediv_nonneg (by omega) (by omega)
    have q1 : x.toInt / y.toInt ≤ t.2.2.1 / u.2.1 := by
      refine Int.le_ediv_of_mul_le (by omega) ?_
      have r1 : x.toInt / y.toInt * y.toInt ≤ x.toInt := Int.ediv_mul_le _ (by omega)
      have r2 : x.toInt / y.toInt * u.2.1 ≤ x.toInt / y.toInt * y.toInt := Int.mul_le_mul_of_nonneg_left (by omega) q0
      omega
    exact Or.inr (Or.inl ⟨rfl, _, rfl, by show (0 : Int) ≤ _; omega, by show _ ≤ t.2.2.1 / u.2.1; omega⟩)
  · refine Or.inr (Or.inl ⟨rfl, _, rfl, ?_, ?_⟩)
    · show mn2 t.2.1 0 ≤ (x / y).toInt
      have := h.1
      unfold mn2 at this ⊢
      split at this <;> split <;> omega
    · show (x / y).toInt ≤ mx2 t.2.2.1 0
      have := h.2
      unfold mx2 at this ⊢
      split at this <;> split <;> omega
theorem lsh1 (x : Int64) : (x >>> ((1 : Int32).toInt64 &&& 63)).toInt = x.toInt / 2 := by
  have e : (1 : Int32).toInt64 &&& 63 = 1 := by decide
  rw [e]
  have e2 : (x >>> (1 : Int64)).toBitVec = x.toBitVec.sshiftRight 1 := rfl
  have e3 : (x >>> (1 : Int64)).toInt = (x.toBitVec.sshiftRight 1).toInt := by rw [← e2]; rfl
  rw [e3, BitVec.toInt_sshiftRight, Int.shiftRight_eq_div_pow]
  rfl
/-- a divisor that is not 0: by its kind, or by a fact -/
def dv_z (fs : List fc_T) (b : Nat) (u : tv_T) : Bool := decide (1 ≤ u.2.1) || decide (u.2.2.1 ≤ -1) || (fc_now fs).contains (8, [b], [1])
def tr_dw (i : ClassFile.Instr) (len : Nat) (y : sy_T) (fs : List fc_T) : Option (sy_T × List fc_T) := match y.2.2.1 with
  | b :: a :: r => match y.1[a]?, y.1[b]? with
    | some t, some u => if len = 1 ∧ dv_z fs b u = true then (match i with
      | .idiv => if t.1 = 0 ∧ u.1 = 0 then (if 1 ≤ u.2.1 then some (sy_push y (iv_div t u) r, if u.2.1 = u.2.2.1 ∧ 0 ≤ t.2.1 then [(11, [y.1.length, a], [u.2.1])] else [(4, [y.1.length, a, b], [])]) else some (sy_push y iv_top r, [])) else none
      | .irem => if t.1 = 0 ∧ u.1 = 0 then (if 1 ≤ u.2.1 then some (if u.2.1 = u.2.2.1 then sy_push y (iv_rem t u) r else sy_off (sy_push y (iv_rem t u) r) y.1.length b (-4294967295) (-1), if u.2.1 = u.2.2.1 ∧ 0 ≤ t.2.1 then [(12, [y.1.length, a], [u.2.1])] else [(5, [y.1.length, a, b], [])]) else some (sy_push y iv_top r, [])) else none
      | .ldiv => if t.1 = 1 ∧ u.1 = 1 then (if 1 ≤ u.2.1 then some (sy_push y (ld_div t u) r, [(4, [y.1.length, a, b], [])]) else some (sy_push y lv_top r, [])) else none
      | .lrem => if t.1 = 1 ∧ u.1 = 1 then some (sy_push y lv_top r, []) else none
      | .lshr => if t.1 = 1 ∧ u.1 = 0 ∧ u.2.1 = 1 ∧ u.2.2.1 = 1 then some (sy_push y (1, t.2.1 / 2, t.2.2.1 / 2, []) r, [(11, [y.1.length, a], [2])]) else none
      | _ => none) else none
    | _, _ => none
  | _ => none
def lm_in (t u : tv_T) (lo hi : Int) : Bool := decide (t.1 = 1) && decide (u.1 = 1) && decide (-9223372036854775808 ≤ lo) && decide (hi ≤ 9223372036854775807)
def fc_opl (i : ClassFile.Instr) (y : sy_T) : List fc_T := match y.2.2.1 with
  | b :: a :: _ => match y.1[a]?, y.1[b]? with
    | some t, some u => match i with
      | .ladd => if lm_in t u (t.2.1 + u.2.1) (t.2.2.1 + u.2.2.1) = true then [(1, [y.1.length, a, b], [])] else []
      | .lsub => if lm_in t u (t.2.1 - u.2.2.1) (t.2.2.1 - u.2.1) = true then [(2, [y.1.length, a, b], [])] else []
      | .lmul => if lm_in t u (mn2 (mn2 (t.2.1 * u.2.1) (t.2.1 * u.2.2.1)) (mn2 (t.2.2.1 * u.2.1) (t.2.2.1 * u.2.2.1))) (mx2 (mx2 (t.2.1 * u.2.1) (t.2.1 * u.2.2.1)) (mx2 (t.2.2.1 * u.2.1) (t.2.2.1 * u.2.2.1))) = true then [(3, [y.1.length, a, b], [])] else []
      | _ => []
    | _, _ => []
  | _ => []
section M12d
variable {p : Program} {l : Launch} {e : Env} {R : Room} {s : State} {m : MethodId} {args : Array Value} {below : List Frame} {meth : Method} {c : Code} {H : Heap} {locs : List Loc} {cells slots : Nat} {Q : State → Prop} {cc : ByteArray} {pc : Nat} {i : ClassFile.Instr} {len nL : Nat} {v0 : List Value} {ta : Nat → Option Nat} {ws : va_W} {y y_zq : sy_T} {fs : List fc_T}
theorem nn_new {vs : List Value} {v : Value} {n : Nat} (h : vs.length = n) : (vs ++ [v])[n]? = some v := by rw [← h, List.getElem?_append_right (Nat.le_refl _), Nat.sub_self]; rfl
theorem fc_3 {c n a b : Nat} {vs : List Value} {ws : va_W} (hn : n < vs.length) (ha : a < vs.length) (hb : b < vs.length) (h : fc_m PQ c [n_v vs n, n_v vs a, n_v vs b] [] ws) (hc : c < 100) : ∀ f ∈ [((c, [n, a, b], []) : fc_T)], f.1 < 100 ∧ fc_1 PQ f ws vs := fun f hf => by
  rw [List.mem_singleton.mp hf]
  refine ⟨hc, fun q hq => ?_, h⟩
  simp only [List.mem_cons, List.not_mem_nil, or_false] at hq
  rcases hq with rfl | rfl | rfl <;> assumption
theorem fc_2 {c n a : Nat} {d : Int} {vs : List Value} {ws : va_W} (hn : n < vs.length) (ha : a < vs.length) (h : fc_m PQ c [n_v vs n, n_v vs a] [d] ws) (hc : c < 100) : ∀ f ∈ [((c, [n, a], [d]) : fc_T)], f.1 < 100 ∧ fc_1 PQ f ws vs := fun f hf => by
  rw [List.mem_singleton.mp hf]
  refine ⟨hc, fun q hq => ?_, h⟩
  simp only [List.mem_cons, List.not_mem_nil, or_false] at hq
  rcases hq with rfl | rfl <;> assumption
theorem dv_ne {vs : List Value} {b : Nat} {u : tv_T} {v : Value} (h : dv_z fs b u = true) (hf : fc_ok PQ fs ta ws vs) (hb : vs[b]? = some v) (h1 : u.2.1 ≤ v_iv v) (h2 : v_iv v ≤ u.2.2.1) : v_iv v ≠ 0 := by
  unfold dv_z at h
  simp only [Bool.or_eq_true, decide_eq_true_eq] at h
  rcases h with (h | h) | h
  · omega
  · omega
  · have := fc_now_ok hf _ (List.contains_iff_mem.mp h)
    have h3 : cq 1 (v_iv (n_v vs b)) 0 := this.2.2
    rw [n_v_of hb] at h3
    exact h3
theorem tr_dw_ok {z : sy_T × List fc_T} (hx : p.tables.exec = Jvm.exec) (hb : c.code = cc) (hd : decode cc pc = .ok (i, len)) (h : tr_dw i len y fs = some z) {vs : List Value} {ls : Array Slot} {st : List Value} (hy : sy_ok ta ws vs ls nL st y) (hf : fc_ok PQ fs ta ws vs)
    (k : ∀ vs_zq ls_zq st_zq, vs <+: vs_zq → sy_ok ta ws vs_zq ls_zq nL st_zq z.1 → (∀ f ∈ z.2, f.1 < 100 ∧ fc_1 PQ f ws vs_zq) → W p l e R s m args below meth c H locs cells slots Q (F0 m (pc + len) ls_zq st_zq)) : W p l e R s m args below meth c H locs cells slots Q (F0 m pc ls st) := by
  unfold tr_dw at h
  have hs := hy.2.2.1
  have hnil : ∀ (vs_zq : List Value), ∀ f ∈ ([] : List fc_T), f.1 < 100 ∧ fc_1 PQ f ws vs_zq := fun _ f hf => absurd hf List.not_mem_nil
  split at h
  · rename_i b a r hst
    rw [hst] at hs
    split at h
    · rename_i t u hta hub
      obtain ⟨va, vb, rest, rfl, ha, hb2, oa, ob, hr⟩ := sy_two hy.1 hs hta hub
      have la := (List.getElem?_eq_some_iff.mp ha).1
      have lb := (List.getElem?_eq_some_iff.mp hb2).1
      split at h
      · rename_i hg
        obtain ⟨rfl, hz⟩ := hg
        have nv : ∀ (v : Value) (n : Nat) (w : Value), vs[n]? = some w → n_v (vs ++ [v]) n = w := fun v n w hw => n_v_of (by rw [List.getElem?_append_left (List.getElem?_eq_some_iff.mp hw).1]; exact hw)
        have nw : ∀ v : Value, n_v (vs ++ [v]) y.1.length = v := fun v => n_v_of (nn_new hy.1.1)
        have ll : ∀ v : Value, y.1.length < (vs ++ [v]).length ∧ a < (vs ++ [v]).length ∧ b < (vs ++ [v]).length := fun v => by
          have := hy.1.1
          rw [List.length_append, List.length_singleton]; omega
        split at h
        · split at h
          · rename_i hk
            obtain ⟨x, rfl, x1, x2⟩ := tv_int oa hk.1
            obtain ⟨w, rfl, w1, w2⟩ := tv_int ob hk.2
            have hne : v_iv (.int w) ≠ 0 := dv_ne hz hf hb2 w1 w2
            have hw0 : ¬ w = 0 := fun q => hne (by rw [q]; rfl)
            split at h
            · rename_i h1
              obtain rfl := Option.some.inj h
              refine lv_idiv hx hb hd hw0 (k (vs ++ [.int (x / w)]) ls _ (List.prefix_append _ _) (sy_pushed hy hr (iv_div_ok h1 x1 x2 w1 w2)) ?_)
              show ∀ f ∈ (if u.2.1 = u.2.2.1 ∧ 0 ≤ t.2.1 then [((11, [y.1.length, a], [u.2.1]) : fc_T)] else [(4, [y.1.length, a, b], [])]), _
              split
              · rename_i hq
                refine fc_2 (ll _).1 (ll _).2.1 ?_ (by decide)
                rw [nw, nv _ _ _ ha]
                have e0 := td_i32 (x := x) (y := w) (by omega)
                have e1 : x.toInt.tdiv w.toInt = x.toInt / w.toInt := Int.tdiv_eq_ediv_of_nonneg (by omega)
                show (x / w).toInt = x.toInt / u.2.1
                rw [e0, e1, show w.toInt = u.2.1 by omega]
              · refine fc_3 (ll _).1 (ll _).2.1 (ll _).2.2 ?_ (by decide)
                rw [nw, nv _ _ _ ha, nv _ _ _ hb2]
                exact td_i32 (by omega)
            · obtain rfl := Option.some.inj h
              exact lv_idiv hx hb hd hw0 (k (vs ++ [.int (x / w)]) ls _ (List.prefix_append _ _) (sy_pushed hy hr (iv_any _)) (hnil _))
          · cases h
        · split at h
          · rename_i hk
            obtain ⟨x, rfl, x1, x2⟩ := tv_int oa hk.1
            obtain ⟨w, rfl, w1, w2⟩ := tv_int ob hk.2
            have hne : v_iv (.int w) ≠ 0 := dv_ne hz hf hb2 w1 w2
            have hw0 : ¬ w = 0 := fun q => hne (by rw [q]; rfl)
            split at h
            · rename_i h1
              obtain rfl := Option.some.inj h
              have hpu := sy_pushed hy hr (iv_rem_ok (ta := ta) h1 x1 x2 w1 w2)
              have z1_zq : 1 ≤ w.toInt := by omega
              refine lv_irem hx hb hd hw0 (k (vs ++ [.int (x - x / w * w)]) ls _ (List.prefix_append _ _) ?_ ?_)
              · show sy_ok ta ws _ ls nL _ (if u.2.1 = u.2.2.1 then sy_push y (iv_rem t u) r else sy_off (sy_push y (iv_rem t u) r) y.1.length b (-4294967295) (-1))
                split
                · exact hpu
                · refine sy_off_ok hpu ⟨x - x / w * w, w, nn_new hy.1.1, by rw [List.getElem?_append_left lb]; exact hb2, ?_, ?_⟩
                  · have e1 := tm_i32 (x := x) z1_zq
                    have a1 := (x - x / w * w).le_toInt
                    have a2 := w.toInt_lt
                    show w.toInt + -4294967295 ≤ (x - x / w * w).toInt
                    omega
                  · have e1 := tm_i32 (x := x) z1_zq
                    have a1 := Int.tmod_lt_of_pos x.toInt (by omega : 0 < w.toInt)
                    show (x - x / w * w).toInt ≤ w.toInt + -1
                    omega
              · show ∀ f ∈ (if u.2.1 = u.2.2.1 ∧ 0 ≤ t.2.1 then [((12, [y.1.length, a], [u.2.1]) : fc_T)] else [(5, [y.1.length, a, b], [])]), _
                split
                · rename_i hq
                  refine fc_2 (ll _).1 (ll _).2.1 ?_ (by decide)
                  rw [nw, nv _ _ _ ha]
                  have e0 := tm_i32 (x := x) z1_zq
                  have e1 : x.toInt.tmod w.toInt = x.toInt % w.toInt := Int.tmod_eq_emod_of_nonneg (by omega)
                  show (x - x / w * w).toInt = x.toInt % u.2.1
                  rw [e0, e1, show w.toInt = u.2.1 by omega]
                · refine fc_3 (ll _).1 (ll _).2.1 (ll _).2.2 ?_ (by decide)
                  rw [nw, nv _ _ _ ha, nv _ _ _ hb2]
                  exact tm_i32 z1_zq
            · obtain rfl := Option.some.inj h
              exact lv_irem hx hb hd hw0 (k (vs ++ [.int (x - x / w * w)]) ls _ (List.prefix_append _ _) (sy_pushed hy hr (iv_any _)) (hnil _))
          · cases h
        · split at h
          · rename_i hk
            obtain ⟨x, rfl, x1, x2⟩ := tv_long oa hk.1
            obtain ⟨w, rfl, w1, w2⟩ := tv_long ob hk.2
            have hne : v_iv (.long w) ≠ 0 := dv_ne hz hf hb2 w1 w2
            have hw0 : ¬ w = 0 := fun q => hne (by rw [q]; rfl)
            split at h
            · rename_i h1
              obtain rfl := Option.some.inj h
              refine lv_ldiv hx hb hd hw0 (k (vs ++ [.long (x / w)]) ls _ (List.prefix_append _ _) (sy_pushed hy hr (ld_div_ok h1 x1 x2 w1 w2)) ?_)
              refine fc_3 (ll _).1 (ll _).2.1 (ll _).2.2 ?_ (by decide)
              rw [nw, nv _ _ _ ha, nv _ _ _ hb2]
              exact td_i64 (by omega)
            · obtain rfl := Option.some.inj h
              exact lv_ldiv hx hb hd hw0 (k (vs ++ [.long (x / w)]) ls _ (List.prefix_append _ _) (sy_pushed hy hr (lv_any _)) (hnil _))
          · cases h
        · split at h
          · rename_i hk
            obtain ⟨x, rfl, x1, x2⟩ := tv_long oa hk.1
            obtain ⟨w, rfl, w1, w2⟩ := tv_long ob hk.2
            have hne : v_iv (.long w) ≠ 0 := dv_ne hz hf hb2 w1 w2
            have hw0 : ¬ w = 0 := fun q => hne (by rw [q]; rfl)
            obtain rfl := Option.some.inj h
            exact lv_lrem hx hb hd hw0 (k _ ls _ (List.prefix_append _ _) (sy_pushed hy hr (lv_any _)) (hnil _))
          · cases h
        · split at h
          · rename_i hk
            obtain ⟨x, rfl, x1, x2⟩ := tv_long oa hk.1
            obtain ⟨w, rfl, w1, w2⟩ := tv_int ob hk.2.1
            have ew : w = 1 := Int32.toInt_inj.mp (by show w.toInt = 1; have := hk.2.2; omega)
            subst ew
            obtain rfl := Option.some.inj h
            have e1 := lsh1 x
            refine lv_lshr hx hb hd rfl (k (vs ++ [.long (x >>> ((1 : Int32).toInt64 &&& 63))]) ls _ (List.prefix_append _ _) (sy_pushed hy hr (Or.inr (Or.inl ⟨rfl, _, rfl, by show t.2.1 / 2 ≤ _; omega, by show _ ≤ t.2.2.1 / 2; omega⟩))) ?_)
            refine fc_2 (ll _).1 (ll _).2.1 ?_ (by decide)
            rw [nw, nv _ _ _ ha]
            exact e1
          · cases h
        · cases h
      · cases h
    · cases h
  · cases h
/-- what two longs make -/
def opl_X (i : ClassFile.Instr) (y : sy_T) (vs : List Value) : Prop := ∀ f g, op_l i = some (f, g) → ∀ a b r, y.2.2.1 = b :: a :: r → ∃ x z : Int64, vs[a]? = some (.long x) ∧ vs[b]? = some (.long z) ∧ vs[y.1.length]? = some (.long (f x z))
theorem tr_opl_okX (hx : p.tables.exec = Jvm.exec) (hb : c.code = cc) (hd : decode cc pc = .ok (i, len)) (h : tr_opl i len y = some y_zq) (k : sy_goX p l e R s m args below meth c H locs cells slots Q nL v0 ta ws (opl_X i y) (pc + len) y_zq) : sy_go p l e R s m args below meth c H locs cells slots Q nL v0 ta ws pc y := by
  intro vs ls st hp0 hy
  unfold tr_opl at h
  have hs := hy.2.2.1
  split at h
  · rename_i f g hop
    split at h
    · rename_i b a r hst
      rw [hst] at hs
      split at h
      · rename_i t u hta hub
        split at h
        · rename_i hk
          obtain rfl := Option.some.inj h
          obtain ⟨va, vb, rest, rfl, ha, hb2, oa, ob, hr⟩ := sy_two hy.1 hs hta hub
          obtain ⟨x, rfl, x1, x2⟩ := tv_long oa hk.1
          obtain ⟨z, rfl, z1, z2⟩ := tv_long ob hk.2.1
          obtain rfl := hk.2.2
          refine op_l_go hx hb hd hop (k (vs ++ [.long (f x z)]) ls _ (pre_app hp0) ?_ (sy_pushed hy hr (op_l_ty (ta := ta) hop x1 x2 z1 z2)))
          intro f_zq g_zq hop_zq a_zq b_zq r_zq hst_zq
          rw [hop] at hop_zq
          rw [hst] at hst_zq
          cases hop_zq
          cases hst_zq
          exact ⟨x, z, by rw [List.getElem?_append_left (List.getElem?_eq_some_iff.mp ha).1]; exact ha, by rw [List.getElem?_append_left (List.getElem?_eq_some_iff.mp hb2).1]; exact hb2, nn_new hy.1.1⟩
        · cases h
      · cases h
    · cases h
  · cases h
theorem fc_opl_ok {vs vs_zq : List Value} {ls : Array Slot} {st : List Value} (hy : sy_ok ta ws vs ls nL st y) (hp : vs <+: vs_zq) (hX : opl_X i y vs_zq) : ∀ f ∈ fc_opl i y, f.1 < 100 ∧ ∀ w, fc_1 PQ f w vs_zq := by
  intro f hf
  unfold fc_opl at hf
  split at hf
  · rename_i b a r hst
    split at hf
    · rename_i t u hta hub
      have key : ∀ (g : Int64 → Int64 → Int64) (gt : tv_T → tv_T → tv_T), op_l i = some (g, gt) → t.1 = 1 → u.1 = 1 → ∃ x z : Int64, n_v vs_zq a = .long x ∧ n_v vs_zq b = .long z ∧ n_v vs_zq y.1.length = .long (g x z) ∧ (t.2.1 ≤ x.toInt ∧ x.toInt ≤ t.2.2.1) ∧ (u.2.1 ≤ z.toInt ∧ z.toInt ≤ u.2.2.1) ∧ (∀ n ∈ [y.1.length, a, b], n < vs_zq.length) := fun g gt hop ht1 hu1 => by
        obtain ⟨x, z, q1, q2, q3⟩ := hX g gt hop a b r hst
        have l1 : a < vs.length := by rw [hy.1.1]; exact (List.getElem?_eq_some_iff.mp hta).1
        have l2 : b < vs.length := by rw [hy.1.1]; exact (List.getElem?_eq_some_iff.mp hub).1
        have e1 : vs[a]? = some (.long x) := by obtain ⟨w, rfl⟩ := hp; rw [List.getElem?_append_left l1] at q1; exact q1
        have e2 : vs[b]? = some (.long z) := by obtain ⟨w, rfl⟩ := hp; rw [List.getElem?_append_left l2] at q2; exact q2
        obtain ⟨x_zq, ex, b1, b2⟩ := tv_long (hy.1.2 a t _ hta e1) ht1
        obtain ⟨z_zq, ez, c1, c2⟩ := tv_long (hy.1.2 b u _ hub e2) hu1
        cases ex
        cases ez
        refine ⟨x, z, n_v_of q1, n_v_of q2, n_v_of q3, ⟨b1, b2⟩, ⟨c1, c2⟩, fun n hn => ?_⟩
        simp only [List.mem_cons, List.not_mem_nil, or_false] at hn
        rcases hn with rfl | rfl | rfl
        · exact (List.getElem?_eq_some_iff.mp q3).1
        · exact (List.getElem?_eq_some_iff.mp q1).1
        · exact (List.getElem?_eq_some_iff.mp q2).1
      split at hf
      · split at hf
        · rename_i hc
          unfold lm_in at hc
          simp only [Bool.and_eq_true, decide_eq_true_eq] at hc
          obtain ⟨x, z, q1, q2, q3, q4, q5, q6⟩ := key _ _ rfl hc.1.1.1 hc.1.1.2
          rw [List.mem_singleton.mp hf]
          refine ⟨by show (1 : Nat) < 100; decide, fun w => ⟨q6, ?_⟩⟩
          show v_iv (n_v vs_zq y.1.length) = v_iv (n_v vs_zq a) + v_iv (n_v vs_zq b)
          rw [q1, q2, q3]
          show (x + z).toInt = x.toInt + z.toInt
          rw [Int64.toInt_add]
          exact lv_bm (lo := t.2.1 + u.2.1) (hi := t.2.2.1 + u.2.2.1) (by omega) (by omega) hc.1.2 hc.2
        · cases hf
      · split at hf
        · rename_i hc
          unfold lm_in at hc
          simp only [Bool.and_eq_true, decide_eq_true_eq] at hc
          obtain ⟨x, z, q1, q2, q3, q4, q5, q6⟩ := key _ _ rfl hc.1.1.1 hc.1.1.2
          rw [List.mem_singleton.mp hf]
          refine ⟨by show (2 : Nat) < 100; decide, fun w => ⟨q6, ?_⟩⟩
          show v_iv (n_v vs_zq y.1.length) = v_iv (n_v vs_zq a) - v_iv (n_v vs_zq b)
          rw [q1, q2, q3]
          show (x - z).toInt = x.toInt - z.toInt
          rw [Int64.toInt_sub]
          exact lv_bm (lo := t.2.1 - u.2.2.1) (hi := t.2.2.1 - u.2.1) (by omega) (by omega) hc.1.2 hc.2
        · cases hf
      · split at hf
        · rename_i hc
          unfold lm_in at hc
          simp only [Bool.and_eq_true, decide_eq_true_eq] at hc
          obtain ⟨x, z, q1, q2, q3, q4, q5, q6⟩ := key _ _ rfl hc.1.1.1 hc.1.1.2
          rw [List.mem_singleton.mp hf]
          refine ⟨by show (3 : Nat) < 100; decide, fun w => ⟨q6, ?_⟩⟩
          show v_iv (n_v vs_zq y.1.length) = v_iv (n_v vs_zq a) * v_iv (n_v vs_zq b)
          rw [q1, q2, q3]
          show (x * z).toInt = x.toInt * z.toInt
          rw [Int64.toInt_mul]
          exact lv_bm (mul_iv q4.1 q4.2 q5.1 q5.2).1 (mul_iv q4.1 q4.2 q5.1 q5.2).2 hc.1.2 hc.2
        · cases hf
      · cases hf
    · cases hf
  · cases hf
end M12d
end
section
variable {PQ : pq_T}
/-! one step of the check -/
def tr1 (nL : Nat) (i : ClassFile.Instr) (len : Nat) (y : sy_T) : Option sy_T := match tr_pk i len y with
  | some z => some z
  | none => match tr_ld i len y with
    | some z => some z
    | none => match tr_st nL i len y with
      | some z => some z
      | none => match tr_opi i len y with
        | some z => some z
        | none => match tr_opl i len y with
          | some z => some z
          | none => match tr_dv i len y with
            | some z => some z
            | none => match tr_un i len y with
              | some z => some z
              | none => tr_inc nL i len y
abbrev ft_L : Type := List (Nat × Nat × Nat)
abbrev pt_L : Type := List (Nat × Nat × Nat × FieldType)
abbrev ct_L : Type := List (Nat × Nat × en_T)
abbrev kt_L : Type := List (Nat × Nat × Value × tv_T)
def op_of (k idx : Nat) : ClassFile.Instr := match k with
  | 0 => .invokestatic idx
  | 1 => .invokevirtual idx
  | _ => .invokespecial idx
/-- what looks at things that never change: a pure call of its own -/
def ro_op (k idx : Nat) : ClassFile.Instr × Nat := match k with
  | 0 => (.ldc idx, 2)
  | 1 => (.ldc_w idx, 3)
  | 2 => (.getstatic idx, 3)
  | 3 => (.getfield idx, 3)
  | 4 => (.arraylength, 1)
  | 5 => (.baload, 1)
  | _ => (.iaload, 1)
def opl (k idx : Nat) : ClassFile.Instr × Nat := if k < 1000000 then (op_of (k % 3) idx, 3) else ro_op (k - 1000000) idx
def ro_k (i : ClassFile.Instr) : Nat × Nat := match i with
  | .ldc idx => (0, idx)
  | .ldc_w idx => (1, idx)
  | .getstatic idx => (2, idx)
  | .getfield idx => (3, idx)
  | .arraylength => (4, 0)
  | .baload => (5, 0)
  | .iaload => (6, 0)
  | _ => (9, 0)
def kt_op (k idx : Nat) : ClassFile.Instr × Nat := match k with
  | 0 => (.ldc idx, 2)
  | 1 => (.ldc_w idx, 3)
  | _ => (.ldc2_w idx, 3)
abbrev nx_T : Type := Nat × sy_T × Nat × Nat × List fc_T
/-! facts are written down where there is one already -/
def recs (fs L : List fc_T) : List fc_T := if fs.isEmpty then [] else L ++ fs
def ml_in (t u : tv_T) : Bool := decide (-2147483648 ≤ mn2 (mn2 (t.2.1 * u.2.1) (t.2.1 * u.2.2.1)) (mn2 (t.2.2.1 * u.2.1) (t.2.2.1 * u.2.2.1))) && decide (mx2 (mx2 (t.2.1 * u.2.1) (t.2.1 * u.2.2.1)) (mx2 (t.2.2.1 * u.2.1) (t.2.2.1 * u.2.2.1)) ≤ 2147483647)
def fc_op (i : ClassFile.Instr) (y : sy_T) : List fc_T := match y.2.2.1 with
  | b :: a :: _ => (match y.1[a]?, y.1[b]? with
    | some t, some u => if t.1 = 0 ∧ u.1 = 0 then (match i with
      | .iadd => if ad_in t u then [(1, [y.1.length, a, b], [])] else []
      | .isub => if sb_in t u then [(2, [y.1.length, a, b], [])] else []
      | .imul => if ml_in t u then [(3, [y.1.length, a, b], [])] else []
      | .ishr => if u.2.1 = u.2.2.1 ∧ 0 ≤ u.2.1 ∧ u.2.1 ≤ 31 then [(11, [y.1.length, a], [((2 ^ u.2.1.toNat : Nat) : Int)])] else []
      | .ishl => if u.2.1 = u.2.2.1 ∧ 0 ≤ u.2.1 ∧ u.2.1 ≤ 30 ∧ 0 ≤ t.2.1 ∧ t.2.2.1 * ((2 ^ u.2.1.toNat : Nat) : Int) ≤ 2147483647 then [(15, [y.1.length, a], [((2 ^ u.2.1.toNat : Nat) : Int)])] else []
      | .iand => if u.2.1 = u.2.2.1 ∧ 0 ≤ u.2.1 ∧ 0 ≤ t.2.1 ∧ u.2.1.toNat + 1 = 2 ^ (u.2.1.toNat + 1).log2 then [(12, [y.1.length, a], [u.2.1 + 1])] else []
      | .ior => if 0 ≤ t.2.1 ∧ 0 ≤ u.2.1 then [(13, [y.1.length, a, b], [])] else []
      | _ => []) else []
    | _, _ => [])
  | _ => []
/-- the same, by bits -/
def fc_bit (i : ClassFile.Instr) (y : sy_T) : List fc_T := match y.2.2.1 with
  | b :: a :: _ => (match y.1[a]?, y.1[b]? with
    | some t, some u => if t.1 = 0 ∧ u.1 = 0 then (match i with
      | .iand => [(16, [y.1.length, a, b], [0])]
      | .ior => [(16, [y.1.length, a, b], [1])]
      | .ixor => [(16, [y.1.length, a, b], [2])]
      | .ishl => if 0 ≤ u.2.1 ∧ u.2.2.1 ≤ 31 then [(16, [y.1.length, a, b], [3])] else []
      | .ishr => if 0 ≤ u.2.1 ∧ u.2.2.1 ≤ 31 ∧ 0 ≤ t.2.1 then [(16, [y.1.length, a, b], [4])] else if 0 ≤ u.2.1 ∧ u.2.2.1 ≤ 31 ∧ u.2.1 ≠ u.2.2.1 then [(19, [y.1.length, a, b], [])] else []
      | .iushr => if 0 ≤ u.2.1 ∧ u.2.2.1 ≤ 31 then [(16, [y.1.length, a, b], [4])] else []
      | .imul => if ml_in t u then [] else [(16, [y.1.length, a, b], [5])]
      | _ => []) else []
    | _, _ => [])
  | _ => []
def fc_cv (i : ClassFile.Instr) (y : sy_T) : List fc_T := match un_r i, y.2.2.1 with
  | some q, a :: _ => (match y.1[a]? with
    | some t => if (t.1 = 0 ∨ t.1 = 1) ∧ q.1 ≤ t.2.1 ∧ t.2.2.1 ≤ q.2.1 then (if q.2.2 = 1 then [(22, [y.1.length, a], [])] else [(15, [y.1.length, a], [q.2.2])]) else (match i with
      | .i2b => if t.1 = 0 then [(17, [y.1.length, a], [])] else []
      | _ => [])
    | none => [])
  | _, _ => []
def fc_inc (i : ClassFile.Instr) (y : sy_T) : List fc_T := match i with
  | .iinc j n => (match sy_find y.2.1 j with
    | some a => (match y.1[a]? with
      | some t => if t.1 = 0 ∧ of_in (Int32.ofInt n).toInt t = true then [(6, [y.1.length, a], [(Int32.ofInt n).toInt])] else []
      | none => [])
    | none => [])
  | _ => []
def fc_ald (i : ClassFile.Instr) (y : sy_T) : List fc_T := match i with
  | .aaload => (match y.2.2.1 with
    | b :: a :: _ => [(14, [y.1.length, a, b], [])]
    | _ => [])
  | _ => (match y.2.2.1 with
    | b :: a :: _ => [(10, [y.1.length, a, b], [])]
    | _ => [])
def fc_get (k : Nat) (y z : sy_T) : List fc_T := match y.2.2.1, z.2.2.1 with
  | a :: _, n :: _ => if sy_mfind z a k = some n then [(9, [n, a], [(k : Int)])] else []
  | _, _ => []
def fc_ast (wd : Bool) (i : ClassFile.Instr) (y : sy_T) : fc_T := match y.2.2.1 with
  | d :: b :: a :: _ => (match i with
    | .bastore => (match y.1[d]? with
      | some t => if t.1 = 0 ∧ ((0 ≤ t.2.1 ∧ t.2.2.1 ≤ 1) ∨ (wd = true ∧ -128 ≤ t.2.1 ∧ t.2.2.1 ≤ 127)) then (100, [a, b, d], []) else (103, [a], [])
      | none => (103, [a], []))
    | _ => (100, [a, b, d], []))
  | _ => (104, [], [])
def fc_put (k : Nat) (y : sy_T) : fc_T := match y.2.2.1 with
  | d :: a :: _ => (101, [a, d], [(k : Int)])
  | _ => (104, [], [])
def stp (fs : List fc_T) (f : fc_T) : List fc_T := if fs.isEmpty then [] else f :: fs
def nx_call (G : List rg_T) (en : en_T) (CT : ct_L) (k idx pc : Nat) (y : sy_T) (ce sl : Nat) (fs : List fc_T) : Option (List nx_T) := match CT.find? (fun q => decide (q.1 < 1000000) && (q.1 == k || (q.1 == k + 3 * (pc + 1) && ag_chk y q.2.2.1 (y.2.2.1.take q.2.2.1.length).reverse)) && q.2.1 == idx) with
  | some q => if q.2.2.2.2.2.1 + 1 ≤ en.2.2.2.1 ∧ ce + q.2.2.2.2.2.2.1 ≤ en.2.2.2.2.1 ∧ sl + q.2.2.2.2.2.2.2.1 ≤ en.2.2.2.2.2.1 ∧ (en.2.2.1 = true → q.2.2.2.2.1 = true) ∧ (q.2.2.2.2.2.2.2.2.2.2.2.1.all (fun w => en.2.2.2.2.2.2.2.2.2.1.contains w)) = true ∧ q.2.2.2.2.2.2.2.2.2.2.1 ||| en.2.2.2.2.2.2.2.2.1 = en.2.2.2.2.2.2.2.2.1 then (tr_call G q.2.2 y fs).map (fun L => L.map (fun z => (pc + 3, z.1, ce + q.2.2.2.2.2.2.1, sl + q.2.2.2.2.2.2.2.1, z.2))) else none
  | none => none
def nx_kt (KT : kt_L) (k idx pc : Nat) (y : sy_T) (ce sl : Nat) (fs : List fc_T) : Option (List nx_T) := match KT.find? (fun q => q.1 == k && q.2.1 == idx) with
  | some q => some [(pc + (kt_op k idx).2, sy_push y q.2.2.2 y.2.2.1, ce, sl, fs)]
  | none => none
/-- an object is made: new, dup and its constructor at once -/
def nx_obj (G : List rg_T) (en : en_T) (CT : ct_L) (pc : Nat) (y : sy_T) (ce sl : Nat) (fs : List fc_T) : Option (List nx_T) := match CT.find? (fun q => q.1 == 2000000 + pc) with
  | some q => if q.2.2.2.2.2.1 + 1 ≤ en.2.2.2.1 ∧ ce + q.2.2.2.2.2.2.1 ≤ en.2.2.2.2.1 ∧ sl + q.2.2.2.2.2.2.2.1 ≤ en.2.2.2.2.2.1 ∧ (en.2.2.1 = true → q.2.2.2.2.1 = true) ∧ (q.2.2.2.2.2.2.2.2.2.2.2.1.all (fun w => en.2.2.2.2.2.2.2.2.2.1.contains w)) = true ∧ q.2.2.2.2.2.2.2.2.2.2.1 ||| en.2.2.2.2.2.2.2.2.1 = en.2.2.2.2.2.2.2.2.1 ∧ y.2.2.1.length ≤ 3 then (tr_call G q.2.2 y fs).map (fun L => L.map (fun z => (pc + 7, z.1, ce + q.2.2.2.2.2.2.1, sl + q.2.2.2.2.2.2.2.1, z.2))) else none
  | none => none
def nx2 (en : en_T) (G : List rg_T) (FT : ft_L) (PT : pt_L) (CT : ct_L) (KT : kt_L) (NT : nt_L) (pc : Nat) (i : ClassFile.Instr) (len : Nat) (y : sy_T) (ce sl : Nat) (fs : List fc_T) : Option (List nx_T) := match i with
  | .getfield idx => if len = 3 then (match FT.find? (fun q => q.1 == idx) with
    | some q => (tr_get G q.2.1 q.2.2 y).map (fun z => [(pc + 3, z, ce, sl, recs fs (fc_get q.2.2 y z))])
    | none => none) else none
  | .putfield idx => if len = 3 ∧ en.2.2.1 = false then (match PT.find? (fun q => q.1 == idx) with
    | some q => if (put_rs y).all (fun rr => en.2.2.2.2.2.2.2.2.2.1.contains (rr, q.2.2.1)) = true then (tr_put G q.2.1 q.2.2.1 q.2.2.2 y).map (fun z => [(pc + 3, z, ce, sl, stp fs (fc_put q.2.2.1 y))]) else none
    | none => none) else none
  | .invokestatic idx => if len = 3 then nx_call G en CT 0 idx pc y ce sl fs else none
  | .invokevirtual idx => if len = 3 then nx_call G en CT 1 idx pc y ce sl fs else none
  | .invokespecial idx => if len = 3 then nx_call G en CT 2 idx pc y ce sl fs else none
  | .new _ => nx_obj G en CT pc y ce sl fs
  | .ldc idx => if len = 2 then nx_kt KT 0 idx pc y ce sl fs else none
  | .ldc_w idx => if len = 3 then nx_kt KT 1 idx pc y ce sl fs else none
  | .ldc2_w idx => if len = 3 then nx_kt KT 2 idx pc y ce sl fs else none
  | _ => if en.2.2.1 = false ∧ (ast_rs y).all (fun rr => en.2.2.2.2.2.2.2.2.1.testBit rr) = true then (tr_ast G i len y fs).map (fun z => [(pc + len, z, ce, sl, stp fs (fc_ast (ast_b G y) i y))]) else none
/-- which kind of instruction, so that the right rule is tried at once -/
def ic (i : ClassFile.Instr) : Nat := match i with
  | .iconst _ => 0
  | .bipush _ => 0
  | .sipush _ => 0
  | .lconst _ => 0
  | .aconst_null => 0
  | .iload_n _ => 1
  | .iload _ => 1
  | .lload_n _ => 1
  | .lload _ => 1
  | .aload_n _ => 1
  | .aload _ => 1
  | .istore_n _ => 2
  | .istore _ => 2
  | .lstore_n _ => 2
  | .lstore _ => 2
  | .astore_n _ => 2
  | .astore _ => 2
  | .iadd => 3
  | .isub => 3
  | .imul => 3
  | .iand => 3
  | .ior => 3
  | .ixor => 3
  | .ishl => 3
  | .ishr => 3
  | .iushr => 3
  | .ladd => 4
  | .lsub => 4
  | .lmul => 4
  | .land => 4
  | .lor => 4
  | .lxor => 4
  | .idiv => 5
  | .irem => 5
  | .ldiv => 5
  | .lrem => 5
  | .lcmp => 5
  | .lshl => 5
  | .lshr => 5
  | .lushr => 5
  | .ineg => 6
  | .lneg => 6
  | .i2l => 6
  | .l2i => 6
  | .i2b => 6
  | .i2c => 6
  | .dup => 6
  | .pop => 6
  | .iinc _ _ => 7
  | .goto _ => 8
  | .if_icmp _ _ => 8
  | .ifCond _ _ => 8
  | .ifnull _ => 8
  | .ifnonnull _ => 8
  | .tableswitch _ _ _ _ => 9
  | .iaload => 10
  | .baload => 10
  | .laload => 10
  | .aaload => 10
  | .arraylength => 11
  | .newarray _ => 14
  | .dup2 => 13
  | .pop2 => 13
  | _ => 12
def nxo (nL : Nat) (en : en_T) (G : List rg_T) (FT : ft_L) (PT : pt_L) (CT : ct_L) (KT : kt_L) (NT : nt_L) (pc : Nat) (i : ClassFile.Instr) (len : Nat) (y : sy_T) (ce sl : Nat) (fs : List fc_T) : Option (List nx_T) := match ic i with
  | 0 => (tr_pk i len y).map (fun z => [(pc + len, z, ce, sl, fs)])
  | 1 => (tr_ld i len y).map (fun z => [(pc + len, z, ce, sl, fs)])
  | 2 => (tr_st nL i len y).map (fun z => [(pc + len, z, ce, sl, fs)])
  | 3 => (tr_opi i len y).map (fun z => [(pc + len, z, ce, sl, recs fs (fc_op i y ++ fc_bit i y))])
  | 4 => (tr_opl i len y).map (fun z => [(pc + len, z, ce, sl, recs fs (fc_opl i y))])
  | 5 => (match tr_dw i len y fs with
    | some z => some [(pc + len, z.1, ce, sl, recs fs z.2)]
    | none => (tr_dv i len y).map (fun z => [(pc + len, z, ce, sl, fs)]))
  | 6 => (tr_un i len y).map (fun z => [(pc + len, z, ce, sl, recs fs (fc_cv i y))])
  | 7 => (tr_inc nL i len y).map (fun z => [(pc + len, z, ce, sl, recs fs (fc_inc i y))])
  | 8 => (br_next pc i len y).map (fun L => L.map (fun q => (q.1, q.2.1, ce, sl, recs fs q.2.2)))
  | 9 => (tr_sw pc i y).map (fun L => L.map (fun q => (q.1, q.2, ce, sl, fs)))
  | 10 => (tr_ald G i len y).map (fun z => [(pc + len, z, ce, sl, recs fs (fc_ald i y))])
  | 11 => (tr_len G i len y).map (fun z => [(pc + len, z, ce, sl, fs)])
  | 12 => nx2 en G FT PT CT KT NT pc i len y ce sl fs
  | 14 => (match tr_new G NT pc i len y with
    | some q => if en.2.2.1 = false ∧ ce + 1 ≤ en.2.2.2.2.1 ∧ sl + q.2 ≤ en.2.2.2.2.2.1 then some [(pc + len, q.1, ce + 1, sl + q.2, recs (stp fs (fc_call y.1.length (0, [], [], [], []))) [(20, [y.1.length, y.2.2.1.headD 0], [8, 0, 0, 0])])] else none
    | none => none)
  | _ => (match tr_dv i len y with
    | some z => some [(pc + len, z, ce, sl, fs)]
    | none => (tr_un i len y).map (fun z => [(pc + len, z, ce, sl, fs)]))
def nx_ro (en : en_T) (G : List rg_T) (CT : ct_L) (pc : Nat) (i : ClassFile.Instr) (y : sy_T) (ce sl : Nat) (fs : List fc_T) : Option (List nx_T) := match CT.find? (fun q => q.1 == 1000000 + (ro_k i).1 && q.2.1 == (ro_k i).2 && ag_chk y q.2.2.1 (y.2.2.1.take q.2.2.1.length).reverse) with
  | some q => if q.2.2.2.2.2.1 + 1 ≤ en.2.2.2.1 ∧ ce + q.2.2.2.2.2.2.1 ≤ en.2.2.2.2.1 ∧ sl + q.2.2.2.2.2.2.2.1 ≤ en.2.2.2.2.2.1 ∧ (en.2.2.1 = true → q.2.2.2.2.1 = true) ∧ (q.2.2.2.2.2.2.2.2.2.2.2.1.all (fun w => en.2.2.2.2.2.2.2.2.2.1.contains w)) = true ∧ q.2.2.2.2.2.2.2.2.2.2.1 ||| en.2.2.2.2.2.2.2.2.1 = en.2.2.2.2.2.2.2.2.1 then (tr_call G q.2.2 y fs).map (fun L => L.map (fun z => (pc + (ro_op (ro_k i).1 (ro_k i).2).2, z.1, ce + q.2.2.2.2.2.2.1, sl + q.2.2.2.2.2.2.2.1, z.2))) else none
  | none => none
/-- a name that may be one of several things that never change: each of them by itself -/
def ro_many (y : sy_T) : Option (Nat × List Nat) := y.2.2.1.findSome? (fun n => match y.1[n]? with
  | some t => if t.1 = 2 ∧ 2 ≤ t.2.2.2.length ∧ t.2.2.2.length ≤ 4 ∧ (t.2.2.2.all (fun r => decide (5000 ≤ r))) = true then some (n, t.2.2.2) else none
  | none => none)
def nx (nL : Nat) (en : en_T) (G : List rg_T) (FT : ft_L) (PT : pt_L) (CT : ct_L) (KT : kt_L) (NT : nt_L) (pc : Nat) (i : ClassFile.Instr) (len : Nat) (y : sy_T) (ce sl : Nat) (fs : List fc_T) : Option (List nx_T) :=
  if (ro_k i).1 = 9 then (match i with
    | .invokevirtual _ => (match ro_many y with
      | some q => some (q.2.map (fun r => (pc, (y.1.set q.1 (2, 0, 0, [r]), y.2), ce, sl, fs)))
      | none => nxo nL en G FT PT CT KT NT pc i len y ce sl fs)
    | _ => nxo nL en G FT PT CT KT NT pc i len y ce sl fs) else match nx_ro en G CT pc i y ce sl fs with
  | some L => if len = (ro_op (ro_k i).1 (ro_k i).2).2 then some L else none
  | none => nxo nL en G FT PT CT KT NT pc i len y ce sl fs
/-- a call, or an object that is made (new, dup, its constructor) -/
def cr_ok (PQ : pq_T) (l : Launch) (D : va_G) (kA : Nat → ClassId) (G : List rg_T) (own : String) (cc : ByteArray) (q : Nat × Nat × en_T) : Prop := match Nat.blt q.1 2000000 with
  | true => cl_ok PQ l D kA G own (opl q.1 q.2.1).1 (opl q.1 q.2.1).2 q.2.2
  | false => cq_ok PQ l D kA G own (fun c p st => c = cc ∧ p = q.1 - 2000000 ∧ st.length ≤ 3) 7 q.2.2
theorem cr_lt {PQ : pq_T} {l : Launch} {D : va_G} {kA : Nat → ClassId} {G : List rg_T} {own : String} {cc : ByteArray} {q : Nat × Nat × en_T} (h : cr_ok PQ l D kA G own cc q) (hq : q.1 < 2000000) : cl_ok PQ l D kA G own (opl q.1 q.2.1).1 (opl q.1 q.2.1).2 q.2.2 := by
  unfold cr_ok at h
  rw [show Nat.blt q.1 2000000 = true from Nat.ble_eq.mpr hq] at h
  exact h
theorem cr_ge {PQ : pq_T} {l : Launch} {D : va_G} {kA : Nat → ClassId} {G : List rg_T} {own : String} {cc : ByteArray} {q : Nat × Nat × en_T} (h : cr_ok PQ l D kA G own cc q) (hq : 2000000 ≤ q.1) : cq_ok PQ l D kA G own (fun c p st => c = cc ∧ p = q.1 - 2000000 ∧ st.length ≤ 3) 7 q.2.2 := by
  unfold cr_ok at h
  rw [show Nat.blt q.1 2000000 = false from by rw [Bool.eq_false_iff]; intro z; have := Nat.ble_eq.mp z; omega] at h
  exact h
/-- the tables of a class are as they should be -/
def tb_ok (PQ : pq_T) (l : Launch) (D : va_G) (kA : Nat → ClassId) (G : List rg_T) (own nm : String) (cc : ByteArray) (FT : ft_L) (PT : pt_L) (CT : ct_L) (KT : kt_L) (NT : nt_L) : Prop :=
  (∀ q ∈ FT, gf_rule own q.1 q.2.1 q.2.2) ∧ (∀ q ∈ PT, pf_rule own nm q.1 q.2.1 q.2.2.1 q.2.2.2) ∧ (∀ q ∈ CT, cr_ok PQ l D kA G own cc q) ∧ (∀ q ∈ KT, kt_rule own (kt_op q.1 q.2.1).1 (kt_op q.1 q.2.1).2 q.2.2.1 ∧ ∀ ta, tv_ok ta q.2.2.2 q.2.2.1) ∧ (∀ q ∈ NT, Cond.arrayClass (newarray.typeOf q.2.2) ∈ lw_g) ∧ pl_good G
section M13
variable {p : Program} {l : Launch} {e : Env} {s : State} {m : MethodId} {args : Array Value} {below : List Frame} {meth : Method} {c : Code} {Q : State → Prop} {cc : ByteArray} {pc : Nat} {i : ClassFile.Instr} {len nL : Nat} {v0 : List Value} {ta0 : Nat → Option Nat} {ws0 : va_W} {y : sy_T} {D : va_G} {kA : Nat → ClassId} {G : List rg_T} {A : Nat → Prop} {ret : Option FieldType} {own nm : String} {en : en_T} {FT : ft_L} {PT : pt_L} {CT : ct_L} {KT : kt_L} {NT : nt_L} {ce sl : Nat} {fs : List fc_T}
/-- from every world that may be here -/
def sy_J (PQ : pq_T) (p : Program) (l : Launch) (e : Env) (s : State) (m : MethodId) (args : Array Value) (below : List Frame) (meth : Method) (c : Code) (Q : State → Prop) (D : va_G) (kA : Nat → ClassId) (G : List rg_T) (A : Nat → Prop) (en : en_T) (ta0 : Nat → Option Nat) (ws0 : va_W) (nL : Nat) (v0 : List Value) (n : nx_T) : Prop :=
  ∀ (H : Heap) (locs : List Loc) (ws : va_W) (ta : Nat → Option Nat), ta_le ta0 ta → (en.2.2.1 = true → (ta, ws) = (ta0, ws0)) → kp en.2.2.2.2.2.2.2.2 ta0 ws0 ws → va_P D classes ws H → va_D A ws → va_S A s.heap H locs → th_ok kA G ta ws → sF_go PQ p l e (rm_of en.2.2.2.1 en.2.2.2.2.1 en.2.2.2.2.2.1) s m args below meth c H locs n.2.2.1 n.2.2.2.1 Q nL v0 ta ws n.1 n.2.1 n.2.2.2.2
theorem tr1_ok {H : Heap} {locs : List Loc} {R : Room} {cells slots : Nat} {ta : Nat → Option Nat} {ws : va_W} {z : sy_T} (hx : p.tables.exec = Jvm.exec) (hb : c.code = cc) (hd : decode cc pc = .ok (i, len)) (h : tr1 nL i len y = some z) (k : sy_go p l e R s m args below meth c H locs cells slots Q nL v0 ta ws (pc + len) z) : sy_go p l e R s m args below meth c H locs cells slots Q nL v0 ta ws pc y := by
  unfold tr1 at h
  split at h
  · rename_i h1; obtain rfl := Option.some.inj h; exact tr_pk_ok hx hb hd h1 k
  · split at h
    · rename_i h1; obtain rfl := Option.some.inj h; exact tr_ld_ok hx hb hd h1 k
    · split at h
      · rename_i h1; obtain rfl := Option.some.inj h; exact tr_st_ok hx hb hd h1 k
      · split at h
        · rename_i h1; obtain rfl := Option.some.inj h; exact tr_opi_ok hx hb hd h1 k
        · split at h
          · rename_i h1; obtain rfl := Option.some.inj h; exact tr_opl_ok hx hb hd h1 k
          · split at h
            · rename_i h1; obtain rfl := Option.some.inj h; exact tr_dv_ok hx hb hd h1 k
            · split at h
              · rename_i h1; obtain rfl := Option.some.inj h; exact tr_un_ok hx hb hd h1 k
              · exact tr_inc_ok hx hb hd h k
theorem fc_app {fs : List fc_T} {ta : Nat → Option Nat} {ws : va_W} {vs : List Value} (h : fc_ok PQ fs ta ws vs) : ∀ {L : List fc_T}, (∀ f ∈ L, f.1 < 100 ∧ fc_1 PQ f ws vs) → fc_ok PQ (L ++ fs) ta ws vs
  | [], _ => h
  | f :: L, hL => fc_cons (hL f List.mem_cons_self).1 (hL f List.mem_cons_self).2 (fc_app h (fun g hg => hL g (List.mem_cons_of_mem _ hg)))
theorem recs_ok {fs L : List fc_T} {ta : Nat → Option Nat} {ws : va_W} {vs : List Value} (h : fc_ok PQ fs ta ws vs) (hL : ∀ f ∈ L, f.1 < 100 ∧ fc_1 PQ f ws vs) : fc_ok PQ (recs fs L) ta ws vs := by
  unfold recs
  split
  · trivial
  · exact fc_app h hL
theorem stp_ok {fs : List fc_T} {f : fc_T} {ta : Nat → Option Nat} {ws w1 : va_W} {vs : List Value} (h : fc_ok PQ fs ta ws vs) (hl : ¬ f.1 < 100) (hs : fc_s f ta ws w1 vs) : fc_ok PQ (stp fs f) ta w1 vs := by
  unfold stp
  split
  · trivial
  · exact fc_step hl (fun _ _ q => q) hs h
theorem stp_call {N : Nat} {fs : List fc_T} {mo : mo_T} {ta tb : Nat → Option Nat} {ws w1 : va_W} {vs : List Value} (h : fc_ok PQ fs ta ws vs) (hle : ta_le ta tb) (hs : fc_s (fc_call N mo) ta ws w1 vs) : fc_ok PQ (stp fs (fc_call N mo)) tb w1 vs := by
  unfold stp
  split
  · trivial
  · exact fc_step (by simp [fc_call]) hle hs h
theorem pre_val {vs vs_zq : List Value} (h : vs <+: vs_zq) {n : Nat} {v w : Value} (hn : n < vs.length) (hw : vs_zq[n]? = some w) : vs[n]? = some w := by
  obtain ⟨t, rfl⟩ := h
  rw [List.getElem?_append_left hn] at hw; exact hw
theorem n3 {P : Nat → Prop} {a b d : Nat} (h1 : P a) (h2 : P b) (h3 : P d) : ∀ n ∈ [a, b, d], P n := fun n hn => by
  rcases List.mem_cons.mp hn with rfl | hn
  · exact h1
  · rcases List.mem_cons.mp hn with rfl | hn
    · exact h2
    · obtain rfl := List.mem_singleton.mp hn; exact h3
theorem n2 {P : Nat → Prop} {a b : Nat} (h1 : P a) (h2 : P b) : ∀ n ∈ [a, b], P n := fun n hn => by
  rcases List.mem_cons.mp hn with rfl | hn
  · exact h1
  · obtain rfl := List.mem_singleton.mp hn; exact h2
theorem shl_eq {t : tv_T} {x z : Int32} {k : Int} (h0 : 0 ≤ t.2.1) (hm : t.2.2.1 * ((2 ^ k.toNat : Nat) : Int) ≤ 2147483647) (x1 : t.2.1 ≤ x.toInt) (x2 : x.toInt ≤ t.2.2.1) (ez : z.toInt = k) (k0 : 0 ≤ k) (k1 : k ≤ 30) : (x <<< (z &&& 31)).toInt = x.toInt * ((2 ^ k.toNat : Nat) : Int) := by
  have e := pk_shl x (z &&& 31) z.toInt.toNat (sh_at rfl (by omega) (by omega))
  obtain ⟨e1, e2⟩ := nn_nat (x := x) (by omega)
  rw [e1, ez] at e
  have p0 : 0 < 2 ^ k.toNat := Nat.pow_pos (by decide)
  generalize 2 ^ k.toNat = P at *
  have m1 : x.toInt * (P : Int) ≤ t.2.2.1 * (P : Int) := Int.mul_le_mul_of_nonneg_right x2 (by omega)
  have m3 : ((x.toInt.toNat * P : Nat) : Int) = x.toInt * (P : Nat) := by rw [Int.natCast_mul, Int.toNat_of_nonneg (by omega)]
  rw [Nat.mod_eq_of_lt (by omega)] at e
  have e5 := nat_nn (x := x <<< (z &&& 31)) (by omega)
  omega
theorem and_mod {x z : Int32} (hx : 0 ≤ x.toInt) (hz : 0 ≤ z.toInt) (h : z.toInt.toNat + 1 = 2 ^ (z.toInt.toNat + 1).log2) : (x &&& z).toInt = x.toInt % (z.toInt + 1) := by
  obtain ⟨e1, b1⟩ := nn_nat hx
  obtain ⟨e2, b2⟩ := nn_nat hz
  have e3 : (x &&& z).toBitVec.toNat = x.toBitVec.toNat &&& z.toBitVec.toNat := by rw [Int32.toBitVec_and, BitVec.toNat_and]
  have hz1 : z.toBitVec.toNat = 2 ^ (z.toInt.toNat + 1).log2 - 1 := by omega
  rw [hz1, Nat.and_two_pow_sub_one_eq_mod, ← h, e1] at e3
  have hlt : x.toInt.toNat % (z.toInt.toNat + 1) < z.toInt.toNat + 1 := Nat.mod_lt _ (by omega)
  rw [nat_nn (x := x &&& z) (by omega), e3]
  have q1 : ((x.toInt.toNat : Nat) : Int) = x.toInt := Int.toNat_of_nonneg hx
  have q2 : ((z.toInt.toNat + 1 : Nat) : Int) = z.toInt + 1 := by omega
  rw [Int.natCast_emod, q1, q2]
theorem or_le_add : ∀ (n a b : Nat), a ≤ n → a ||| b ≤ a + b
  | 0, a, b, h => by
    have : a = 0 := by omega
    subst this
    rw [Nat.zero_or]; omega
  | n + 1, a, b, h => by
    by_cases h0 : a = 0
    · subst h0; rw [Nat.zero_or]; omega
    · have ih := or_le_add n (a / 2) (b / 2) (by omega)
      have e1 : (a ||| b) / 2 = a / 2 ||| b / 2 := Nat.or_div_two
      have e2 : (a ||| b) % 2 ≤ a % 2 + b % 2 := by
        have q := Nat.or_mod_two_eq_one (a := a) (b := b)
        rcases Nat.mod_two_eq_zero_or_one (a ||| b) with z | z
        · omega
        · rcases q.mp z with w | w <;> omega
      omega
theorem or_bds {x z : Int32} (hx : 0 ≤ x.toInt) (hz : 0 ≤ z.toInt) : (x ||| z).toInt ≤ x.toInt + z.toInt ∧ x.toInt ≤ (x ||| z).toInt ∧ z.toInt ≤ (x ||| z).toInt ∧ (x ||| z).toInt.toNat = x.toInt.toNat ||| z.toInt.toNat := by
  obtain ⟨e1, b1⟩ := nn_nat hx
  obtain ⟨e2, b2⟩ := nn_nat hz
  have e3 : (x ||| z).toBitVec.toNat = x.toBitVec.toNat ||| z.toBitVec.toNat := by rw [Int32.toBitVec_or, BitVec.toNat_or]
  have h1 := or_le_add _ x.toBitVec.toNat z.toBitVec.toNat (Nat.le_refl _)
  have h2 : x.toBitVec.toNat ≤ x.toBitVec.toNat ||| z.toBitVec.toNat := Nat.left_le_or
  have h3 : z.toBitVec.toNat ≤ x.toBitVec.toNat ||| z.toBitVec.toNat := Nat.right_le_or
  have h4 : x.toBitVec.toNat ||| z.toBitVec.toNat < 2 ^ 31 := Nat.or_lt_two_pow b1 b2
  have h5 : x.toBitVec.toNat ||| z.toBitVec.toNat < 2147483648 := h4
  rw [nat_nn (x := x ||| z) (by omega), e3, ← e1, ← e2]
  refine ⟨?_, ?_, ?_, by rw [Int.toNat_natCast]⟩ <;> omega
theorem fc_op_ok {ta : Nat → Option Nat} {ws : va_W} {vs vs_zq : List Value} {ls : Array Slot} {st : List Value} (hy : sy_ok ta ws vs ls nL st y) (hp : vs <+: vs_zq) (hX : op_X i y vs_zq) : ∀ f ∈ fc_op i y, f.1 < 100 ∧ ∀ w, fc_1 PQ f w vs_zq := by
  unfold fc_op
  split
  · rename_i b a r hst
    split
    · rename_i t u hta hub
      split
      · rename_i hk
        have la : a < vs.length := by rw [hy.1.1]; exact (List.getElem?_eq_some_iff.mp hta).1
        have lb : b < vs.length := by rw [hy.1.1]; exact (List.getElem?_eq_some_iff.mp hub).1
        have bd : ∀ {x z : Int32}, vs_zq[a]? = some (.int x) → vs_zq[b]? = some (.int z) → t.2.1 ≤ x.toInt ∧ x.toInt ≤ t.2.2.1 ∧ u.2.1 ≤ z.toInt ∧ z.toInt ≤ u.2.2.1 := fun h1 h2 => by
          obtain ⟨x_zq, e1, x1, x2⟩ := tv_int (hy.1.2 a t _ hta (pre_val (v := .null) hp la h1)) hk.1
          obtain ⟨z_zq, e2, z1, z2⟩ := tv_int (hy.1.2 b u _ hub (pre_val (v := .null) hp lb h2)) hk.2
          cases e1; cases e2
          exact ⟨x1, x2, z1, z2⟩
        split
        · split
          · rename_i hin
            intro f hf
            obtain rfl := List.mem_singleton.mp hf
            obtain ⟨x, z, h1, h2, h3⟩ := hX _ _ rfl a b r hst
            obtain ⟨x1, x2, z1, z2⟩ := bd h1 h2
            simp only [ad_in, Bool.and_eq_true, decide_eq_true_eq] at hin
            refine ⟨by simp, fun w => ⟨n3 (n_lt h3) (n_lt h1) (n_lt h2), ?_⟩⟩
            show n_iv vs_zq _ = n_iv vs_zq a + n_iv vs_zq b
            rw [n_iv_of h1, n_iv_of h2, n_iv_of h3, Int32.toInt_add, iv_bm (lo := t.2.1 + u.2.1) (hi := t.2.2.1 + u.2.2.1) (by omega) (by omega) hin.1 hin.2]
          · intro f hf; cases hf
        · split
          · rename_i hin
            intro f hf
            obtain rfl := List.mem_singleton.mp hf
            obtain ⟨x, z, h1, h2, h3⟩ := hX _ _ rfl a b r hst
            obtain ⟨x1, x2, z1, z2⟩ := bd h1 h2
            simp only [sb_in, Bool.and_eq_true, decide_eq_true_eq] at hin
            refine ⟨by simp, fun w => ⟨n3 (n_lt h3) (n_lt h1) (n_lt h2), ?_⟩⟩
            show n_iv vs_zq _ = n_iv vs_zq a - n_iv vs_zq b
            rw [n_iv_of h1, n_iv_of h2, n_iv_of h3, Int32.toInt_sub, iv_bm (lo := t.2.1 - u.2.2.1) (hi := t.2.2.1 - u.2.1) (by omega) (by omega) hin.1 hin.2]
          · intro f hf; cases hf
        · split
          · rename_i hin
            intro f hf
            obtain rfl := List.mem_singleton.mp hf
            obtain ⟨x, z, h1, h2, h3⟩ := hX _ _ rfl a b r hst
            obtain ⟨x1, x2, z1, z2⟩ := bd h1 h2
            simp only [ml_in, Bool.and_eq_true, decide_eq_true_eq] at hin
            have hm := mul_iv x1 x2 z1 z2
            refine ⟨by simp, fun w => ⟨n3 (n_lt h3) (n_lt h1) (n_lt h2), ?_⟩⟩
            show n_iv vs_zq _ = n_iv vs_zq a * n_iv vs_zq b
            rw [n_iv_of h1, n_iv_of h2, n_iv_of h3, Int32.toInt_mul, iv_bm hm.1 hm.2 hin.1 hin.2]
          · intro f hf; cases hf
        · split
          · rename_i hin
            intro f hf
            obtain rfl := List.mem_singleton.mp hf
            obtain ⟨x, z, h1, h2, h3⟩ := hX _ _ rfl a b r hst
            obtain ⟨x1, x2, z1, z2⟩ := bd h1 h2
            refine ⟨by simp, fun w => ⟨n2 (n_lt h3) (n_lt h1), ?_⟩⟩
            show n_iv vs_zq _ = n_iv vs_zq a / ((2 ^ u.2.1.toNat : Nat) : Int)
            have ez : z.toInt = u.2.1 := by omega
            rw [n_iv_of h1, n_iv_of h3, pk_shr x (z &&& 31) z.toInt.toNat (sh_at rfl (by omega) (by omega)), Int.shiftRight_eq_div_pow, ez]
          · intro f hf; cases hf
        · split
          · rename_i hin
            intro f hf
            obtain rfl := List.mem_singleton.mp hf
            obtain ⟨x, z, h1, h2, h3⟩ := hX _ _ rfl a b r hst
            obtain ⟨x1, x2, z1, z2⟩ := bd h1 h2
            refine ⟨by simp, fun w => ⟨n2 (n_lt h3) (n_lt h1), ?_⟩⟩
            show n_iv vs_zq _ = n_iv vs_zq a * ((2 ^ u.2.1.toNat : Nat) : Int)
            have ez : z.toInt = u.2.1 := by omega
            rw [n_iv_of h1, n_iv_of h3]
            exact shl_eq hin.2.2.2.1 hin.2.2.2.2 x1 x2 ez hin.2.1 hin.2.2.1
          · intro f hf; cases hf
        · split
          · rename_i hin
            intro f hf
            obtain rfl := List.mem_singleton.mp hf
            obtain ⟨x, z, h1, h2, h3⟩ := hX _ _ rfl a b r hst
            obtain ⟨x1, x2, z1, z2⟩ := bd h1 h2
            refine ⟨by simp, fun w => ⟨n2 (n_lt h3) (n_lt h1), ?_⟩⟩
            show n_iv vs_zq _ = n_iv vs_zq a % (u.2.1 + 1)
            have ez : z.toInt = u.2.1 := by omega
            rw [n_iv_of h1, n_iv_of h3, ← ez]
            exact and_mod (by omega) (by omega) (by rw [ez]; exact hin.2.2.2)
          · intro f hf; cases hf
        · split
          · rename_i hin
            intro f hf
            obtain rfl := List.mem_singleton.mp hf
            obtain ⟨x, z, h1, h2, h3⟩ := hX _ _ rfl a b r hst
            obtain ⟨x1, x2, z1, z2⟩ := bd h1 h2
            refine ⟨by simp, fun w => ⟨n3 (n_lt h3) (n_lt h1) (n_lt h2), ?_⟩⟩
            show n_iv vs_zq _ ≤ n_iv vs_zq a + n_iv vs_zq b ∧ n_iv vs_zq a ≤ n_iv vs_zq _ ∧ n_iv vs_zq b ≤ n_iv vs_zq _ ∧ (n_iv vs_zq _).toNat = (n_iv vs_zq a).toNat ||| (n_iv vs_zq b).toNat
            rw [n_iv_of h1, n_iv_of h2, n_iv_of h3]
            exact or_bds (by omega) (by omega)
          · intro f hf; cases hf
        · intro f hf; cases hf
      · intro f hf; cases hf
    · intro f hf; cases hf
  · intro f hf; cases hf
theorem bv_i (x : Int32) : bv x.toInt = x.toBitVec := by
  show BitVec.ofInt 32 x.toBitVec.toInt = x.toBitVec
  exact BitVec.ofInt_toInt
theorem fc_bit_ok {ta : Nat → Option Nat} {ws : va_W} {vs vs_zq : List Value} {ls : Array Slot} {st : List Value} (hy : sy_ok ta ws vs ls nL st y) (hp : vs <+: vs_zq) (hX : op_X i y vs_zq) : ∀ f ∈ fc_bit i y, f.1 < 100 ∧ ∀ w, fc_1 PQ f w vs_zq := by
  unfold fc_bit
  split
  · rename_i b a r hst
    split
    · rename_i t u hta hub
      split
      · rename_i hk
        have la : a < vs.length := by rw [hy.1.1]; exact (List.getElem?_eq_some_iff.mp hta).1
        have lb : b < vs.length := by rw [hy.1.1]; exact (List.getElem?_eq_some_iff.mp hub).1
        have bd : ∀ {x z : Int32}, vs_zq[a]? = some (.int x) → vs_zq[b]? = some (.int z) → t.2.1 ≤ x.toInt ∧ x.toInt ≤ t.2.2.1 ∧ u.2.1 ≤ z.toInt ∧ z.toInt ≤ u.2.2.1 := fun h1 h2 => by
          obtain ⟨x_zq, e1, x1, x2⟩ := tv_int (hy.1.2 a t _ hta (pre_val (v := .null) hp la h1)) hk.1
          obtain ⟨z_zq, e2, z1, z2⟩ := tv_int (hy.1.2 b u _ hub (pre_val (v := .null) hp lb h2)) hk.2
          cases e1; cases e2
          exact ⟨x1, x2, z1, z2⟩
        split
        · intro f hf
          obtain rfl := List.mem_singleton.mp hf
          obtain ⟨x, z, h1, h2, h3⟩ := hX _ _ rfl a b r hst
          refine ⟨by simp, fun w => ⟨n3 (n_lt h3) (n_lt h1) (n_lt h2), ?_⟩⟩
          show bv (n_iv vs_zq _) = bv (n_iv vs_zq a) &&& bv (n_iv vs_zq b)
          rw [n_iv_of h1, n_iv_of h2, n_iv_of h3, bv_i, bv_i, bv_i, Int32.toBitVec_and]
        · intro f hf
          obtain rfl := List.mem_singleton.mp hf
          obtain ⟨x, z, h1, h2, h3⟩ := hX _ _ rfl a b r hst
          refine ⟨by simp, fun w => ⟨n3 (n_lt h3) (n_lt h1) (n_lt h2), ?_⟩⟩
          show bv (n_iv vs_zq _) = bv (n_iv vs_zq a) ||| bv (n_iv vs_zq b)
          rw [n_iv_of h1, n_iv_of h2, n_iv_of h3, bv_i, bv_i, bv_i, Int32.toBitVec_or]
        · intro f hf
          obtain rfl := List.mem_singleton.mp hf
          obtain ⟨x, z, h1, h2, h3⟩ := hX _ _ rfl a b r hst
          refine ⟨by simp, fun w => ⟨n3 (n_lt h3) (n_lt h1) (n_lt h2), ?_⟩⟩
          show bv (n_iv vs_zq _) = bv (n_iv vs_zq a) ^^^ bv (n_iv vs_zq b)
          rw [n_iv_of h1, n_iv_of h2, n_iv_of h3, bv_i, bv_i, bv_i, Int32.toBitVec_xor]
        · split
          · rename_i hin
            intro f hf
            obtain rfl := List.mem_singleton.mp hf
            obtain ⟨x, z, h1, h2, h3⟩ := hX _ _ rfl a b r hst
            obtain ⟨x1, x2, z1, z2⟩ := bd h1 h2
            refine ⟨by simp, fun w => ⟨n3 (n_lt h3) (n_lt h1) (n_lt h2), ?_⟩⟩
            show bv (n_iv vs_zq _) = bv (n_iv vs_zq a) <<< (n_iv vs_zq b).toNat
            rw [n_iv_of h1, n_iv_of h2, n_iv_of h3, bv_i, bv_i]
            apply BitVec.eq_of_toNat_eq
            rw [pk_shl x (z &&& 31) z.toInt.toNat (sh_at rfl (by omega) (by omega)), BitVec.toNat_shiftLeft, Nat.shiftLeft_eq]
          · intro f hf; cases hf
        · split
          · rename_i hin
            intro f hf
            obtain rfl := List.mem_singleton.mp hf
            obtain ⟨x, z, h1, h2, h3⟩ := hX _ _ rfl a b r hst
            obtain ⟨x1, x2, z1, z2⟩ := bd h1 h2
            refine ⟨by simp, fun w => ⟨n3 (n_lt h3) (n_lt h1) (n_lt h2), ?_⟩⟩
            show bv (n_iv vs_zq _) = bv (n_iv vs_zq a) >>> (n_iv vs_zq b).toNat
            rw [n_iv_of h1, n_iv_of h2, n_iv_of h3, bv_i, bv_i]
            have e1 := pk_shr x (z &&& 31) z.toInt.toNat (sh_at rfl (by omega) (by omega))
            rw [Int.shiftRight_eq_div_pow] at e1
            obtain ⟨e2, b2⟩ := nn_nat (x := x) (by omega)
            apply BitVec.eq_of_toNat_eq
            rw [BitVec.toNat_ushiftRight, Nat.shiftRight_eq_div_pow, e2]
            have q0 : 0 ≤ x.toInt / ((2 ^ z.toInt.toNat : Nat) : Int) := Int.ediv_nonneg (by omega) (Int.natCast_nonneg _)
            obtain ⟨e3, _⟩ := nn_nat (x := x >>> (z &&& 31)) (by rw [e1]; exact q0)
            rw [e3, e1]
            have e4 : ((x.toInt.toNat / 2 ^ z.toInt.toNat : Nat) : Int) = x.toInt / ((2 ^ z.toInt.toNat : Nat) : Int) := by rw [Int.natCast_ediv, Int.toNat_of_nonneg (by omega)]
            rw [← e4, Int.toNat_natCast]
          · split
            · rename_i hin
              intro f hf
              obtain rfl := List.mem_singleton.mp hf
              obtain ⟨x, z, h1, h2, h3⟩ := hX _ _ rfl a b r hst
              obtain ⟨x1, x2, z1, z2⟩ := bd h1 h2
              refine ⟨by simp, fun w => ⟨n3 (n_lt h3) (n_lt h1) (n_lt h2), ?_⟩⟩
              show n_iv vs_zq _ = n_iv vs_zq a / ((2 ^ (n_iv vs_zq b).toNat : Nat) : Int)
              rw [n_iv_of h1, n_iv_of h2, n_iv_of h3, pk_shr x (z &&& 31) z.toInt.toNat (sh_at rfl (by omega) (by omega)), Int.shiftRight_eq_div_pow]
            · intro f hf; cases hf
        · split
          · rename_i hin
            intro f hf
            obtain rfl := List.mem_singleton.mp hf
            obtain ⟨x, z, h1, h2, h3⟩ := hX _ _ rfl a b r hst
            obtain ⟨x1, x2, z1, z2⟩ := bd h1 h2
            refine ⟨by simp, fun w => ⟨n3 (n_lt h3) (n_lt h1) (n_lt h2), ?_⟩⟩
            show bv (n_iv vs_zq _) = bv (n_iv vs_zq a) >>> (n_iv vs_zq b).toNat
            rw [n_iv_of h1, n_iv_of h2, n_iv_of h3, bv_i, bv_i]
            have e1 : (x.toUInt32 >>> (z.toUInt32 &&& Int32.toUInt32 31)).toInt32.toBitVec = x.toBitVec >>> ((z.toUInt32 &&& Int32.toUInt32 31).toBitVec % 32) := rfl
            rw [e1, BitVec.ushiftRight_eq', ush_at (by omega) (by omega)]
          · intro f hf; cases hf
        · split
          · intro f hf; cases hf
          · intro f hf
            obtain rfl := List.mem_singleton.mp hf
            obtain ⟨x, z, h1, h2, h3⟩ := hX _ _ rfl a b r hst
            refine ⟨by simp, fun w => ⟨n3 (n_lt h3) (n_lt h1) (n_lt h2), ?_⟩⟩
            show bv (n_iv vs_zq _) = bv (n_iv vs_zq a) * bv (n_iv vs_zq b)
            rw [n_iv_of h1, n_iv_of h2, n_iv_of h3, bv_i, bv_i, bv_i, Int32.toBitVec_mul]
        · intro f hf; cases hf
      · intro f hf; cases hf
    · intro f hf; cases hf
  · intro f hf; cases hf
theorem fc_inc_ok {ta : Nat → Option Nat} {ws : va_W} {vs vs_zq : List Value} {ls : Array Slot} {st : List Value} (hy : sy_ok ta ws vs ls nL st y) (hp : vs <+: vs_zq) (hX : inc_X i y vs_zq) : ∀ f ∈ fc_inc i y, f.1 < 100 ∧ ∀ w, fc_1 PQ f w vs_zq := by
  unfold fc_inc
  split
  · rename_i j n
    split
    · rename_i a hf0
      split
      · rename_i t hta
        split
        · rename_i hk
          intro f hf
          obtain rfl := List.mem_singleton.mp hf
          obtain ⟨x, h1, h3⟩ := hX j n rfl a hf0
          have la : a < vs.length := by rw [hy.1.1]; exact (List.getElem?_eq_some_iff.mp hta).1
          obtain ⟨x_zq, e1, x1, x2⟩ := tv_int (hy.1.2 a t _ hta (pre_val (v := .null) hp la h1)) hk.1
          cases e1
          have hin := hk.2
          simp only [of_in, Bool.and_eq_true, decide_eq_true_eq] at hin
          refine ⟨by simp, fun w => ⟨n2 (n_lt h3) (n_lt h1), ?_⟩⟩
          show n_iv vs_zq _ = n_iv vs_zq a + (Int32.ofInt n).toInt
          rw [n_iv_of h1, n_iv_of h3, Int32.toInt_add, iv_bm (lo := t.2.1 + (Int32.ofInt n).toInt) (hi := t.2.2.1 + (Int32.ofInt n).toInt) (by omega) (by omega) hin.1 hin.2]
        · intro f hf; cases hf
      · intro f hf; cases hf
    · intro f hf; cases hf
  · intro f hf; cases hf
theorem fc_cv_ok {ta : Nat → Option Nat} {ws : va_W} {vs vs_zq : List Value} {ls : Array Slot} {st : List Value} (hy : sy_ok ta ws vs ls nL st y) (hp : vs <+: vs_zq) (hX : un_X i y vs_zq) : ∀ f ∈ fc_cv i y, f.1 < 100 ∧ ∀ w, fc_1 PQ f w vs_zq := by
  unfold fc_cv
  split
  · rename_i q a r hq hst
    split
    · rename_i t hta
      split
      · rename_i hk
        obtain ⟨v, w, h1, h2, h3, -⟩ := hX q.1 q.2.1 q.2.2 hq a r hst
        have la : a < vs.length := by rw [hy.1.1]; exact (List.getElem?_eq_some_iff.mp hta).1
        have ht := hy.1.2 a t _ hta (pre_val (v := .null) hp la h1)
        have hb : t.2.1 ≤ v_iv v ∧ v_iv v ≤ t.2.2.1 := by
          rcases hk.1 with k0 | k1
          · obtain ⟨x, rfl, x1, x2⟩ := tv_int ht k0; exact ⟨x1, x2⟩
          · obtain ⟨x, rfl, x1, x2⟩ := tv_long ht k1; exact ⟨x1, x2⟩
        have e := h3 (by have := hk.2.1; omega) (by have := hk.2.2; omega)
        have ln : (y.1.length < vs_zq.length) := n_lt h2
        have e2 : v_iv (n_v vs_zq y.1.length) = q.2.2 * v_iv (n_v vs_zq a) := by rw [n_v_of h1, n_v_of h2]; exact e
        split
        · rename_i hs
          intro f hf
          obtain rfl := List.mem_singleton.mp hf
          refine ⟨by simp, fun w_zq => ⟨n2 ln (n_lt h1), ?_⟩⟩
          show v_iv (n_v vs_zq _) = v_iv (n_v vs_zq a)
          rw [e2, hs]; omega
        · intro f hf
          obtain rfl := List.mem_singleton.mp hf
          refine ⟨by simp, fun w_zq => ⟨n2 ln (n_lt h1), ?_⟩⟩
          show v_iv (n_v vs_zq _) = v_iv (n_v vs_zq a) * q.2.2
          rw [e2, Int.mul_comm]
      · split
        · split
          · obtain ⟨v, w, h1, h2, -, h4⟩ := hX q.1 q.2.1 q.2.2 hq a r hst
            have ln : (y.1.length < vs_zq.length) := n_lt h2
            intro f hf
            obtain rfl := List.mem_singleton.mp hf
            refine ⟨by simp, fun w_zq => ⟨n2 ln (n_lt h1), ?_⟩⟩
            show v_iv (n_v vs_zq _) = (v_iv (n_v vs_zq a) + 128) % 256 - 128
            rw [n_v_of h1, n_v_of h2]
            exact h4
          · intro f hf; cases hf
        · intro f hf; cases hf
    · intro f hf; cases hf
  · intro f hf; cases hf
theorem w_el_arr {ws : va_W} {a j : Nat} {e : ClassId × vp_A} (h : w_at ws a = some (.inl e)) : w_el ws a j = el_E e j := by
  unfold w_el el_E
  rw [h]
  rcases e with ⟨c0, n0, f0 | f0 | f0 | f0 | f0⟩ <;> rfl
theorem n_ad_of {vs : List Value} {n a : Nat} (h : vs[n]? = some (.ref a)) : n_ad vs n = a := by unfold n_ad; rw [n_v_of h]; rfl
theorem fc_ald_ok {A : Nat → Prop} {ws : va_W} {vs_zq : List Value} (hD : va_D A ws) (hX : al_X i ws y vs_zq) : ∀ f ∈ fc_ald i y, f.1 < 100 ∧ fc_1 PQ f ws vs_zq := by
  unfold fc_ald
  split
  · split
    · rename_i b a r hst
      intro f hf
      obtain rfl := List.mem_singleton.mp hf
      obtain ⟨ad, x, e0, h1, h2, h3, h4, h5, h6⟩ := hX a b r hst
      refine ⟨by simp, n3 h5 (n_lt h1) (n_lt h2), ?_⟩
      show ((n_ad vs_zq _ : Nat) : Int) = w_el ws (n_ad vs_zq a) (n_iv vs_zq b).toNat
      rw [n_ad_of h1, n_iv_of h2, w_el_arr (w_at_mem hD h3)]
      rcases h6 with h6 | h6
      · exact h6.2
      · exact absurd rfl h6.1
    · intro f hf; cases hf
  · rename_i hni
    split
    · rename_i b a r hst
      intro f hf
      obtain rfl := List.mem_singleton.mp hf
      obtain ⟨ad, x, e0, h1, h2, h3, h4, h5, h6⟩ := hX a b r hst
      refine ⟨by simp, n3 h5 (n_lt h1) (n_lt h2), ?_⟩
      show n_iv vs_zq _ = w_el ws (n_ad vs_zq a) (n_iv vs_zq b).toNat
      rw [n_ad_of h1, n_iv_of h2, w_el_arr (w_at_mem hD h3)]
      rcases h6 with h6 | h6
      · exact absurd h6.1 hni
      · exact h6.2
    · intro f hf; cases hf
theorem fc_get_ok {A : Nat → Prop} {k : Nat} {ta : Nat → Option Nat} {ws : va_W} {vs_zq : List Value} {ls : Array Slot} {st : List Value} {z : sy_T} (hD : va_D A ws) (hz : sy_ok ta ws vs_zq ls nL st z) : ∀ f ∈ fc_get k y z, f.1 < 100 ∧ fc_1 PQ f ws vs_zq := by
  unfold fc_get
  split
  · rename_i a r n r2 hst hst2
    split
    · rename_i hm
      intro f hf
      obtain rfl := List.mem_singleton.mp hf
      obtain ⟨ad, ci, fs, v, m1, m2, m3, m4⟩ := hz.2.2.2.1 _ (sy_mfind_ok hm)
      refine ⟨by simp, n2 (n_lt m4) (n_lt m1), ?_⟩
      show n_v vs_zq n = w_fd ws (n_ad vs_zq a) ((k : Int)).toNat
      rw [n_v_of m4, n_ad_of m1, Int.toNat_natCast]
      unfold w_fd
      rw [w_at_mem hD m2]
      simp only
      rw [List.getD_eq_getElem?_getD, m3]; rfl
    · intro f hf; cases hf
  · intro f hf; cases hf
theorem w_find_set {b ad : Nat} (hb : b ≠ ad) {e0 e1 : va_E} : ∀ {ws : va_W} {q0 : Nat}, ws[q0]? = some (ad, e0) → (ws.set q0 (ad, e1)).find? (fun q => q.1 == b) = ws.find? (fun q => q.1 == b)
  | [], _, h => by cases h
  | w :: ws, 0, h => by
    have e : w = (ad, e0) := Option.some.inj h
    have hne : (ad == b) = false := by simpa using fun e => hb e.symm
    rw [List.set_cons_zero, List.find?_cons, List.find?_cons, e]
    simp only [hne]
  | w :: ws, q + 1, h => by
    rw [List.set_cons_succ, List.find?_cons, List.find?_cons]
    split
    · rfl
    · exact w_find_set hb h
theorem w_at_set {A1 A2 : Nat → Prop} {ws : va_W} {q0 ad : Nat} {e0 e1 : va_E} (hD1 : va_D A2 (ws.set q0 (ad, e1))) (h : ws[q0]? = some (ad, e0)) (b : Nat) : w_at (ws.set q0 (ad, e1)) b = if b = ad then some e1 else w_at ws b := by
  split
  · rename_i e
    subst e
    exact w_at_mem hD1 (List.mem_iff_getElem?.mpr ⟨q0, by rw [List.getElem?_set_self (List.getElem?_eq_some_iff.mp h).1]⟩)
  · rename_i e
    unfold w_at
    rw [w_find_set e h]
theorem fc_ast_ok {wd : Bool} {A : Nat → Prop} {ta : Nat → Option Nat} {ws w1 : va_W} {vs vs_zq : List Value} {ls : Array Slot} {st : List Value} (hy : sy_ok ta ws vs ls nL st y) (hp : vs <+: vs_zq) (hD : va_D A ws) (hD1 : va_D A w1) (hX : st_X wd i ws w1 y vs_zq) : ¬ (fc_ast wd i y).1 < 100 ∧ fc_s (fc_ast wd i y) ta ws w1 vs_zq := by
  unfold fc_ast
  split
  · rename_i d b a r hst
    obtain ⟨ad, x, vd, q0, e0, e1, h1, h2, h3, h4, h5, rfl, h7, h8⟩ := hX d b a r hst
    have wa := w_at_set (A1 := A) hD1 h5
    have w0 : w_at ws ad = some (.inl e0) := w_at_mem hD (List.mem_of_getElem? h5)
    have fd : ∀ b k, w_fd (ws.set q0 (ad, .inl e1)) b k = w_fd ws b k := fun b k => by
      unfold w_fd
      rw [wa b]
      by_cases e : b = ad
      · rw [if_pos e, e, w0]
      · rw [if_neg e]
    have el : ∀ b j, b ≠ ad ∨ j ≠ x.toInt.toNat → w_el (ws.set q0 (ad, .inl e1)) b j = w_el ws b j := fun b j hbj => by
      by_cases e : b = ad
      · subst e
        rw [w_el_arr (e := e1) (by rw [wa b, if_pos rfl]), w_el_arr w0]
        exact h7 j (hbj.resolve_left (fun q => q rfl))
      · unfold w_el
        rw [wa b, if_neg e]
    have full : el_E e1 x.toInt.toNat = v_iv vd → fc_s (100, [a, b, d], []) ta ws (ws.set q0 (ad, .inl e1)) vs_zq := fun hv => by
      refine ⟨n3 (n_lt h1) (n_lt h2) (n_lt h3), ?_⟩
      refine ⟨fun b_zq j => ?_, fd⟩
      show w_el _ b_zq j = if b_zq = n_ad vs_zq a ∧ j = (n_iv vs_zq b).toNat then n_iv vs_zq d else _
      rw [n_ad_of h1, n_iv_of h2]
      split
      · rename_i e
        rw [e.1, e.2, w_el_arr (e := e1) (by rw [wa ad, if_pos rfl]), hv]
        unfold n_iv
        rw [n_v_of h3]
      · rename_i e
        refine el b_zq j ?_
        by_cases eb : b_zq = ad
        · exact Or.inr (fun ej => e ⟨eb, ej⟩)
        · exact Or.inl eb
    have part : fc_s (103, [a], []) ta ws (ws.set q0 (ad, .inl e1)) vs_zq := by
      refine ⟨fun n hn => by obtain rfl := List.mem_singleton.mp hn; exact n_lt h1, ?_⟩
      refine ⟨fun b_zq j hb_zq => ?_, fd⟩
      rw [n_ad_of h1] at hb_zq
      exact el b_zq j (Or.inl hb_zq)
    split
    · split
      · rename_i t ht
        split
        · rename_i hk
          refine ⟨by simp, full ?_⟩
          rcases h8 with h8 | ⟨_, h8⟩
          · exact h8
          · have ld : d < vs.length := by rw [hy.1.1]; exact (List.getElem?_eq_some_iff.mp ht).1
            obtain ⟨z, ez, z1, z2⟩ := tv_int (hy.1.2 d t _ ht (pre_val (v := .null) hp ld h3)) hk.1
            subst ez
            rcases hk.2 with q | ⟨q, q2⟩
            · refine h8.1 ?_ ?_
              · show 0 ≤ z.toInt; have := q.1; omega
              · show z.toInt ≤ 1; have := q.2; omega
            · refine h8.2 q ?_ ?_
              · show -128 ≤ z.toInt; have := q2.1; omega
              · show z.toInt ≤ 127; have := q2.2; omega
        · exact ⟨by simp, part⟩
      · exact ⟨by simp, part⟩
    · rename_i hni
      refine ⟨by simp, full ?_⟩
      rcases h8 with h8 | ⟨h8, _⟩
      · exact h8
      · exact absurd h8 hni
  · exact ⟨by simp, fun n hn => (by cases hn), trivial⟩
theorem fc_put_ok {A : Nat → Prop} {k : Nat} {ta : Nat → Option Nat} {ws w1 : va_W} {vs_zq : List Value} (hD : va_D A ws) (hD1 : va_D A w1) (hX : pt_X k ws w1 y vs_zq) : ¬ (fc_put k y).1 < 100 ∧ fc_s (fc_put k y) ta ws w1 vs_zq := by
  unfold fc_put
  split
  · rename_i d a r hst
    obtain ⟨ad, vd, q0, ci, fs, h1, h2, h3, h4, rfl⟩ := hX d a r hst
    have wa := w_at_set (A1 := A) hD1 h3
    have w0 : w_at ws ad = some (.inr (ci, fs)) := w_at_mem hD (List.mem_of_getElem? h3)
    refine ⟨by simp, n2 (n_lt h1) (n_lt h2), ?_⟩
    refine ⟨fun b j => ?_, fun b j => ?_⟩
    · unfold w_el
      rw [wa b]
      by_cases e : b = ad
      · rw [if_pos e, e, w0]
      · rw [if_neg e]
    · show w_fd _ b j = if b = n_ad vs_zq a ∧ j = ((k : Int)).toNat then n_v vs_zq d else _
      rw [n_ad_of h1, n_v_of h2, Int.toNat_natCast]
      unfold w_fd
      rw [wa b]
      by_cases e : b = ad
      · subst e
        rw [if_pos rfl, w0]
        simp only [true_and]
        by_cases ej : j = k
        · subst ej
          rw [if_pos rfl, List.getD_eq_getElem?_getD, List.getElem?_set_self h4]; rfl
        · rw [if_neg ej, List.getD_eq_getElem?_getD, List.getD_eq_getElem?_getD, List.getElem?_set_ne (fun q => ej q.symm)]
      · rw [if_neg e, if_neg (fun q => e q.1)]
  · exact ⟨by simp, fun n hn => (by cases hn), trivial⟩
theorem sF_lift {H : Heap} {locs : List Loc} {R : Room} {cells slots : Nat} {ta : Nat → Option Nat} {ws : va_W} {pc_zq : Nat} {y_zq : sy_T} (hold : ∀ v0, sy_go p l e R s m args below meth c H locs cells slots Q nL v0 ta ws pc_zq y_zq → sy_go p l e R s m args below meth c H locs cells slots Q nL v0 ta ws pc y) (k : sF_go PQ p l e R s m args below meth c H locs cells slots Q nL v0 ta ws pc_zq y_zq fs) : sF_go PQ p l e R s m args below meth c H locs cells slots Q nL v0 ta ws pc y fs :=
  fun vs ls st hp hy hf => hold vs (fun vs_zq ls_zq st_zq hp_zq hy_zq => k vs_zq ls_zq st_zq (hp.trans hp_zq) hy_zq (fc_pre hp_zq hf)) vs ls st (List.prefix_refl _) hy
theorem or_bit {a b : Nat} (h : a ||| b = b) (r : Nat) (hb : b.testBit r = false) : a.testBit r = false := by
  rw [← h, Nat.testBit_or, Bool.or_eq_false_iff] at hb
  exact hb.1
theorem nx_call_ok {k idx : Nat} (hk3 : k < 3) {L : List nx_T} (hct : ∀ q ∈ CT, cr_ok PQ l D kA G own cc q) (X : cx p s m args meth c cc nL ret own nm) (hK : va_K D classes (TY kA) s) (hN : nsr kA A s) (hA : ∀ q, s.heap.size ≤ q → A q) (hd : decode cc pc = .ok (op_of k idx, 3)) (h : nx_call G en CT k idx pc y ce sl fs = some L)
    (kk : ∀ n ∈ L, sy_J PQ p l e s m args below meth c Q D kA G A en ta0 ws0 nL v0 n) : sy_J PQ p l e s m args below meth c Q D kA G A en ta0 ws0 nL v0 (pc, y, ce, sl, fs) := by
  intro H locs ws ta hle hpu hkp hP hD hS hth
  unfold nx_call at h
  split at h
  · rename_i q hq
    split at h
    · rename_i hk
      obtain ⟨z, hz, rfl⟩ := Option.map_eq_some_iff.mp h
      have h2 := List.find?_some hq
      simp only [Bool.and_eq_true, Bool.or_eq_true, beq_iff_eq, decide_eq_true_eq] at h2
      have hcl := cr_lt (hct q (List.mem_of_find?_eq_some hq)) (by have := h2.1.1; omega)
      have h4 : q.1 % 3 = k := by
        rcases h2.1.2 with h | h
        · omega
        · have := h.1; omega
      unfold opl at hcl
      rw [if_pos h2.1.1, h4, h2.2] at hcl
      refine tr_call_ok hcl X hK hN hA hP hD hS hth hk.1 (by show 64 * _ ≤ 64 * _; have := hk.1; omega) hk.2.1 hk.2.2.1 (fun _ _ => hd) hz (fun z_zq hz_zq tb w1 H1 locs1 b1 b2 b3 b4 b5 b6 b7 => ?_)
      exact kk (pc + 3, z_zq.1, _, _, z_zq.2) (List.mem_map.mpr ⟨z_zq, hz_zq, rfl⟩) H1 locs1 w1 tb (fun a r hr => b1 a r (hle a r hr)) (fun hp => (b6 (hk.2.2.2.1 hp)).trans (hpu hp)) (kp_trans hle hkp (kp_mono (fun w hw => List.contains_iff_mem.mp (List.all_eq_true.mp hk.2.2.2.2.1 w hw)) (or_bit hk.2.2.2.2.2) b7)) b3 b4 b5 b2
    · cases h
  · cases h
theorem nx_obj_ok {L : List nx_T} (hct : ∀ q ∈ CT, cr_ok PQ l D kA G own cc q) (X : cx p s m args meth c cc nL ret own nm) (hK : va_K D classes (TY kA) s) (hN : nsr kA A s) (hA : ∀ q, s.heap.size ≤ q → A q) (h : nx_obj G en CT pc y ce sl fs = some L)
    (kk : ∀ n ∈ L, sy_J PQ p l e s m args below meth c Q D kA G A en ta0 ws0 nL v0 n) : sy_J PQ p l e s m args below meth c Q D kA G A en ta0 ws0 nL v0 (pc, y, ce, sl, fs) := by
  intro H locs ws ta hle hpu hkp hP hD hS hth
  unfold nx_obj at h
  split at h
  · rename_i q hq
    split at h
    · rename_i hk
      obtain ⟨z, hz, rfl⟩ := Option.map_eq_some_iff.mp h
      have h2 := List.find?_some hq
      simp only [beq_iff_eq] at h2
      have hcl := cr_ge (hct q (List.mem_of_find?_eq_some hq)) (by omega)
      refine tr_call_ok hcl X hK hN hA hP hD hS hth hk.1 (by show 64 * _ ≤ 64 * _; have := hk.1; omega) hk.2.1 hk.2.2.1 (fun rest hr => ⟨rfl, by omega, Nat.le_trans hr hk.2.2.2.2.2.2⟩) hz (fun z_zq hz_zq tb w1 H1 locs1 b1 b2 b3 b4 b5 b6 b7 => ?_)
      exact kk (pc + 7, z_zq.1, _, _, z_zq.2) (List.mem_map.mpr ⟨z_zq, hz_zq, rfl⟩) H1 locs1 w1 tb (fun a r hr => b1 a r (hle a r hr)) (fun hp => (b6 (hk.2.2.2.1 hp)).trans (hpu hp)) (kp_trans hle hkp (kp_mono (fun w hw => List.contains_iff_mem.mp (List.all_eq_true.mp hk.2.2.2.2.1 w hw)) (or_bit hk.2.2.2.2.2.1) b7)) b3 b4 b5 b2
    · cases h
  · cases h
theorem nx_kt_ok {k idx : Nat} {L : List nx_T} (hkt : ∀ q ∈ KT, kt_rule own (kt_op q.1 q.2.1).1 (kt_op q.1 q.2.1).2 q.2.2.1 ∧ ∀ ta, tv_ok ta q.2.2.2 q.2.2.1) (X : cx p s m args meth c cc nL ret own nm) (hd : decode cc pc = .ok (kt_op k idx)) (h : nx_kt KT k idx pc y ce sl fs = some L)
    (kk : ∀ n ∈ L, sy_J PQ p l e s m args below meth c Q D kA G A en ta0 ws0 nL v0 n) : sy_J PQ p l e s m args below meth c Q D kA G A en ta0 ws0 nL v0 (pc, y, ce, sl, fs) := by
  intro H locs ws ta hle hpu hkp hP hD hS hth vs ls st hp0 hy hf
  unfold nx_kt at h
  split at h
  · rename_i q hq
    obtain rfl := Option.some.inj h
    have h2 := List.find?_some hq
    simp only [Bool.and_eq_true, beq_iff_eq] at h2
    have hr := hkt q (List.mem_of_find?_eq_some hq)
    rw [h2.1, h2.2] at hr
    exact hr.1 p l e _ s m args below meth c H locs ce sl Q cc pc nL ret nm ls st X hd (kk _ List.mem_cons_self H locs ws ta hle hpu hkp hP hD hS hth _ _ _ (pre_app hp0) (sy_pushed hy hy.2.2.1 (hr.2 ta)) (fc_pre (List.prefix_append _ _) hf))
  · cases h
theorem nxo_ok {L : List nx_T} (htb : tb_ok PQ l D kA G own nm cc FT PT CT KT NT) (X : cx p s m args meth c cc nL ret own nm) (hK : va_K D classes (TY kA) s) (hN : nsr kA A s) (hA : ∀ q, s.heap.size ≤ q → A q) (hd : decode cc pc = .ok (i, len)) (h : nxo nL en G FT PT CT KT NT pc i len y ce sl fs = some L)
    (kk : ∀ n ∈ L, sy_J PQ p l e s m args below meth c Q D kA G A en ta0 ws0 nL v0 n) : sy_J PQ p l e s m args below meth c Q D kA G A en ta0 ws0 nL v0 (pc, y, ce, sl, fs) := by
  unfold nxo at h
  split at h
  · obtain ⟨z, hz, rfl⟩ := Option.map_eq_some_iff.mp h
    exact fun H locs ws ta h1 h2 hk0 h3 h4 h5 h6 => sF_lift (fun v0 k => tr_pk_ok X.1 X.2.1 hd hz k) (kk _ List.mem_cons_self H locs ws ta h1 h2 hk0 h3 h4 h5 h6)
  · obtain ⟨z, hz, rfl⟩ := Option.map_eq_some_iff.mp h
    exact fun H locs ws ta h1 h2 hk0 h3 h4 h5 h6 => sF_lift (fun v0 k => tr_ld_ok X.1 X.2.1 hd hz k) (kk _ List.mem_cons_self H locs ws ta h1 h2 hk0 h3 h4 h5 h6)
  · obtain ⟨z, hz, rfl⟩ := Option.map_eq_some_iff.mp h
    exact fun H locs ws ta h1 h2 hk0 h3 h4 h5 h6 => sF_lift (fun v0 k => tr_st_ok X.1 X.2.1 hd hz k) (kk _ List.mem_cons_self H locs ws ta h1 h2 hk0 h3 h4 h5 h6)
  · obtain ⟨z, hz, rfl⟩ := Option.map_eq_some_iff.mp h
    intro H locs ws ta h1 h2 hk0 h3 h4 h5 h6 vs ls st hp hy hf
    exact tr_opi_okX (v0 := vs) X.1 X.2.1 hd hz (fun vs_zq ls_zq st_zq hp_zq hX hy_zq => kk _ List.mem_cons_self H locs ws ta h1 h2 hk0 h3 h4 h5 h6 vs_zq ls_zq st_zq (hp.trans hp_zq) hy_zq (recs_ok (fc_pre hp_zq hf) (fun f hf2 => by
      rcases List.mem_append.mp hf2 with hf2 | hf2
      · exact ⟨(fc_op_ok (PQ := PQ) hy hp_zq hX f hf2).1, (fc_op_ok (PQ := PQ) hy hp_zq hX f hf2).2 ws⟩
      · exact ⟨(fc_bit_ok (PQ := PQ) hy hp_zq hX f hf2).1, (fc_bit_ok (PQ := PQ) hy hp_zq hX f hf2).2 ws⟩))) vs ls st (List.prefix_refl _) hy
  · obtain ⟨z, hz, rfl⟩ := Option.map_eq_some_iff.mp h
    intro H locs ws ta h1 h2 hk0 h3 h4 h5 h6 vs ls st hp hy hf
    exact tr_opl_okX (v0 := vs) X.1 X.2.1 hd hz (fun vs_zq ls_zq st_zq hp_zq hX hy_zq => kk _ List.mem_cons_self H locs ws ta h1 h2 hk0 h3 h4 h5 h6 vs_zq ls_zq st_zq (hp.trans hp_zq) hy_zq (recs_ok (fc_pre hp_zq hf) (fun f hf2 => ⟨(fc_opl_ok (PQ := PQ) hy hp_zq hX f hf2).1, (fc_opl_ok (PQ := PQ) hy hp_zq hX f hf2).2 ws⟩))) vs ls st (List.prefix_refl _) hy
  · split at h
    · rename_i z hz
      obtain rfl := Option.some.inj h
      intro H locs ws ta h1 h2 hk0 h3 h4 h5 h6 vs ls st hp hy hf
      exact tr_dw_ok X.1 X.2.1 hd hz hy hf (fun vs_zq ls_zq st_zq hp_zq hy_zq hF => kk _ List.mem_cons_self H locs ws ta h1 h2 hk0 h3 h4 h5 h6 vs_zq ls_zq st_zq (hp.trans hp_zq) hy_zq (recs_ok (fc_pre hp_zq hf) hF))
    · obtain ⟨z, hz, rfl⟩ := Option.map_eq_some_iff.mp h
      exact fun H locs ws ta h1 h2 hk0 h3 h4 h5 h6 => sF_lift (fun v0 k => tr_dv_ok X.1 X.2.1 hd hz k) (kk _ List.mem_cons_self H locs ws ta h1 h2 hk0 h3 h4 h5 h6)
  · obtain ⟨z, hz, rfl⟩ := Option.map_eq_some_iff.mp h
    intro H locs ws ta h1 h2 hk0 h3 h4 h5 h6 vs ls st hp hy hf
    exact tr_un_okX (v0 := vs) X.1 X.2.1 hd hz (fun vs_zq ls_zq st_zq hp_zq hX hy_zq => kk _ List.mem_cons_self H locs ws ta h1 h2 hk0 h3 h4 h5 h6 vs_zq ls_zq st_zq (hp.trans hp_zq) hy_zq (recs_ok (fc_pre hp_zq hf) (fun f hf2 => ⟨(fc_cv_ok (PQ := PQ) hy hp_zq hX f hf2).1, (fc_cv_ok (PQ := PQ) hy hp_zq hX f hf2).2 ws⟩))) vs ls st (List.prefix_refl _) hy
  · obtain ⟨z, hz, rfl⟩ := Option.map_eq_some_iff.mp h
    intro H locs ws ta h1 h2 hk0 h3 h4 h5 h6 vs ls st hp hy hf
    exact tr_inc_okX (v0 := vs) X.1 X.2.1 hd hz (fun vs_zq ls_zq st_zq hp_zq hX hy_zq => kk _ List.mem_cons_self H locs ws ta h1 h2 hk0 h3 h4 h5 h6 vs_zq ls_zq st_zq (hp.trans hp_zq) hy_zq (recs_ok (fc_pre hp_zq hf) (fun f hf2 => ⟨(fc_inc_ok (PQ := PQ) hy hp_zq hX f hf2).1, (fc_inc_ok (PQ := PQ) hy hp_zq hX f hf2).2 ws⟩))) vs ls st (List.prefix_refl _) hy
  · obtain ⟨L0, hz, rfl⟩ := Option.map_eq_some_iff.mp h
    intro H locs ws ta h1 h2 hk0 h3 h4 h5 h6 vs ls st hp hy hf
    exact br_next_ok (v0 := vs) X.1 X.2.1 hd hz (fun q hq vs_zq ls_zq st_zq hp_zq hX hy_zq => kk (q.1, q.2.1, ce, sl, recs fs q.2.2) (List.mem_map.mpr ⟨q, hq, rfl⟩) H locs ws ta h1 h2 hk0 h3 h4 h5 h6 vs_zq ls_zq st_zq (hp.trans hp_zq) hy_zq (recs_ok (fc_pre hp_zq hf) (fun f hf2 => ⟨(hX f hf2).1, (hX f hf2).2 ws⟩))) vs ls st (List.prefix_refl _) hy
  · obtain ⟨L0, hz, rfl⟩ := Option.map_eq_some_iff.mp h
    intro H locs ws ta h1 h2 hk0 h3 h4 h5 h6 vs ls st hp hy hf
    exact tr_sw_ok (v0 := vs) X.1 X.2.1 hd hz (fun q hq vs_zq ls_zq st_zq hp_zq hy_zq => kk (q.1, q.2, ce, sl, fs) (List.mem_map.mpr ⟨q, hq, rfl⟩) H locs ws ta h1 h2 hk0 h3 h4 h5 h6 vs_zq ls_zq st_zq (hp.trans hp_zq) hy_zq (fc_pre hp_zq hf)) vs ls st (List.prefix_refl _) hy
  · obtain ⟨z, hz, rfl⟩ := Option.map_eq_some_iff.mp h
    intro H locs ws ta h1 h2 hk0 h3 h4 h5 h6 vs ls st hp hy hf
    exact tr_ald_okX (v0 := vs) X hK h3 h6 hd hz (fun vs_zq ls_zq st_zq hp_zq hX hy_zq => kk _ List.mem_cons_self H locs ws ta h1 h2 hk0 h3 h4 h5 h6 vs_zq ls_zq st_zq (hp.trans hp_zq) hy_zq (recs_ok (fc_pre hp_zq hf) (fc_ald_ok h4 hX))) vs ls st (List.prefix_refl _) hy
  · obtain ⟨z, hz, rfl⟩ := Option.map_eq_some_iff.mp h
    exact fun H locs ws ta h1 h2 hk0 h3 h4 h5 h6 => sF_lift (fun v0 k => tr_len_ok X hK h3 h6 hd hz k) (kk _ List.mem_cons_self H locs ws ta h1 h2 hk0 h3 h4 h5 h6)
  · unfold nx2 at h
    split at h
    · split at h
      · rename_i hl3
        subst hl3
        split at h
        · rename_i q hq
          obtain ⟨z, hz, rfl⟩ := Option.map_eq_some_iff.mp h
          have h2 := List.find?_some hq
          have h3 := eq_of_beq h2
          have hr := htb.1 q (List.mem_of_find?_eq_some hq)
          rw [h3] at hr
          exact fun H locs ws ta h1 h2 hk0 h3 h4 h5 h6 vs ls st hp hy hf => tr_get_ok (v0 := vs) hr X hK h3 h4 h6 hd hz (fun vs_zq ls_zq st_zq hp_zq hy_zq => kk _ List.mem_cons_self H locs ws ta h1 h2 hk0 h3 h4 h5 h6 vs_zq ls_zq st_zq (hp.trans hp_zq) hy_zq (recs_ok (fc_pre hp_zq hf) (fc_get_ok h4 hy_zq))) vs ls st (List.prefix_refl _) hy
        · cases h
      · cases h
    · split at h
      · rename_i hl3
        obtain ⟨rfl, hpu⟩ := hl3
        split at h
        · rename_i q hq
          split at h
          case isFalse => cases h
          rename_i hmo
          obtain ⟨z, hz, rfl⟩ := Option.map_eq_some_iff.mp h
          have h2 := List.find?_some hq
          have h3 := eq_of_beq h2
          have hr := htb.2.1 q (List.mem_of_find?_eq_some hq)
          rw [h3] at hr
          exact fun H locs ws ta h1 h2 hk0 h3 h4 h5 h6 vs ls st hp hy hf => tr_put_ok (v0 := vs) hr X hK h3 h4 h5 h6 hd hz (fun H1 locs1 w1 a1 a2 a3 a4 a5 vs_zq ls_zq st_zq hp_zq hX hy_zq => kk _ List.mem_cons_self H1 locs1 w1 ta h1 (fun q => by rw [hpu] at q; cases q) (kp_trans h1 hk0 (a5 _ (fun rr hrr => List.contains_iff_mem.mp (List.all_eq_true.mp hmo rr hrr)))) a1 a2 a3 a4 vs_zq ls_zq st_zq (hp.trans hp_zq) hy_zq (stp_ok (fc_pre hp_zq hf) (fc_put_ok (ta := ta) h4 a2 hX).1 (fc_put_ok h4 a2 hX).2)) vs ls st (List.prefix_refl _) hy
        · cases h
      · cases h
    · split at h
      · rename_i hl3; subst hl3; exact nx_call_ok (k := 0) (by decide) htb.2.2.1 X hK hN hA hd h kk
      · cases h
    · split at h
      · rename_i hl3; subst hl3; exact nx_call_ok (k := 1) (by decide) htb.2.2.1 X hK hN hA hd h kk
      · cases h
    · split at h
      · rename_i hl3; subst hl3; exact nx_call_ok (k := 2) (by decide) htb.2.2.1 X hK hN hA hd h kk
      · cases h
    · exact nx_obj_ok htb.2.2.1 X hK hN hA h kk
    · split at h
      · rename_i hl3; subst hl3; exact nx_kt_ok (k := 0) htb.2.2.2.1 X hd h kk
      · cases h
    · split at h
      · rename_i hl3; subst hl3; exact nx_kt_ok (k := 1) htb.2.2.2.1 X hd h kk
      · cases h
    · split at h
      · rename_i hl3; subst hl3; exact nx_kt_ok (k := 2) htb.2.2.2.1 X hd h kk
      · cases h
    · split at h
      · rename_i hpu
        obtain ⟨z, hz, rfl⟩ := Option.map_eq_some_iff.mp h
        exact fun H locs ws ta h1 h2 hk0 h3 h4 h5 h6 vs ls st hp hy hf => tr_ast_ok (v0 := vs) X hK h3 h4 h5 h6 htb.2.2.2.2.2 hd hz hf (fun H1 locs1 w1 a1 a2 a3 a4 a5 vs_zq ls_zq st_zq hp_zq hX hy_zq => kk _ List.mem_cons_self H1 locs1 w1 ta h1 (fun q => by rw [hpu.1] at q; cases q) (kp_trans h1 hk0 (a5 _ (fun rr hrr => List.all_eq_true.mp hpu.2 rr hrr))) a1 a2 a3 a4 vs_zq ls_zq st_zq (hp.trans hp_zq) hy_zq (stp_ok (fc_pre hp_zq hf) (fc_ast_ok hy hp_zq h4 a2 hX).1 (fc_ast_ok hy hp_zq h4 a2 hX).2)) (List.prefix_refl _) hy
      · cases h
  · split at h
    · rename_i qn hz
      split at h
      · rename_i hk
        obtain rfl := Option.some.inj h
        exact fun H locs ws ta h1 h2 hk0 h3 h4 h5 h6 vs ls st hp hy hf => tr_new_ok (v0 := vs) htb.2.2.2.2.1 X hK hN.2.1 hA h3 h4 h5 h6 hd (y_zq := qn.1) (N := qn.2) hz hk.2.1 hk.2.2 (fun H1 w1 tb a0 a1 a2 a3 a4 a5 vs_zq ls_zq st_zq hp_zq hX hy_zq => kk _ List.mem_cons_self H1 locs w1 tb (fun a r hr => a0 a r (h1 a r hr)) (fun q => by rw [hk.1] at q; cases q) (kp_trans h1 hk0 (a5 _)) a1 a2 a3 a4 vs_zq ls_zq st_zq (hp.trans hp_zq) hy_zq (recs_ok (stp_call (fc_pre hp_zq hf) a0 (fc_call_ok (by rw [← hy.1.1]; exact pre_le hp_zq) (sy_old hy.1 hp_zq) h6 a0 a4 h4 a2 (a5 _))) (fun f hf_zq => by
          obtain rfl := List.mem_singleton.mp hf_zq
          refine ⟨by show (20 : Nat) < 100; decide, tr_new_len hz hy hp_zq hy_zq, ?_⟩
          intro j _
          have e0 := hX j
          have e1 : w_el w1 (v_ad (n_v vs_zq y.1.length)) j = 0 := e0
          show (0 : Int) ≤ w_el w1 (v_ad (n_v vs_zq y.1.length)) j ∧ w_el w1 (v_ad (n_v vs_zq y.1.length)) j ≤ 0
          omega))) vs ls st (List.prefix_refl _) hy
      · cases h
    · cases h
  · split at h
    · rename_i z hz
      obtain rfl := Option.some.inj h
      exact fun H locs ws ta h1 h2 hk0 h3 h4 h5 h6 => sF_lift (fun v0 k => tr_dv_ok X.1 X.2.1 hd hz k) (kk _ List.mem_cons_self H locs ws ta h1 h2 hk0 h3 h4 h5 h6)
    · obtain ⟨z, hz, rfl⟩ := Option.map_eq_some_iff.mp h
      exact fun H locs ws ta h1 h2 hk0 h3 h4 h5 h6 => sF_lift (fun v0 k => tr_un_ok X.1 X.2.1 hd hz k) (kk _ List.mem_cons_self H locs ws ta h1 h2 hk0 h3 h4 h5 h6)
theorem ro_k_op {i : ClassFile.Instr} (h : ¬ (ro_k i).1 = 9) : (ro_op (ro_k i).1 (ro_k i).2).1 = i := by
  cases i <;> first | rfl | exact absurd rfl h
theorem ro_k9 (i : ClassFile.Instr) : (ro_k i).1 ≤ 9 := by cases i <;> (unfold ro_k; simp)
theorem nx_ro_ok {L : List nx_T} (hct : ∀ q ∈ CT, cr_ok PQ l D kA G own cc q) (X : cx p s m args meth c cc nL ret own nm) (hK : va_K D classes (TY kA) s) (hN : nsr kA A s) (hA : ∀ q, s.heap.size ≤ q → A q) (hd : decode cc pc = .ok (ro_op (ro_k i).1 (ro_k i).2)) (h : nx_ro en G CT pc i y ce sl fs = some L)
    (kk : ∀ n ∈ L, sy_J PQ p l e s m args below meth c Q D kA G A en ta0 ws0 nL v0 n) : sy_J PQ p l e s m args below meth c Q D kA G A en ta0 ws0 nL v0 (pc, y, ce, sl, fs) := by
  intro H locs ws ta hle hpu hkp hP hD hS hth
  unfold nx_ro at h
  split at h
  · rename_i q hq
    split at h
    · rename_i hk
      obtain ⟨z, hz, rfl⟩ := Option.map_eq_some_iff.mp h
      have h2 := List.find?_some hq
      simp only [Bool.and_eq_true, beq_iff_eq] at h2
      have hcl := cr_lt (hct q (List.mem_of_find?_eq_some hq)) (by have := h2.1.1; have := ro_k9 i; omega)
      unfold opl at hcl
      rw [if_neg (by omega), h2.1.1, h2.1.2, Nat.add_sub_cancel_left] at hcl
      refine tr_call_ok hcl X hK hN hA hP hD hS hth hk.1 (by show 64 * _ ≤ 64 * _; have := hk.1; omega) hk.2.1 hk.2.2.1 (fun _ _ => hd) hz (fun z_zq hz_zq tb w1 H1 locs1 b1 b2 b3 b4 b5 b6 b7 => ?_)
      exact kk (pc + _, z_zq.1, _, _, z_zq.2) (List.mem_map.mpr ⟨z_zq, hz_zq, rfl⟩) H1 locs1 w1 tb (fun a r hr => b1 a r (hle a r hr)) (fun hp => (b6 (hk.2.2.2.1 hp)).trans (hpu hp)) (kp_trans hle hkp (kp_mono (fun w hw => List.contains_iff_mem.mp (List.all_eq_true.mp hk.2.2.2.2.1 w hw)) (or_bit hk.2.2.2.2.2) b7)) b3 b4 b5 b2
    · cases h
  · cases h
theorem nx_ok {L : List nx_T} (htb : tb_ok PQ l D kA G own nm cc FT PT CT KT NT) (X : cx p s m args meth c cc nL ret own nm) (hK : va_K D classes (TY kA) s) (hN : nsr kA A s) (hA : ∀ q, s.heap.size ≤ q → A q) (hd : decode cc pc = .ok (i, len)) (h : nx nL en G FT PT CT KT NT pc i len y ce sl fs = some L)
    (kk : ∀ n ∈ L, sy_J PQ p l e s m args below meth c Q D kA G A en ta0 ws0 nL v0 n) : sy_J PQ p l e s m args below meth c Q D kA G A en ta0 ws0 nL v0 (pc, y, ce, sl, fs) := by
  unfold nx at h
  split at h
  · split at h
    · split at h
      · rename_i q hq
        obtain rfl := Option.some.inj h
        intro H locs ws ta h1 h2 hk0 h3 h4 h5 h6 vs ls st hp hy hf
        unfold ro_many at hq
        obtain ⟨n, _, hn⟩ := List.exists_of_findSome?_eq_some hq
        split at hn
        · rename_i t ht
          split at hn
          · rename_i hc
            obtain rfl := Option.some.inj hn
            have hlt := (List.getElem?_eq_some_iff.mp ht).1
            have hv := List.getElem?_eq_getElem (l := vs) (i := n) (by rw [hy.1.1]; exact hlt)
            obtain ⟨a, r, e1, e2, e3⟩ := tv_ref (hy.1.2 n t _ ht hv) hc.1
            refine kk (pc, (y.1.set n (2, 0, 0, [r]), y.2), ce, sl, fs) (List.mem_map.mpr ⟨r, e3, rfl⟩) H locs ws ta h1 h2 hk0 h3 h4 h5 h6 vs ls st hp ?_ hf
            exact ⟨en_set_ok hy.1 hv (Or.inr (Or.inr (Or.inl ⟨rfl, a, r, e1, e2, List.mem_singleton.mpr rfl⟩))), hy.2⟩
          · cases hn
        · cases hn
      · exact nxo_ok htb X hK hN hA hd h kk
    · exact nxo_ok htb X hK hN hA hd h kk
  · rename_i h9
    split at h
    · rename_i L_zq hL
      split at h
      · rename_i hlen
        obtain rfl := Option.some.inj h
        refine nx_ro_ok htb.2.2.1 X hK hN hA ?_ hL kk
        rw [hd, hlen]
        exact congrArg Except.ok (Prod.ext (ro_k_op h9).symm rfl)
      · cases h
    · exact nxo_ok htb X hK hN hA hd h kk
end M13
end
section
/-! notes: (place, locals, stack, (cells, slots), what falls, how far names lie apart, fields whose values have names, what is known at the start, the first name and the kinds of values that are no locals, facts) -/
abbrev me_T : Type := Nat × Nat × Int
abbrev an_T : Type := Nat × List (Nat × tv_T) × List tv_T × (Nat × Nat) × List me_T × List of_T × List ((Nat × Nat) × tv_T) × List tv_T × Nat × List tv_T × List fc_T
def an_loc : List (Nat × tv_T) → Nat → List (Nat × Nat)
  | [], _ => []
  | q :: r, k => (q.1, k) :: an_loc r (k + 1)
def an_st (n : Nat) : List tv_T → List Nat
  | [] => []
  | _ :: r => n :: an_st (n + 1) r
def an_mem (s n : Nat) : List ((Nat × Nat) × tv_T) → List ((Nat × Nat) × Nat)
  | [] => []
  | q :: r => ((s + q.1.1, q.1.2), n) :: an_mem s (n + 1) r
def an_dv : List tv_T → Nat → List (Nat × Nat)
  | [], _ => []
  | t :: r, k => if t.1 = 5 then (k, t.2.2.2.headD 1) :: an_dv r (k + 1) else an_dv r (k + 1)
def an_R (an : an_T) : Nat := an.2.2.2.2.2.2.2.1.length
def an_n0 (an : an_T) : Nat := an.2.1.length + an.2.2.1.length + an.2.2.2.2.2.2.1.length
def an_t0 (an : an_T) : List tv_T := an.2.1.map (fun q => q.2) ++ an.2.2.1 ++ an.2.2.2.2.2.2.1.map (fun q => q.2)
def an_ts (an : an_T) : List tv_T := an.2.2.2.2.2.2.2.1 ++ (an_t0 an ++ an.2.2.2.2.2.2.2.2.2.1)
def an_y (an : an_T) : sy_T := ((an_ts an).map nrm, an_loc an.2.1 (an_R an), an_st (an_R an + an.2.1.length) an.2.2.1, an_mem (an_R an) (an_R an + (an.2.1.length + an.2.2.1.length)) an.2.2.2.2.2.2.1, an.2.2.2.2.2.1, an_dv (an_ts an) 0)
/-- the name that a place of the note has in the picture -/
def nm_o0 (y : sy_T) (an : an_T) (k : Nat) : Option Nat :=
  if k < an.2.1.length then (an.2.1[k]?).bind (fun q => sy_find y.2.1 q.1)
  else if k < an.2.1.length + an.2.2.1.length then y.2.2.1[k - an.2.1.length]?
  else (an.2.2.2.2.2.2.1[k - (an.2.1.length + an.2.2.1.length)]?).bind (fun q => ((an.2.1[q.1.1]?).bind (fun z => sy_find y.2.1 z.1)).bind (fun o => sy_mfind y o q.1.2))
def nm_of (y : sy_T) (an : an_T) (k : Nat) : Option Nat :=
  if k < an_R an then some k
  else if k < an_R an + an_n0 an then nm_o0 y an (k - an_R an)
  else if k < an_R an + an_n0 an + an.2.2.2.2.2.2.2.2.2.1.length then some (an.2.2.2.2.2.2.2.2.1 + (k - (an_R an + an_n0 an))) else none
theorem nm_mid {y : sy_T} {an : an_T} {k : Nat} (hk : k < an_n0 an) : nm_of y an (an_R an + k) = nm_o0 y an k := by
  unfold nm_of
  rw [if_neg (by omega), if_pos (by omega), show an_R an + k - an_R an = k by omega]
def me_val (vs : List Value) (q : me_T) : Nat := match q.1 with
  | 0 => q.2.2.toNat
  | 1 => (match vs[q.2.1]? with | some (.int x) => (q.2.2 - x.toInt).toNat | _ => 0)
  | _ => (match vs[q.2.1]? with | some (.int x) => (x.toInt - q.2.2).toNat | _ => 0)
def lx_lt : List Nat → List Nat → Prop
  | a :: s, b :: t => a < b ∨ (a = b ∧ lx_lt s t)
  | _, _ => False
theorem lx_ind : ∀ (K : Nat) (P : List Nat → Prop), (∀ v, v.length = K → (∀ w, w.length = K → lx_lt w v → P w) → P v) → ∀ v, v.length = K → P v
  | 0, P, h, v, hv => h v hv (fun w hw hl => by
      cases w with
      | nil => exact hl.elim
      | cons _ _ => cases hw)
  | K + 1, P, h, v, hv => by
    cases v with
    | nil => cases hv
    | cons a t =>
      have main : ∀ (n : Nat) (a : Nat), a < n → ∀ t : List Nat, t.length = K → P (a :: t) := by
        intro n
        induction n with
        | zero => intro a ha; omega
        | succ n ih =>
          intro a ha t ht
          refine lx_ind K (fun t => P (a :: t)) (fun t ht hlt => h (a :: t) (by rw [List.length_cons, ht]) (fun w hw hl => ?_)) t ht
          cases w with
          | nil => cases hw
          | cons b u =>
            have hu : u.length = K := by rw [List.length_cons] at hw; omega
            rcases hl with hl | ⟨e, hl⟩
            · exact ih b (by omega) u hu
            · subst e; exact hlt u hu hl
      exact main (a + 1) a (by omega) t (by rw [List.length_cons] at hv; omega)
/-- a distance that follows; a bound of 2^32 and more says nothing -/
def lo_le (lo l : Int) : Bool := decide (lo ≤ l) || decide (lo ≤ -4294967296)
def hi_le (h hi : Int) : Bool := decide (h ≤ hi) || decide (4294967296 ≤ hi)
def lo_sub (lo l : Int) : Int := if lo ≤ -4294967296 then -8589934592 else lo - l
def hi_sub (hi h : Int) : Int := if 4294967296 ≤ hi then 8589934592 else hi - h
theorem lo_le_ok {lo l : Int} {x z : Int32} (h : lo_le lo l = true) (k : z.toInt + l ≤ x.toInt) : z.toInt + lo ≤ x.toInt := by
  unfold lo_le at h
  simp only [Bool.or_eq_true, decide_eq_true_eq] at h
  have := x.le_toInt; have := z.toInt_lt
  omega
theorem hi_le_ok {hi h0 : Int} {x z : Int32} (h : hi_le h0 hi = true) (k : x.toInt ≤ z.toInt + h0) : x.toInt ≤ z.toInt + hi := by
  unfold hi_le at h
  simp only [Bool.or_eq_true, decide_eq_true_eq] at h
  have := z.le_toInt; have := x.toInt_lt
  omega
theorem lo_sub_ok {lo l : Int} {x z b : Int32} (k : b.toInt + l ≤ x.toInt) (h : z.toInt + lo_sub lo l ≤ b.toInt) : z.toInt + lo ≤ x.toInt := by
  unfold lo_sub at h
  have := x.le_toInt; have := z.toInt_lt
  split at h <;> omega
theorem hi_sub_ok {hi h0 : Int} {x z b : Int32} (k : x.toInt ≤ b.toInt + h0) (h : b.toInt ≤ z.toInt + hi_sub hi h0) : x.toInt ≤ z.toInt + hi := by
  unfold hi_sub at h
  have := z.le_toInt; have := x.toInt_lt
  split at h <;> omega
def rl_1 (y : sy_T) (n m : Nat) (lo hi : Int) : Bool := (n == m && decide (lo ≤ 0) && decide (0 ≤ hi)) || y.2.2.2.2.1.any (fun q => (q.1 == n && q.2.1 == m && lo_le lo q.2.2.1 && hi_le q.2.2.2 hi) || (q.1 == m && q.2.1 == n && lo_le lo (-q.2.2.2) && hi_le (-q.2.2.1) hi)) || (match y.1[n]?, y.1[m]? with
  | some t, some u => decide (t.1 = 0) && decide (u.1 = 0) && lo_le lo (t.2.1 - u.2.2.1) && hi_le (t.2.2.1 - u.2.1) hi
  | _, _ => false)
theorem rl_1_ok {ta : Nat → Option Nat} {ws : va_W} {vs : List Value} {ls : Array Slot} {nL : Nat} {st : List Value} {y : sy_T} (hy : sy_ok ta ws vs ls nL st y) {n m : Nat} {x z : Int32} (hn : vs[n]? = some (.int x)) (hm : vs[m]? = some (.int z)) {lo hi : Int} (h : rl_1 y n m lo hi = true) : z.toInt + lo ≤ x.toInt ∧ x.toInt ≤ z.toInt + hi := by
  unfold rl_1 at h
  rcases Bool.or_eq_true_iff.mp h with h | h
  · rcases Bool.or_eq_true_iff.mp h with h | h
    · simp only [Bool.and_eq_true, beq_iff_eq, decide_eq_true_eq] at h
      rw [h.1.1, hm] at hn
      obtain rfl := Value.int.inj (Option.some.inj hn)
      omega
    · obtain ⟨q, q1, q2⟩ := List.any_eq_true.mp h
      obtain ⟨a, b, c1, c2, c3, c4⟩ := hy.2.2.2.2.1 q q1
      rcases Bool.or_eq_true_iff.mp q2 with q2 | q2
      · simp only [Bool.and_eq_true, beq_iff_eq] at q2
        rw [q2.1.1.1, hn] at c1
        rw [q2.1.1.2, hm] at c2
        obtain rfl := Value.int.inj (Option.some.inj c1)
        obtain rfl := Value.int.inj (Option.some.inj c2)
        exact ⟨lo_le_ok q2.1.2 c3, hi_le_ok q2.2 c4⟩
      · simp only [Bool.and_eq_true, beq_iff_eq] at q2
        rw [q2.1.1.1, hm] at c1
        rw [q2.1.1.2, hn] at c2
        obtain rfl := Value.int.inj (Option.some.inj c1)
        obtain rfl := Value.int.inj (Option.some.inj c2)
        exact ⟨lo_le_ok q2.1.2 (by omega), hi_le_ok q2.2 (by omega)⟩
  · split at h
    · rename_i t u ht hu
      simp only [Bool.and_eq_true, decide_eq_true_eq] at h
      obtain ⟨x_zq, e1, a1, a2⟩ := tv_int (hy.1.2 n t _ ht hn) h.1.1.1
      obtain ⟨z_zq, e2, b1, b2⟩ := tv_int (hy.1.2 m u _ hu hm) h.1.1.2
      obtain rfl := Value.int.inj e1
      obtain rfl := Value.int.inj e2
      exact ⟨lo_le_ok h.1.2 (by omega), hi_le_ok h.2 (by omega)⟩
    · cases h
/-- in two steps: by a name between, or by one that both lie apart from -/
def rl_ok (y : sy_T) (n m : Nat) (lo hi : Int) : Bool := rl_1 y n m lo hi || y.2.2.2.2.1.any (fun q => q.1 == n && (rl_1 y q.2.1 m (lo_sub lo q.2.2.1) (hi_sub hi q.2.2.2) || y.2.2.2.2.1.any (fun w => w.1 == m && w.2.1 == q.2.1 && lo_le lo (q.2.2.1 - w.2.2.2) && hi_le (q.2.2.2 - w.2.2.1) hi)))
theorem rl_ok_ok {ta : Nat → Option Nat} {ws : va_W} {vs : List Value} {ls : Array Slot} {nL : Nat} {st : List Value} {y : sy_T} (hy : sy_ok ta ws vs ls nL st y) {n m : Nat} {x z : Int32} (hn : vs[n]? = some (.int x)) (hm : vs[m]? = some (.int z)) {lo hi : Int} (h : rl_ok y n m lo hi = true) : z.toInt + lo ≤ x.toInt ∧ x.toInt ≤ z.toInt + hi := by
  unfold rl_ok at h
  rcases Bool.or_eq_true_iff.mp h with h | h
  · exact rl_1_ok hy hn hm h
  · obtain ⟨q, q1, q2⟩ := List.any_eq_true.mp h
    rw [Bool.and_eq_true] at q2
    have e1 : q.1 = n := by simpa using q2.1
    obtain ⟨a, b, c1, c2, c3, c4⟩ := hy.2.2.2.2.1 q q1
    rw [e1, hn] at c1
    obtain rfl := Value.int.inj (Option.some.inj c1)
    rcases Bool.or_eq_true_iff.mp q2.2 with q3 | q3
    · have k := rl_1_ok hy c2 hm q3
      exact ⟨lo_sub_ok c3 k.1, hi_sub_ok c4 k.2⟩
    · obtain ⟨w, w1, w2⟩ := List.any_eq_true.mp q3
      simp only [Bool.and_eq_true, beq_iff_eq] at w2
      obtain ⟨a2, b2, d1, d2, d3, d4⟩ := hy.2.2.2.2.1 w w1
      rw [w2.1.1.1, hm] at d1
      rw [w2.1.1.2, c2] at d2
      obtain rfl := Value.int.inj (Option.some.inj d1)
      obtain rfl := Value.int.inj (Option.some.inj d2)
      exact ⟨lo_le_ok w2.1.2 (by omega), hi_le_ok w2.2 (by omega)⟩
def me_dn (y : sy_T) (o : me_T) (n : Nat) (t : tv_T) : Bool := if o.1 = 1 then decide (t.2.2.1 ≤ o.2.2) && rl_ok y n o.2.1 1 BIG else decide (o.2.2 ≤ t.2.1) && rl_ok y n o.2.1 (-BIG) (-1)
/-- 0: less, 1: the same, 2: not known -/
def me_one (y : sy_T) (an : an_T) (o w : me_T) : Nat :=
  if o.1 = 0 then (if w.1 = 0 then (if 0 ≤ w.2.2 ∧ w.2.2 < o.2.2 then 0 else if w.2.2 = o.2.2 then 1 else 2) else 2)
  else if o.1 = w.1 ∧ o.2.2 = w.2.2 ∧ o.1 ≤ 2 then (match nm_of y an w.2.1 with
    | some n => if n = o.2.1 then 1 else (match y.1[n]?, y.1[o.2.1]? with
      | some t, some u => if (decide (t.1 = 0) && decide (u.1 = 0) && me_dn y o n t) = true then 0 else if (decide (t.1 = 0) && decide (u.1 = 0) && rl_ok y n o.2.1 0 0) = true then 1 else 2
      | _, _ => 2)
    | none => 2)
  else 2
def me_chk (y : sy_T) (an : an_T) : List me_T → List me_T → Bool
  | o :: os, w :: ws => (match me_one y an o w with | 0 => true | 1 => me_chk y an os ws | _ => false)
  | _, _ => false
/-- the kinds and the distances of a note hold -/
def an_ty (y : sy_T) (an : an_T) : Nat → List tv_T → Bool
  | _, [] => true
  | k, t :: r => (match nm_of y an k with | some n => nm_le y n t | none => false) && an_ty y an (k + 1) r
def an_rl (y : sy_T) (an : an_T) (q : of_T) : Bool := match nm_of y an q.1, nm_of y an q.2.1 with
  | some n, some m => (match y.1[n]?, y.1[m]? with
    | some t, some u => decide (t.1 = 0) && decide (u.1 = 0) && rl_ok y n m q.2.2.1 q.2.2.2
    | _, _ => false)
  | _, _ => false
def an_sub (old : List me_T) (an : an_T) (y : sy_T) (ce sl : Nat) : Bool := decide (y.2.2.1.length = an.2.2.1.length) && an_ty y an 0 (an_ts an) && an.2.2.2.2.2.1.all (an_rl y an) && decide (ce ≤ an.2.2.2.1.1) && decide (sl ≤ an.2.2.2.1.2) && me_chk y an old an.2.2.2.2.1
def an_v (y : sy_T) (an : an_T) (vs : List Value) (k : Nat) : Value := ((nm_of y an k).bind (fun n => vs[n]?)).getD .null
def an_vs (y : sy_T) (an : an_T) (vs : List Value) : List Value := (List.range (an_ts an).length).map (an_v y an vs)
theorem an_vs_at {y : sy_T} {an : an_T} {vs : List Value} {k : Nat} (hk : k < (an_ts an).length) : (an_vs y an vs)[k]? = some (an_v y an vs k) := by
  unfold an_vs
  rw [List.getElem?_map, List.getElem?_range hk]; rfl
theorem an_ty_ok {y : sy_T} {an : an_T} : ∀ {L : List tv_T} {k : Nat}, an_ty y an k L = true → ∀ (i : Nat) (t : tv_T), L[i]? = some t → ∃ n, nm_of y an (k + i) = some n ∧ nm_le y n t = true
  | [], _, _, i, t, ht => by cases ht
  | t0 :: L, k, h, i, t, ht => by
    unfold an_ty at h
    rw [Bool.and_eq_true] at h
    cases i with
    | zero =>
      have e : t0 = t := Option.some.inj ht
      have h1 := h.1
      split at h1
      · rename_i n hn; exact ⟨n, hn, e ▸ h1⟩
      · cases h1
    | succ i =>
      obtain ⟨n, a, b⟩ := an_ty_ok h.2 i t ht
      exact ⟨n, by rw [← a]; congr 1; omega, b⟩
theorem sy_has {ta : Nat → Option Nat} {y : sy_T} {vs : List Value} {n : Nat} {t : tv_T} (h : sy_env ta y.1 vs) (hn : nm_le y n t = true) : ∃ v, vs[n]? = some v := by
  unfold nm_le at hn
  split at hn
  · rename_i u hu
    have := (List.getElem?_eq_some_iff.mp hu).1
    rw [← h.1] at this
    exact ⟨_, List.getElem?_eq_getElem this⟩
  · cases hn
/-- every place of a note that holds has its value -/
theorem an_at {ta : Nat → Option Nat} {ws : va_W} {vs : List Value} {ls : Array Slot} {nL : Nat} {st : List Value} {y : sy_T} {an : an_T} (hy : sy_ok ta ws vs ls nL st y) (h : an_ty y an 0 (an_ts an) = true) {k : Nat} {t : tv_T} (ht : (an_ts an)[k]? = some t) : ∃ n, nm_of y an k = some n ∧ vs[n]? = some (an_v y an vs k) ∧ tv_ok ta t (an_v y an vs k) := by
  obtain ⟨n, h1, h2⟩ := an_ty_ok h k t ht
  rw [Nat.zero_add] at h1
  obtain ⟨v, hv⟩ := sy_has hy.1 h2
  have e : an_v y an vs k = v := by unfold an_v; rw [h1]; show (vs[n]?).getD .null = v; rw [hv]; rfl
  rw [e]
  exact ⟨n, h1, hv, nm_le_ok hy hv h2⟩
theorem an_loc_mem : ∀ {L : List (Nat × tv_T)} {k : Nat} {q : Nat × Nat}, q ∈ an_loc L k → ∃ (i : Nat) (t : tv_T), L[i]? = some (q.1, t) ∧ q.2 = k + i
  | [], _, _, h => by cases h
  | z :: L, k, q, h => by
    unfold an_loc at h
    rcases List.mem_cons.mp h with rfl | h
    · exact ⟨0, z.2, rfl, by omega⟩
    · obtain ⟨i, t, h1, h2⟩ := an_loc_mem h
      exact ⟨i + 1, t, h1, by omega⟩
theorem an_mem_mem : ∀ {L : List ((Nat × Nat) × tv_T)} {s k : Nat} {q : (Nat × Nat) × Nat}, q ∈ an_mem s k L → ∃ (i o : Nat) (t : tv_T), L[i]? = some ((o, q.1.2), t) ∧ q.1.1 = s + o ∧ q.2 = k + i
  | [], _, _, _, h => by cases h
  | z :: L, s, k, q, h => by
    unfold an_mem at h
    rcases List.mem_cons.mp h with rfl | h
    · exact ⟨0, z.1.1, z.2, rfl, rfl, by omega⟩
    · obtain ⟨i, o, t, h1, h2, h3⟩ := an_mem_mem h
      exact ⟨i + 1, o, t, h1, h2, by omega⟩
theorem an_dv_mem : ∀ {L : List tv_T} {k : Nat} {q : Nat × Nat}, q ∈ an_dv L k → ∃ (i : Nat) (t : tv_T), L[i]? = some t ∧ t.1 = 5 ∧ q = (k + i, t.2.2.2.headD 1)
  | [], _, _, h => by cases h
  | t0 :: L, k, q, h => by
    unfold an_dv at h
    have tl : q ∈ an_dv L (k + 1) → ∃ (i : Nat) (t : tv_T), (t0 :: L)[i]? = some t ∧ t.1 = 5 ∧ q = (k + i, t.2.2.2.headD 1) := fun h => by
      obtain ⟨i, t, h1, h2, h3⟩ := an_dv_mem h
      exact ⟨i + 1, t, h1, h2, by rw [h3]; congr 1; omega⟩
    split at h
    · rename_i h5
      rcases List.mem_cons.mp h with rfl | h
      · exact ⟨0, t0, rfl, h5, rfl⟩
      · exact tl h
    · exact tl h
theorem sy_st_len {vs : List Value} : ∀ {r : List Nat} {st : List Value}, sy_st vs r st → r.length = st.length
  | [], [], _ => rfl
  | _ :: r, _ :: st, h => by rw [List.length_cons, List.length_cons, sy_st_len h.2]
  | [], _ :: _, h => h.elim
  | _ :: _, [], h => h.elim
theorem sy_st_at {vs : List Value} : ∀ {r : List Nat} {st : List Value}, sy_st vs r st → ∀ (i n : Nat), r[i]? = some n → vs[n]? = st[i]?
  | [], [], _, i, n, h => by cases h
  | m :: r, v :: st, h, i, n, hn => by
    cases i with
    | zero => rw [← Option.some.inj hn]; exact h.1
    | succ i => exact sy_st_at h.2 i n hn
  | [], _ :: _, h, _, _, _ => h.elim
  | _ :: _, [], h, _, _, _ => h.elim
theorem an_st_of {L : List Value} : ∀ {ts : List tv_T} {st : List Value} {n : Nat}, st.length = ts.length → (∀ i, i < ts.length → L[n + i]? = st[i]?) → sy_st L (an_st n ts) st
  | [], [], _, _, _ => trivial
  | t :: ts, v :: st, n, h, hl => by
    refine ⟨?_, an_st_of (by rw [List.length_cons, List.length_cons] at h; omega) (fun i hi => ?_)⟩
    · have := hl 0 (by rw [List.length_cons]; omega)
      rw [Nat.add_zero] at this
      exact this
    · have := hl (i + 1) (by rw [List.length_cons]; omega)
      rw [show n + (i + 1) = n + 1 + i by omega] at this
      exact this
  | [], _ :: _, _, h, _ => by cases h
  | _ :: _, [], _, h, _ => by cases h
theorem an_l0 (an : an_T) : (an_t0 an).length = an_n0 an := by
  unfold an_t0 an_n0
  rw [List.length_append, List.length_append, List.length_map, List.length_map]
theorem an_len (an : an_T) : (an_ts an).length = an_R an + an_n0 an + an.2.2.2.2.2.2.2.2.2.1.length := by
  unfold an_ts an_R
  rw [List.length_append, List.length_append, an_l0]; omega
theorem an_ts0 {an : an_T} {i : Nat} {t : tv_T} (h : (an_t0 an)[i]? = some t) : (an_ts an)[an_R an + i]? = some t := by
  have hi := (List.getElem?_eq_some_iff.mp h).1
  unfold an_ts an_R
  rw [List.getElem?_append_right (by omega), show an.2.2.2.2.2.2.2.1.length + i - an.2.2.2.2.2.2.2.1.length = i by omega, List.getElem?_append_left hi]; exact h
theorem an_ts_loc {an : an_T} {i : Nat} {q : Nat × tv_T} (h : an.2.1[i]? = some q) : (an_ts an)[an_R an + i]? = some q.2 := by
  have hi := (List.getElem?_eq_some_iff.mp h).1
  refine an_ts0 ?_
  unfold an_t0
  rw [List.append_assoc, List.getElem?_append_left (by rw [List.length_map]; exact hi), List.getElem?_map, h]; rfl
theorem an_ts_mem {an : an_T} {i : Nat} {q : (Nat × Nat) × tv_T} (h : an.2.2.2.2.2.2.1[i]? = some q) : (an_ts an)[an_R an + (an.2.1.length + an.2.2.1.length + i)]? = some q.2 := by
  refine an_ts0 ?_
  unfold an_t0
  rw [List.getElem?_append_right (by rw [List.length_append, List.length_map]; omega), List.length_append, List.length_map, List.getElem?_map, show an.2.1.length + an.2.2.1.length + i - (an.2.1.length + an.2.2.1.length) = i by omega, h]; rfl
theorem nm_of_lt {y : sy_T} {an : an_T} {k n : Nat} (h : nm_of y an k = some n) : k < (an_ts an).length := by
  rw [an_len]
  unfold nm_of at h
  split at h
  · omega
  · split at h
    · omega
    · split at h
      · omega
      · cases h
/-- what fits a note has its picture -/
theorem an_in {ta : Nat → Option Nat} {ws : va_W} {vs : List Value} {ls : Array Slot} {nL : Nat} {st : List Value} {y : sy_T} {an : an_T} (hy : sy_ok ta ws vs ls nL st y) (h0 : y.2.2.1.length = an.2.2.1.length) (h1 : an_ty y an 0 (an_ts an) = true) (h2 : an.2.2.2.2.2.1.all (an_rl y an) = true) : sy_ok ta ws (an_vs y an vs) ls nL st (an_y an) := by
  have hN := an_len an
  have hvl : (an_vs y an vs).length = (an_ts an).length := by unfold an_vs; rw [List.length_map, List.length_range]
  refine ⟨⟨?_, fun i t v e1 e2 => ?_⟩, ⟨hy.2.1.1, hy.2.1.2.1, fun q hq => ?_⟩, ?_, fun q hq => ?_, fun q hq => ?_, fun q hq => ?_⟩
  · show _ = ((an_ts an).map nrm).length
    rw [hvl, List.length_map]
  · have e1_zq : ((an_ts an).map nrm)[i]? = some t := e1
    rw [List.getElem?_map] at e1_zq
    obtain ⟨t0, e3, e4⟩ := Option.map_eq_some_iff.mp e1_zq
    obtain ⟨n, _, _, b3⟩ := an_at hy h1 e3
    rw [an_vs_at (List.getElem?_eq_some_iff.mp e3).1] at e2
    rw [← e4, ← Option.some.inj e2]
    exact nrm_ok b3
  · obtain ⟨i, t, e1, e2⟩ := an_loc_mem hq
    have hi := (List.getElem?_eq_some_iff.mp e1).1
    have e3 := an_ts_loc e1
    obtain ⟨n, b1, b2, b3⟩ := an_at hy h1 e3
    rw [nm_mid (by unfold an_n0; omega)] at b1
    unfold nm_o0 at b1
    rw [if_pos hi, e1] at b1
    obtain ⟨v, c1, c2⟩ := hy.2.1.2.2 (q.1, n) (sy_find_ok b1)
    refine ⟨an_v y an vs (an_R an + i), by rw [e2]; exact an_vs_at (List.getElem?_eq_some_iff.mp e3).1, ?_⟩
    have c1_zq : vs[n]? = some v := c1
    rw [b2] at c1_zq
    rw [Option.some.inj c1_zq]; exact c2
  · have hl := sy_st_len hy.2.2.1
    refine an_st_of (by omega) (fun i hi => ?_)
    have hk : an_R an + (an.2.1.length + i) < (an_ts an).length := by rw [hN]; unfold an_n0; omega
    obtain ⟨n, b1, b2, b3⟩ := an_at hy h1 (List.getElem?_eq_getElem hk)
    rw [Nat.add_assoc, an_vs_at hk]
    rw [nm_mid (by unfold an_n0; omega)] at b1
    unfold nm_o0 at b1
    rw [if_neg (by omega), if_pos (by omega), show an.2.1.length + i - an.2.1.length = i by omega] at b1
    rw [← sy_st_at hy.2.2.1 i n b1, b2]
  · obtain ⟨i, lo, t, e1, e0, e2⟩ := an_mem_mem hq
    have hi := (List.getElem?_eq_some_iff.mp e1).1
    have e3 := an_ts_mem e1
    obtain ⟨n, b1, b2, b3⟩ := an_at hy h1 e3
    rw [nm_mid (by unfold an_n0; omega)] at b1
    unfold nm_o0 at b1
    rw [if_neg (by omega), if_neg (by omega), show an.2.1.length + an.2.2.1.length + i - (an.2.1.length + an.2.2.1.length) = i by omega, e1] at b1
    have b1_zq : ((an.2.1[lo]?).bind (fun z => sy_find y.2.1 z.1)).bind (fun o => sy_mfind y o q.1.2) = some n := b1
    obtain ⟨o, o1, o2⟩ := Option.bind_eq_some_iff.mp b1_zq
    obtain ⟨z, z1, z2⟩ := Option.bind_eq_some_iff.mp o1
    have hz := (List.getElem?_eq_some_iff.mp z1).1
    have e4 := an_ts_loc z1
    obtain ⟨n2, d1, d2, d3⟩ := an_at hy h1 e4
    rw [nm_mid (by unfold an_n0; omega)] at d1
    unfold nm_o0 at d1
    rw [if_pos hz, z1] at d1
    have d1_zq : sy_find y.2.1 z.1 = some n2 := d1
    rw [z2] at d1_zq
    obtain rfl := Option.some.inj d1_zq
    obtain ⟨a, ci, fs, v, m1, m2, m3, m4⟩ := hy.2.2.2.1 _ (sy_mfind_ok o2)
    have m1_zq : vs[o]? = some (.ref a) := m1
    have m4_zq : vs[n]? = some v := m4
    rw [d2] at m1_zq
    rw [b2] at m4_zq
    refine ⟨a, ci, fs, v, ?_, m2, m3, ?_⟩
    · rw [e0, an_vs_at (List.getElem?_eq_some_iff.mp e4).1, Option.some.inj m1_zq]
    · rw [e2, Nat.add_assoc, an_vs_at (List.getElem?_eq_some_iff.mp e3).1, Option.some.inj m4_zq]
  · have hr := List.all_eq_true.mp h2 q hq
    unfold an_rl at hr
    split at hr
    · rename_i n m hn hm
      split at hr
      · rename_i t u ht hu
        simp only [Bool.and_eq_true, decide_eq_true_eq] at hr
        have ln := (List.getElem?_eq_some_iff.mp ht).1
        have lm := (List.getElem?_eq_some_iff.mp hu).1
        rw [← hy.1.1] at ln lm
        obtain ⟨x, ex, _, _⟩ := tv_int (hy.1.2 n t _ ht (List.getElem?_eq_getElem ln)) hr.1.1
        obtain ⟨z, ez, _, _⟩ := tv_int (hy.1.2 m u _ hu (List.getElem?_eq_getElem lm)) hr.1.2
        have vn : vs[n]? = some (.int x) := by rw [List.getElem?_eq_getElem ln, ex]
        have vm : vs[m]? = some (.int z) := by rw [List.getElem?_eq_getElem lm, ez]
        have key := rl_ok_ok hy vn vm hr.2
        have an1 : an_v y an vs q.1 = .int x := by unfold an_v; rw [hn]; show (vs[n]?).getD .null = _; rw [vn]; rfl
        have an2 : an_v y an vs q.2.1 = .int z := by unfold an_v; rw [hm]; show (vs[m]?).getD .null = _; rw [vm]; rfl
        have k1 : q.1 < (an_ts an).length := nm_of_lt hn
        have k2 : q.2.1 < (an_ts an).length := nm_of_lt hm
        exact ⟨x, z, by rw [an_vs_at k1, an1], by rw [an_vs_at k2, an2], key.1, key.2⟩
      · cases hr
    · cases hr
  · obtain ⟨i, t, e1, e2, e3⟩ := an_dv_mem hq
    obtain ⟨n, b1, b2, b3⟩ := an_at hy h1 e1
    obtain ⟨x, ex, _, _, k, hk⟩ := tv_div b3 e2
    refine ⟨x, k, ?_, ?_⟩
    · rw [e3]
      show (an_vs y an vs)[0 + i]? = _
      rw [Nat.zero_add, an_vs_at (List.getElem?_eq_some_iff.mp e1).1, ex]
    · rw [e3]; exact hk
theorem pre_at {v0 vs : List Value} (h : v0 <+: vs) {i : Nat} {v : Value} (hv : v0[i]? = some v) : vs[i]? = some v := by
  obtain ⟨t, rfl⟩ := h
  rw [List.getElem?_append_left (List.getElem?_eq_some_iff.mp hv).1]; exact hv
/-- what falls, falls -/
theorem me_one_ok {ta : Nat → Option Nat} {ws : va_W} {vs v0 : List Value} {ls : Array Slot} {nL : Nat} {st : List Value} {y : sy_T} {an : an_T} (hy : sy_ok ta ws vs ls nL st y) (h1 : an_ty y an 0 (an_ts an) = true) (hp : v0 <+: vs) {o w : me_T} (ho : o.1 = 0 ∨ o.2.1 < v0.length) : (me_one y an o w = 0 → me_val (an_vs y an vs) w < me_val v0 o) ∧ (me_one y an o w = 1 → me_val (an_vs y an vs) w = me_val v0 o) := by
  unfold me_one
  by_cases h0 : o.1 = 0
  · rw [if_pos h0]
    by_cases hw : w.1 = 0
    · rw [if_pos hw]
      have e1 : me_val v0 o = o.2.2.toNat := by unfold me_val; rw [h0]; rfl
      have e2 : me_val (an_vs y an vs) w = w.2.2.toNat := by unfold me_val; rw [hw]; rfl
      rw [e1, e2]
      refine ⟨fun h => ?_, fun h => ?_⟩
      · split at h
        · omega
        · split at h <;> cases h
      · split at h
        · cases h
        · split at h
          · rename_i e; rw [e]
          · cases h
    · rw [if_neg hw]; exact ⟨fun h => absurd h (by decide), fun h => absurd h (by decide)⟩
  · rw [if_neg h0]
    have ho2 := ho.resolve_left h0
    by_cases hk : o.1 = w.1 ∧ o.2.2 = w.2.2 ∧ o.1 ≤ 2
    · rw [if_pos hk]
      split
      · rename_i n hn
        have hk1 : w.2.1 < (an_ts an).length := nm_of_lt hn
        obtain ⟨n_zq, b1, b2, _⟩ := an_at hy h1 (List.getElem?_eq_getElem hk1)
        rw [hn] at b1
        obtain rfl := Option.some.inj b1
        have hnew : (an_vs y an vs)[w.2.1]? = some (an_v y an vs w.2.1) := an_vs_at hk1
        have hold : v0[o.2.1]? = some v0[o.2.1] := List.getElem?_eq_getElem ho2
        have hold2 := pre_at hp hold
        split
        · rename_i en
          subst en
          refine ⟨fun h => absurd h (by decide), fun _ => ?_⟩
          rw [hold2] at b2
          have e5 := Option.some.inj b2
          unfold me_val
          rw [← hk.1, hnew, hold, e5, hk.2.1]
        · split
          · rename_i t u ht hu
            have kinds : t.1 = 0 → u.1 = 0 → ∃ x z : Int32, vs[n]? = some (.int x) ∧ vs[o.2.1]? = some (.int z) ∧ t.2.1 ≤ x.toInt ∧ x.toInt ≤ t.2.2.1 ∧ an_v y an vs w.2.1 = .int x ∧ v0[o.2.1] = .int z := fun k1 k2 => by
              obtain ⟨x, ex, x1, x2⟩ := tv_int (hy.1.2 n t _ ht b2) k1
              obtain ⟨z, ez, _, _⟩ := tv_int (hy.1.2 o.2.1 u _ hu hold2) k2
              exact ⟨x, z, by rw [b2, ex], by rw [hold2, ez], x1, x2, ex, ez⟩
            split
            · rename_i hc
              refine ⟨fun _ => ?_, fun h => absurd h (by decide)⟩
              rw [Bool.and_eq_true, Bool.and_eq_true] at hc
              obtain ⟨⟨c1, c2⟩, c3⟩ := hc
              obtain ⟨x, z, vx, vz, x1, x2, ax, az⟩ := kinds (by simpa using c1) (by simpa using c2)
              unfold me_dn at c3
              unfold me_val
              rw [← hk.1, hnew, hold, ax, az, ← hk.2.1]
              have ok : o.1 = 1 ∨ o.1 = 2 := by have := hk.2.2; omega
              rcases ok with ok | ok
              · rw [if_pos ok, Bool.and_eq_true] at c3
                have c4 : t.2.2.1 ≤ o.2.2 := by simpa using c3.1
                have c5 := rl_ok_ok hy vx vz c3.2
                rw [ok]
                show (o.2.2 - x.toInt).toNat < (o.2.2 - z.toInt).toNat
                omega
              · rw [if_neg (by omega), Bool.and_eq_true] at c3
                have c4 : o.2.2 ≤ t.2.1 := by simpa using c3.1
                have c5 := rl_ok_ok hy vx vz c3.2
                rw [ok]
                show (x.toInt - o.2.2).toNat < (z.toInt - o.2.2).toNat
                omega
            · split
              · rename_i hc
                refine ⟨fun h => absurd h (by decide), fun _ => ?_⟩
                rw [Bool.and_eq_true, Bool.and_eq_true] at hc
                obtain ⟨⟨c1, c2⟩, c3⟩ := hc
                obtain ⟨x, z, vx, vz, x1, x2, ax, az⟩ := kinds (by simpa using c1) (by simpa using c2)
                have c5 := rl_ok_ok hy vx vz c3
                have c6 : x.toInt = z.toInt := by omega
                unfold me_val
                rw [← hk.1, hnew, hold, ax, az, ← hk.2.1]
                simp only [c6]
              · exact ⟨fun h => absurd h (by decide), fun h => absurd h (by decide)⟩
          · exact ⟨fun h => absurd h (by decide), fun h => absurd h (by decide)⟩
      · exact ⟨fun h => absurd h (by decide), fun h => absurd h (by decide)⟩
    · rw [if_neg hk]; exact ⟨fun h => absurd h (by decide), fun h => absurd h (by decide)⟩
theorem me_chk_ok {ta : Nat → Option Nat} {ws : va_W} {vs v0 : List Value} {ls : Array Slot} {nL : Nat} {st : List Value} {y : sy_T} {an : an_T} (hy : sy_ok ta ws vs ls nL st y) (h1 : an_ty y an 0 (an_ts an) = true) (hp : v0 <+: vs) : ∀ {os ws_zq : List me_T}, (∀ o ∈ os, o.1 = 0 ∨ o.2.1 < v0.length) → me_chk y an os ws_zq = true → lx_lt (ws_zq.map (me_val (an_vs y an vs))) (os.map (me_val v0))
  | [], _, _, h => by cases h
  | _ :: _, [], _, h => by cases h
  | o :: os, w :: ws_zq, ho, h => by
    have key := me_one_ok (an := an) hy h1 hp (o := o) (w := w) (ho o List.mem_cons_self)
    unfold me_chk at h
    rw [List.map_cons, List.map_cons]
    split at h
    · rename_i e; exact Or.inl (key.1 e)
    · rename_i e; exact Or.inr ⟨key.2 e, me_chk_ok hy h1 hp (fun o ho_zq => ho o (List.mem_cons_of_mem _ ho_zq)) h⟩
    · cases h
theorem ag_at {ta : Nat → Option Nat} : ∀ {ts : List tv_T} {vs : List Value}, ag_ok ta ts vs → ∀ (i : Nat) (t : tv_T) (v : Value), ts[i]? = some t → vs[i]? = some v → tv_ok ta t v
  | [], [], _, i, t, v, h1, _ => by cases h1
  | t0 :: ts, v0 :: vs, h, i, t, v, h1, h2 => by
    cases i with
    | zero => rw [← Option.some.inj h1, ← Option.some.inj h2]; exact h.1
    | succ i => exact ag_at h.2 i t v h1 h2
  | [], _ :: _, h, _, _, _, _, _ => h.elim
  | _ :: _, [], h, _, _, _, _, _ => h.elim
/-- the note, with the first of the names that are no locals -/
def an_gb (an : an_T) (b : Nat) : an_T := (an.1, an.2.1, an.2.2.1, an.2.2.2.1, an.2.2.2.2.1, an.2.2.2.2.2.1, an.2.2.2.2.2.2.1, an.2.2.2.2.2.2.2.1, b, an.2.2.2.2.2.2.2.2.2)
theorem an_pre {ta : Nat → Option Nat} {ws : va_W} {vs bv : List Value} {ls : Array Slot} {nL : Nat} {st : List Value} {y : sy_T} {an : an_T} (hy : sy_ok ta ws vs ls nL st y) (h1 : an_ty y an 0 (an_ts an) = true) (hp : bv <+: vs) (hl : bv.length = an_R an) : bv <+: an_vs y an vs := by
  refine List.prefix_iff_getElem?.mpr (fun i hi => ?_)
  have hk : i < (an_ts an).length := by rw [an_len]; omega
  rw [an_vs_at hk]
  obtain ⟨n, b1, b2, _⟩ := an_at hy h1 (List.getElem?_eq_getElem hk)
  unfold nm_of at b1
  rw [if_pos (by omega)] at b1
  obtain rfl := Option.some.inj b1
  have h3 := pre_at hp (List.getElem?_eq_getElem hi)
  rw [← b2, h3]
end
