/-! divisions and longs, with what they tell -/
theorem td_i64 {x y : Int64} (hy : 1 ≤ y.toInt) : (x / y).toInt = x.toInt.tdiv y.toInt := by
  rw [Int64.toInt_div]
  have h := td_in (a := x.toInt) hy
  have h1 := x.le_toInt
  have h2 := x.toInt_lt
  unfold mn2 mx2 at h
  refine Int.bmod_eq_of_le_mul_two ?_ ?_
  · show -(18446744073709551616 : Int) ≤ _
    split at h <;> omega
  · show _ < (18446744073709551616 : Int)
    split at h <;> omega
def ld_div (t u : tv_T) : tv_T := if 0 ≤ t.2.1 then (1, 0, t.2.2.1 / u.2.1, []) else (1, mn2 t.2.1 0, mx2 t.2.2.1 0, [])
theorem ld_div_ok {ta : Nat → Option Nat} {t u : tv_T} {x y : Int64} (hu : 1 ≤ u.2.1) (h1 : t.2.1 ≤ x.toInt) (h2 : x.toInt ≤ t.2.2.1) (h3 : u.2.1 ≤ y.toInt) (h4 : y.toInt ≤ u.2.2.1) : tv_ok ta (ld_div t u) (.long (x / y)) := by
  have e := td_i64 (x := x) (y := y) (by omega)
  have h := td_in (a := x.toInt) (b := y.toInt) (by omega)
  unfold ld_div
  split
  · rename_i h0
    have e2 : x.toInt.tdiv y.toInt = x.toInt / y.toInt := Int.tdiv_eq_ediv_of_nonneg (by omega)
    have q0 : 0 ≤ x.toInt / y.toInt := Int.ediv_nonneg (by omega) (by omega)
    have q1 : x.toInt / y.toInt ≤ t.2.2.1 / u.2.1 := by
      refine Int.le_ediv_of_mul_le (by omega) ?_
      have r1 : x.toInt / y.toInt * y.toInt ≤ x.toInt := Int.ediv_mul_le _ (by omega)
      have r2 : x.toInt / y.toInt * u.2.1 ≤ x.toInt / y.toInt * y.toInt := Int.mul_le_mul_of_nonneg_left (by omega) q0
      omega
    exact Or.inr (Or.inl ⟨rfl, _, rfl, by show (0 : Int) ≤ _; omega, by show _ ≤ t.2.2.1 / u.2.1; omega⟩)
  · refine Or.inr (Or.inl ⟨rfl, _, rfl, ?_, ?_⟩)
    · show mn2 t.2.1 0 ≤ (x / y).toInt
      have := h.1
      unfold mn2 at this ⊢
      split at this <;> split <;> omega
    · show (x / y).toInt ≤ mx2 t.2.2.1 0
      have := h.2
      unfold mx2 at this ⊢
      split at this <;> split <;> omega
/-- a divisor that is not 0: by its kind, or by a fact -/
def dv_z (fs : List fc_T) (b : Nat) (u : tv_T) : Bool := decide (1 ≤ u.2.1) || decide (u.2.2.1 ≤ -1) || (fc_now fs).contains (8, [b], [1])
def tr_dw (i : ClassFile.Instr) (len : Nat) (y : sy_T) (fs : List fc_T) : Option (sy_T × List fc_T) := match y.2.2.1 with
  | b :: a :: r => match y.1[a]?, y.1[b]? with
    | some t, some u => if len = 1 ∧ dv_z fs b u = true then (match i with
      | .idiv => if t.1 = 0 ∧ u.1 = 0 then (if 1 ≤ u.2.1 then some (sy_push y (iv_div t u) r, if u.2.1 = u.2.2.1 ∧ 0 ≤ t.2.1 then [(11, [y.1.length, a], [u.2.1])] else [(4, [y.1.length, a, b], [])]) else some (sy_push y iv_top r, [])) else none
      | .irem => if t.1 = 0 ∧ u.1 = 0 then (if 1 ≤ u.2.1 then some (if u.2.1 = u.2.2.1 then sy_push y (iv_rem t u) r else sy_off (sy_push y (iv_rem t u) r) y.1.length b (-4294967295) (-1), if u.2.1 = u.2.2.1 ∧ 0 ≤ t.2.1 then [(12, [y.1.length, a], [u.2.1])] else [(5, [y.1.length, a, b], [])]) else some (sy_push y iv_top r, [])) else none
      | .ldiv => if t.1 = 1 ∧ u.1 = 1 then (if 1 ≤ u.2.1 then some (sy_push y (ld_div t u) r, [(4, [y.1.length, a, b], [])]) else some (sy_push y lv_top r, [])) else none
      | .lrem => if t.1 = 1 ∧ u.1 = 1 then some (sy_push y lv_top r, []) else none
      | _ => none) else none
    | _, _ => none
  | _ => none
def lm_in (t u : tv_T) (lo hi : Int) : Bool := decide (t.1 = 1) && decide (u.1 = 1) && decide (-9223372036854775808 ≤ lo) && decide (hi ≤ 9223372036854775807)
def fc_opl (i : ClassFile.Instr) (y : sy_T) : List fc_T := match y.2.2.1 with
  | b :: a :: _ => match y.1[a]?, y.1[b]? with
    | some t, some u => match i with
      | .ladd => if lm_in t u (t.2.1 + u.2.1) (t.2.2.1 + u.2.2.1) = true then [(1, [y.1.length, a, b], [])] else []
      | .lsub => if lm_in t u (t.2.1 - u.2.2.1) (t.2.2.1 - u.2.1) = true then [(2, [y.1.length, a, b], [])] else []
      | .lmul => if lm_in t u (mn2 (mn2 (t.2.1 * u.2.1) (t.2.1 * u.2.2.1)) (mn2 (t.2.2.1 * u.2.1) (t.2.2.1 * u.2.2.1))) (mx2 (mx2 (t.2.1 * u.2.1) (t.2.1 * u.2.2.1)) (mx2 (t.2.2.1 * u.2.1) (t.2.2.1 * u.2.2.1))) = true then [(3, [y.1.length, a, b], [])] else []
      | _ => []
    | _, _ => []
  | _ => []
section M12d
variable {p : Program} {l : Launch} {e : Env} {R : Room} {s : State} {m : MethodId} {args : Array Value} {below : List Frame} {meth : Method} {c : Code} {H : Heap} {locs : List Loc} {cells slots : Nat} {Q : State → Prop} {cc : ByteArray} {pc : Nat} {i : ClassFile.Instr} {len nL : Nat} {v0 : List Value} {ta : Nat → Option Nat} {ws : va_W} {y y' : sy_T} {fs : List fc_T}
theorem nn_new {vs : List Value} {v : Value} {n : Nat} (h : vs.length = n) : (vs ++ [v])[n]? = some v := by rw [← h, List.getElem?_append_right (Nat.le_refl _), Nat.sub_self]; rfl
theorem fc_3 {c n a b : Nat} {vs : List Value} {ws : va_W} (hn : n < vs.length) (ha : a < vs.length) (hb : b < vs.length) (h : fc_m c [n_v vs n, n_v vs a, n_v vs b] [] ws) (hc : c < 100) : ∀ f ∈ [((c, [n, a, b], []) : fc_T)], f.1 < 100 ∧ fc_1 f ws vs := fun f hf => by
  rw [List.mem_singleton.mp hf]
  refine ⟨hc, fun q hq => ?_, h⟩
  simp only [List.mem_cons, List.not_mem_nil, or_false] at hq
  rcases hq with rfl | rfl | rfl <;> assumption
theorem fc_2 {c n a : Nat} {d : Int} {vs : List Value} {ws : va_W} (hn : n < vs.length) (ha : a < vs.length) (h : fc_m c [n_v vs n, n_v vs a] [d] ws) (hc : c < 100) : ∀ f ∈ [((c, [n, a], [d]) : fc_T)], f.1 < 100 ∧ fc_1 f ws vs := fun f hf => by
  rw [List.mem_singleton.mp hf]
  refine ⟨hc, fun q hq => ?_, h⟩
  simp only [List.mem_cons, List.not_mem_nil, or_false] at hq
  rcases hq with rfl | rfl <;> assumption
theorem dv_ne {vs : List Value} {b : Nat} {u : tv_T} {v : Value} (h : dv_z fs b u = true) (hf : fc_ok fs ta ws vs) (hb : vs[b]? = some v) (h1 : u.2.1 ≤ v_iv v) (h2 : v_iv v ≤ u.2.2.1) : v_iv v ≠ 0 := by
  unfold dv_z at h
  simp only [Bool.or_eq_true, decide_eq_true_eq] at h
  rcases h with (h | h) | h
  · omega
  · omega
  · have := fc_now_ok hf _ (List.contains_iff_mem.mp h)
    have h3 : cq 1 (v_iv (n_v vs b)) 0 := this.2.2
    rw [n_v_of hb] at h3
    exact h3
theorem tr_dw_ok {z : sy_T × List fc_T} (hx : p.tables.exec = Jvm.exec) (hb : c.code = cc) (hd : decode cc pc = .ok (i, len)) (h : tr_dw i len y fs = some z) {vs : List Value} {ls : Array Slot} {st : List Value} (hy : sy_ok ta ws vs ls nL st y) (hf : fc_ok fs ta ws vs)
    (k : ∀ vs' ls' st', vs <+: vs' → sy_ok ta ws vs' ls' nL st' z.1 → (∀ f ∈ z.2, f.1 < 100 ∧ fc_1 f ws vs') → W p l e R s m args below meth c H locs cells slots Q (F0 m (pc + len) ls' st')) : W p l e R s m args below meth c H locs cells slots Q (F0 m pc ls st) := by
  unfold tr_dw at h
  have hs := hy.2.2.1
  have hnil : ∀ (vs' : List Value), ∀ f ∈ ([] : List fc_T), f.1 < 100 ∧ fc_1 f ws vs' := fun _ f hf => absurd hf List.not_mem_nil
  split at h
  · rename_i b a r hst
    rw [hst] at hs
    split at h
    · rename_i t u hta hub
      obtain ⟨va, vb, rest, rfl, ha, hb2, oa, ob, hr⟩ := sy_two hy.1 hs hta hub
      have la := (List.getElem?_eq_some_iff.mp ha).1
      have lb := (List.getElem?_eq_some_iff.mp hb2).1
      split at h
      · rename_i hg
        obtain ⟨rfl, hz⟩ := hg
        have nv : ∀ (v : Value) (n : Nat) (w : Value), vs[n]? = some w → n_v (vs ++ [v]) n = w := fun v n w hw => n_v_of (by rw [List.getElem?_append_left (List.getElem?_eq_some_iff.mp hw).1]; exact hw)
        have nw : ∀ v : Value, n_v (vs ++ [v]) y.1.length = v := fun v => n_v_of (nn_new hy.1.1)
        have ll : ∀ v : Value, y.1.length < (vs ++ [v]).length ∧ a < (vs ++ [v]).length ∧ b < (vs ++ [v]).length := fun v => by
          have := hy.1.1
          rw [List.length_append, List.length_singleton]; omega
        split at h
        · split at h
          · rename_i hk
            obtain ⟨x, rfl, x1, x2⟩ := tv_int oa hk.1
            obtain ⟨w, rfl, w1, w2⟩ := tv_int ob hk.2
            have hne : v_iv (.int w) ≠ 0 := dv_ne hz hf hb2 w1 w2
            have hw0 : ¬ w = 0 := fun q => hne (by rw [q]; rfl)
            split at h
            · rename_i h1
              obtain rfl := Option.some.inj h
              refine lv_idiv hx hb hd hw0 (k (vs ++ [.int (x / w)]) ls _ (List.prefix_append _ _) (sy_pushed hy hr (iv_div_ok h1 x1 x2 w1 w2)) ?_)
              show ∀ f ∈ (if u.2.1 = u.2.2.1 ∧ 0 ≤ t.2.1 then [((11, [y.1.length, a], [u.2.1]) : fc_T)] else [(4, [y.1.length, a, b], [])]), _
              split
              · rename_i hq
                refine fc_2 (ll _).1 (ll _).2.1 ?_ (by decide)
                rw [nw, nv _ _ _ ha]
                have e0 := td_i32 (x := x) (y := w) (by omega)
                have e1 : x.toInt.tdiv w.toInt = x.toInt / w.toInt := Int.tdiv_eq_ediv_of_nonneg (by omega)
                show (x / w).toInt = x.toInt / u.2.1
                rw [e0, e1, show w.toInt = u.2.1 by omega]
              · refine fc_3 (ll _).1 (ll _).2.1 (ll _).2.2 ?_ (by decide)
                rw [nw, nv _ _ _ ha, nv _ _ _ hb2]
                exact td_i32 (by omega)
            · obtain rfl := Option.some.inj h
              exact lv_idiv hx hb hd hw0 (k (vs ++ [.int (x / w)]) ls _ (List.prefix_append _ _) (sy_pushed hy hr (iv_any _)) (hnil _))
          · cases h
        · split at h
          · rename_i hk
            obtain ⟨x, rfl, x1, x2⟩ := tv_int oa hk.1
            obtain ⟨w, rfl, w1, w2⟩ := tv_int ob hk.2
            have hne : v_iv (.int w) ≠ 0 := dv_ne hz hf hb2 w1 w2
            have hw0 : ¬ w = 0 := fun q => hne (by rw [q]; rfl)
            split at h
            · rename_i h1
              obtain rfl := Option.some.inj h
              have hpu := sy_pushed hy hr (iv_rem_ok (ta := ta) h1 x1 x2 w1 w2)
              have z1' : 1 ≤ w.toInt := by omega
              refine lv_irem hx hb hd hw0 (k (vs ++ [.int (x - x / w * w)]) ls _ (List.prefix_append _ _) ?_ ?_)
              · show sy_ok ta ws _ ls nL _ (if u.2.1 = u.2.2.1 then sy_push y (iv_rem t u) r else sy_off (sy_push y (iv_rem t u) r) y.1.length b (-4294967295) (-1))
                split
                · exact hpu
                · refine sy_off_ok hpu ⟨x - x / w * w, w, nn_new hy.1.1, by rw [List.getElem?_append_left lb]; exact hb2, ?_, ?_⟩
                  · have e1 := tm_i32 (x := x) z1'
                    have a1 := (x - x / w * w).le_toInt
                    have a2 := w.toInt_lt
                    show w.toInt + -4294967295 ≤ (x - x / w * w).toInt
                    omega
                  · have e1 := tm_i32 (x := x) z1'
                    have a1 := Int.tmod_lt_of_pos x.toInt (by omega : 0 < w.toInt)
                    show (x - x / w * w).toInt ≤ w.toInt + -1
                    omega
              · show ∀ f ∈ (if u.2.1 = u.2.2.1 ∧ 0 ≤ t.2.1 then [((12, [y.1.length, a], [u.2.1]) : fc_T)] else [(5, [y.1.length, a, b], [])]), _
                split
                · rename_i hq
                  refine fc_2 (ll _).1 (ll _).2.1 ?_ (by decide)
                  rw [nw, nv _ _ _ ha]
                  have e0 := tm_i32 (x := x) z1'
                  have e1 : x.toInt.tmod w.toInt = x.toInt % w.toInt := Int.tmod_eq_emod_of_nonneg (by omega)
                  show (x - x / w * w).toInt = x.toInt % u.2.1
                  rw [e0, e1, show w.toInt = u.2.1 by omega]
                · refine fc_3 (ll _).1 (ll _).2.1 (ll _).2.2 ?_ (by decide)
                  rw [nw, nv _ _ _ ha, nv _ _ _ hb2]
                  exact tm_i32 z1'
            · obtain rfl := Option.some.inj h
              exact lv_irem hx hb hd hw0 (k (vs ++ [.int (x - x / w * w)]) ls _ (List.prefix_append _ _) (sy_pushed hy hr (iv_any _)) (hnil _))
          · cases h
        · split at h
          · rename_i hk
            obtain ⟨x, rfl, x1, x2⟩ := tv_long oa hk.1
            obtain ⟨w, rfl, w1, w2⟩ := tv_long ob hk.2
            have hne : v_iv (.long w) ≠ 0 := dv_ne hz hf hb2 w1 w2
            have hw0 : ¬ w = 0 := fun q => hne (by rw [q]; rfl)
            split at h
            · rename_i h1
              obtain rfl := Option.some.inj h
              refine lv_ldiv hx hb hd hw0 (k (vs ++ [.long (x / w)]) ls _ (List.prefix_append _ _) (sy_pushed hy hr (ld_div_ok h1 x1 x2 w1 w2)) ?_)
              refine fc_3 (ll _).1 (ll _).2.1 (ll _).2.2 ?_ (by decide)
              rw [nw, nv _ _ _ ha, nv _ _ _ hb2]
              exact td_i64 (by omega)
            · obtain rfl := Option.some.inj h
              exact lv_ldiv hx hb hd hw0 (k (vs ++ [.long (x / w)]) ls _ (List.prefix_append _ _) (sy_pushed hy hr (lv_any _)) (hnil _))
          · cases h
        · split at h
          · rename_i hk
            obtain ⟨x, rfl, x1, x2⟩ := tv_long oa hk.1
            obtain ⟨w, rfl, w1, w2⟩ := tv_long ob hk.2
            have hne : v_iv (.long w) ≠ 0 := dv_ne hz hf hb2 w1 w2
            have hw0 : ¬ w = 0 := fun q => hne (by rw [q]; rfl)
            obtain rfl := Option.some.inj h
            exact lv_lrem hx hb hd hw0 (k _ ls _ (List.prefix_append _ _) (sy_pushed hy hr (lv_any _)) (hnil _))
          · cases h
        · cases h
      · cases h
    · cases h
  · cases h
/-- what two longs make -/
def opl_X (i : ClassFile.Instr) (y : sy_T) (vs : List Value) : Prop := ∀ f g, op_l i = some (f, g) → ∀ a b r, y.2.2.1 = b :: a :: r → ∃ x z : Int64, vs[a]? = some (.long x) ∧ vs[b]? = some (.long z) ∧ vs[y.1.length]? = some (.long (f x z))
theorem tr_opl_okX (hx : p.tables.exec = Jvm.exec) (hb : c.code = cc) (hd : decode cc pc = .ok (i, len)) (h : tr_opl i len y = some y') (k : sy_goX p l e R s m args below meth c H locs cells slots Q nL v0 ta ws (opl_X i y) (pc + len) y') : sy_go p l e R s m args below meth c H locs cells slots Q nL v0 ta ws pc y := by
  intro vs ls st hp0 hy
  unfold tr_opl at h
  have hs := hy.2.2.1
  split at h
  · rename_i f g hop
    split at h
    · rename_i b a r hst
      rw [hst] at hs
      split at h
      · rename_i t u hta hub
        split at h
        · rename_i hk
          obtain rfl := Option.some.inj h
          obtain ⟨va, vb, rest, rfl, ha, hb2, oa, ob, hr⟩ := sy_two hy.1 hs hta hub
          obtain ⟨x, rfl, x1, x2⟩ := tv_long oa hk.1
          obtain ⟨z, rfl, z1, z2⟩ := tv_long ob hk.2.1
          obtain rfl := hk.2.2
          refine op_l_go hx hb hd hop (k (vs ++ [.long (f x z)]) ls _ (pre_app hp0) ?_ (sy_pushed hy hr (op_l_ty (ta := ta) hop x1 x2 z1 z2)))
          intro f' g' hop' a' b' r' hst'
          rw [hop] at hop'
          rw [hst] at hst'
          cases hop'
          cases hst'
          exact ⟨x, z, by rw [List.getElem?_append_left (List.getElem?_eq_some_iff.mp ha).1]; exact ha, by rw [List.getElem?_append_left (List.getElem?_eq_some_iff.mp hb2).1]; exact hb2, nn_new hy.1.1⟩
        · cases h
      · cases h
    · cases h
  · cases h
theorem fc_opl_ok {vs vs' : List Value} {ls : Array Slot} {st : List Value} (hy : sy_ok ta ws vs ls nL st y) (hp : vs <+: vs') (hX : opl_X i y vs') : ∀ f ∈ fc_opl i y, f.1 < 100 ∧ ∀ w, fc_1 f w vs' := by
  intro f hf
  unfold fc_opl at hf
  split at hf
  · rename_i b a r hst
    split at hf
    · rename_i t u hta hub
      have key : ∀ (g : Int64 → Int64 → Int64) (gt : tv_T → tv_T → tv_T), op_l i = some (g, gt) → t.1 = 1 → u.1 = 1 → ∃ x z : Int64, n_v vs' a = .long x ∧ n_v vs' b = .long z ∧ n_v vs' y.1.length = .long (g x z) ∧ (t.2.1 ≤ x.toInt ∧ x.toInt ≤ t.2.2.1) ∧ (u.2.1 ≤ z.toInt ∧ z.toInt ≤ u.2.2.1) ∧ (∀ n ∈ [y.1.length, a, b], n < vs'.length) := fun g gt hop ht1 hu1 => by
        obtain ⟨x, z, q1, q2, q3⟩ := hX g gt hop a b r hst
        have l1 : a < vs.length := by rw [hy.1.1]; exact (List.getElem?_eq_some_iff.mp hta).1
        have l2 : b < vs.length := by rw [hy.1.1]; exact (List.getElem?_eq_some_iff.mp hub).1
        have e1 : vs[a]? = some (.long x) := by obtain ⟨w, rfl⟩ := hp; rw [List.getElem?_append_left l1] at q1; exact q1
        have e2 : vs[b]? = some (.long z) := by obtain ⟨w, rfl⟩ := hp; rw [List.getElem?_append_left l2] at q2; exact q2
        obtain ⟨x', ex, b1, b2⟩ := tv_long (hy.1.2 a t _ hta e1) ht1
        obtain ⟨z', ez, c1, c2⟩ := tv_long (hy.1.2 b u _ hub e2) hu1
        cases ex
        cases ez
        refine ⟨x, z, n_v_of q1, n_v_of q2, n_v_of q3, ⟨b1, b2⟩, ⟨c1, c2⟩, fun n hn => ?_⟩
        simp only [List.mem_cons, List.not_mem_nil, or_false] at hn
        rcases hn with rfl | rfl | rfl
        · exact (List.getElem?_eq_some_iff.mp q3).1
        · exact (List.getElem?_eq_some_iff.mp q1).1
        · exact (List.getElem?_eq_some_iff.mp q2).1
      split at hf
      · split at hf
        · rename_i hc
          unfold lm_in at hc
          simp only [Bool.and_eq_true, decide_eq_true_eq] at hc
          obtain ⟨x, z, q1, q2, q3, q4, q5, q6⟩ := key _ _ rfl hc.1.1.1 hc.1.1.2
          rw [List.mem_singleton.mp hf]
          refine ⟨by show (1 : Nat) < 100; decide, fun w => ⟨q6, ?_⟩⟩
          show v_iv (n_v vs' y.1.length) = v_iv (n_v vs' a) + v_iv (n_v vs' b)
          rw [q1, q2, q3]
          show (x + z).toInt = x.toInt + z.toInt
          rw [Int64.toInt_add]
          exact lv_bm (lo := t.2.1 + u.2.1) (hi := t.2.2.1 + u.2.2.1) (by omega) (by omega) hc.1.2 hc.2
        · cases hf
      · split at hf
        · rename_i hc
          unfold lm_in at hc
          simp only [Bool.and_eq_true, decide_eq_true_eq] at hc
          obtain ⟨x, z, q1, q2, q3, q4, q5, q6⟩ := key _ _ rfl hc.1.1.1 hc.1.1.2
          rw [List.mem_singleton.mp hf]
          refine ⟨by show (2 : Nat) < 100; decide, fun w => ⟨q6, ?_⟩⟩
          show v_iv (n_v vs' y.1.length) = v_iv (n_v vs' a) - v_iv (n_v vs' b)
          rw [q1, q2, q3]
          show (x - z).toInt = x.toInt - z.toInt
          rw [Int64.toInt_sub]
          exact lv_bm (lo := t.2.1 - u.2.2.1) (hi := t.2.2.1 - u.2.1) (by omega) (by omega) hc.1.2 hc.2
        · cases hf
      · split at hf
        · rename_i hc
          unfold lm_in at hc
          simp only [Bool.and_eq_true, decide_eq_true_eq] at hc
          obtain ⟨x, z, q1, q2, q3, q4, q5, q6⟩ := key _ _ rfl hc.1.1.1 hc.1.1.2
          rw [List.mem_singleton.mp hf]
          refine ⟨by show (3 : Nat) < 100; decide, fun w => ⟨q6, ?_⟩⟩
          show v_iv (n_v vs' y.1.length) = v_iv (n_v vs' a) * v_iv (n_v vs' b)
          rw [q1, q2, q3]
          show (x * z).toInt = x.toInt * z.toInt
          rw [Int64.toInt_mul]
          exact lv_bm (mul_iv q4.1 q4.2 q5.1 q5.2).1 (mul_iv q4.1 q4.2 q5.1 q5.2).2 hc.1.2 hc.2
        · cases hf
      · cases hf
    · cases hf
  · cases hf
end M12d
