variable {PQ : pq_T}
/-! frames where one pointer of the part leads to what is not in it: it is called 5999 there -/
theorem tv_nor {ta tb : Nat → Option Nat} {t : tv_T} {v : Value} (hr : tv_refs t = []) (h : tv_ok ta t v) : tv_ok tb t v := by
  rcases h with h | h | ⟨k, a, r, e, h1, h2⟩ | ⟨k, e | ⟨a, r, e, h1, h2⟩⟩ | h | h
  · exact Or.inl h
  · exact Or.inr (Or.inl h)
  · unfold tv_refs at hr; rw [if_pos (Or.inl k)] at hr; rw [hr] at h2; cases h2
  · exact Or.inr (Or.inr (Or.inr (Or.inl ⟨k, Or.inl e⟩)))
  · unfold tv_refs at hr; rw [if_pos (Or.inr k)] at hr; rw [hr] at h2; cases h2
  · exact Or.inr (Or.inr (Or.inr (Or.inr (Or.inl h))))
  · exact Or.inr (Or.inr (Or.inr (Or.inr (Or.inr h))))
theorem tv_to {ta tb : Nat → Option Nat} {t : tv_T} {v : Value} (h : tv_ok ta t v) (hp : ∀ b r, v = .ref b → ta b = some r → r ∈ tv_refs t → ∃ r', tb b = some r' ∧ r' ∈ tv_refs t) : tv_ok tb t v := by
  rcases h with h | h | ⟨k, a, r, e, h1, h2⟩ | ⟨k, e | ⟨a, r, e, h1, h2⟩⟩ | h | h
  · exact Or.inl h
  · exact Or.inr (Or.inl h)
  · obtain ⟨r', q1, q2⟩ := hp a r e h1 (by unfold tv_refs; rw [if_pos (Or.inl k)]; exact h2)
    unfold tv_refs at q2; rw [if_pos (Or.inl k)] at q2
    exact Or.inr (Or.inr (Or.inl ⟨k, a, r', e, q1, q2⟩))
  · exact Or.inr (Or.inr (Or.inr (Or.inl ⟨k, Or.inl e⟩)))
  · obtain ⟨r', q1, q2⟩ := hp a r e h1 (by unfold tv_refs; rw [if_pos (Or.inr k)]; exact h2)
    unfold tv_refs at q2; rw [if_pos (Or.inr k)] at q2
    exact Or.inr (Or.inr (Or.inr (Or.inl ⟨k, Or.inr ⟨a, r', e, q1, q2⟩⟩)))
  · exact Or.inr (Or.inr (Or.inr (Or.inr (Or.inl h))))
  · exact Or.inr (Or.inr (Or.inr (Or.inr (Or.inr h))))
/-- the kinds in a region -/
def rg_ks (g : rg_T) : List tv_T := if g.1 < 4 then [] else if g.1 < 10 then [g.2.2.2.1] else g.2.2.2.2
theorem rg_to {kA kB : Nat → ClassId} {ta tb : Nat → Option Nat} {g : rg_T} {e : va_E} (hk : ∀ r, r < 10 → kB r = kA r) (h : rg_ok kA ta g e) (hp : ∀ t ∈ rg_ks g, ∀ b r, ta b = some r → r ∈ tv_refs t → ∃ r', tb b = some r' ∧ r' ∈ tv_refs t) : rg_ok kB tb g e := by
  rcases h with ⟨k, n, f, e1, a, b, q, c, d⟩ | ⟨k, n, f, e1, a, b, q, c⟩ | ⟨k, k2, n, f, e1, a, b, c⟩ | ⟨k, fs, e1, a, c⟩
  · exact Or.inl ⟨k, n, f, by rw [hk _ (by omega)]; exact e1, a, b, q, fun j hj => tv_to (c j hj) (fun _ _ z => by cases z), fun j t hj ht => tv_to (d j t hj ht) (fun _ _ z => by cases z)⟩
  · exact Or.inr (Or.inl ⟨k, n, f, by rw [hk _ (by omega)]; exact e1, a, b, q, fun j hj => tv_to (c j hj) (fun _ _ z => by cases z)⟩)
  · refine Or.inr (Or.inr (Or.inl ⟨k, k2, n, f, by rw [hk _ (by omega)]; exact e1, a, b, fun j hj => tv_to (c j hj) (fun b' r' _ h1 h2 => hp _ ?_ b' r' h1 h2)⟩))
    unfold rg_ks; rw [if_neg (by omega), if_pos k2]; exact List.mem_singleton.mpr rfl
  · refine Or.inr (Or.inr (Or.inr ⟨k, fs, e1, a, fun j t v h1 h2 => tv_to (c j t v h1 h2) (fun b' r' _ h3 h4 => hp t ?_ b' r' h3 h4)⟩))
    unfold rg_ks; rw [if_neg (by omega), if_neg (by omega)]; exact List.mem_of_getElem? h1
/-- what kinds may say of things that never change -/
def g5_chk (G : List rg_T) (rs : Nat) : Bool := G.all (fun g => (rg_ks g).all (fun t => !((tv_refs t).contains 5500) && (!((tv_refs t).contains 5999) || (tv_refs t).contains rs)))
theorem ro_swap {kA kB : Nat → ClassId} {A : Nat → Prop} {U : State} (hk : ∀ r, r ≠ 5999 → kB r = kA r) (hs : ¬ A (kB 5999)) (h : ro kA A U) : ro kB A U := by
  obtain ⟨h1, h2, h3, h4, ⟨h5, h6⟩, h7, h8, v9, u9, h9⟩ := h
  have hN : ro_N < 700 := by decide
  have hT : ∀ q ∈ ro_tab, q.2.2.2 < 900 := by decide
  refine ⟨fun r hr => ?_, fun i hi => ?_, fun q hq => ?_, h4, ⟨?_, ?_⟩, ?_, ?_, v9, ?_, h9⟩
  · by_cases c : r = 5999
    · subst c; exact hs
    · rw [hk r c]; exact h1 r hr
  · have := h2 i hi
    unfold ro_S at this ⊢
    rw [hk (5000 + i) (by omega), hk (5200 + i) (by omega)]; exact this
  · have z := hT q hq
    rw [hk (5000 + q.2.2.2) (by omega)]; exact h3 q hq
  · rw [hk 5400 (by decide)]; exact h5
  · rw [hk 5400 (by decide)]; exact h6
  · rw [hk 5401 (by decide)]; exact h7
  · rw [hk 5401 (by decide)]; exact h8
  · rw [hk 5500 (by decide)]; exact u9
theorem TY_swap {kA kB : Nat → ClassId} (hk : ∀ r, r ≠ 5999 → kB r = kA r) : TY kB = TY kA := by
  unfold TY
  simp [hk]
/-- behind the call -/
theorem fr_join3 {P : Nat → Bool} {D : va_G} {kA kB : Nat → ClassId} {G : List rg_T} {ta t1 : Nat → Option Nat} {ws : va_W} {sz rs : Nat} {mo : mo_T} {pu : Bool} {u : uS_T} {st t : State} {es : va_E} (hk : ∀ r, r ≠ 5999 → kB r = kA r) (hth : th_ok kA G ta ws) (hG : ∀ r, ro_id r = true → G[r]? = none) (hst : (kB 5999, es) ∈ w_out P ws) (hrs : ta (kB 5999) = some rs) (h5 : g5_chk G rs = true) (hL : ∀ a r, ta a = some r → (∃ g, G[r]? = some g) → P a = true → t1 a = some r) (hW : wpr kA D sz ws st) (hu : up_ok kB G t1 (w_in P ws) pu mo u) (hq : wq D classes (TY kA) (va_A (w_in P ws) sz) u.2 t) (hF : va_F (va_A (w_in P ws) sz) st t) :
    ∃ tb, ta_le ta tb ∧ th_ok kA G tb (w_out P ws ++ u.2) ∧ kp mo ta ws (w_out P ws ++ u.2) ∧ wq D classes (TY kA) (va_A ws sz) (w_out P ws ++ u.2) t ∧ va_F (va_A ws sz) st t := by
  obtain ⟨⟨w1, w2, w3, w4, w5⟩, w6⟩ := hW
  obtain ⟨u1, u2, _, u4⟩ := hu
  obtain ⟨q1, q2, q3⟩ := hq
  obtain ⟨f1, f2⟩ := hF
  have hlt : ∀ q ∈ ws, q.1 < sz := fun q hq => by rw [← w1]; exact (vp_mem.mp w2 q hq).lt
  have rest_no : ∀ q ∈ w_out P ws, ¬ va_A (w_in P ws) sz q.1 := fun q hq c => by
    obtain ⟨h1, h2⟩ := w_out_mem.mp hq
    rcases va_A_mem.mp c with ⟨e, he⟩ | c
    · have := (w_in_mem.mp he).2
      rw [h2] at this; cases this
    · have := hlt q h1; omega
  have apart : ∀ p ∈ w_out P ws, ∀ q ∈ u.2, p.1 ≠ q.1 := fun p hp q hq e => by
    obtain ⟨k, hk⟩ := List.mem_iff_getElem?.mp hq
    have := q3.2 k q hk
    rw [← e] at this
    exact rest_no p hp this
  have key : ∀ a e, (a, e) ∈ u.2 → va_A (w_in P ws) sz a := fun a e he => by
    obtain ⟨k, hk⟩ := List.mem_iff_getElem?.mp he
    exact q3.2 k _ hk
  have hR : ∃ R : Nat → Bool, ∀ a, R a = true ↔ ∃ e, (a, e) ∈ u.2 := ⟨fun a => @decide (∃ e, (a, e) ∈ u.2) (Classical.propDecidable _), fun a => @decide_eq_true_iff _ (Classical.propDecidable _)⟩
  obtain ⟨R, hR⟩ := hR
  obtain ⟨tb, htb⟩ : ∃ tb : Nat → Option Nat, ∀ a, tb a = if R a = true then u.1 a else ta a := ⟨fun a => if R a = true then u.1 a else ta a, fun _ => rfl⟩
  have le1 : ta_le ta tb := fun a r h => by
    rw [htb]
    by_cases c : R a = true
    · rw [if_pos c]
      obtain ⟨e, he⟩ := (hR a).mp c
      rcases hth.1 a r h with ⟨g, e0, hg, h2, _⟩ | ⟨_, z2, z3, z4⟩
      · cases hp : P a with
        | true => exact u1 a r (hL a r h ⟨g, hg⟩ hp)
        | false => exact absurd rfl (apart (a, e0) (w_out_mem.mpr ⟨h2, hp⟩) (a, e) he)
      · exfalso
        rcases va_A_mem.mp (key a e he) with ⟨e1, he1⟩ | c2
        · exact z4 e1 (w_in_mem.mp he1).1
        · exact w6.1 r z2 (by rw [← z3]; exact va_A_mem.mpr (Or.inr c2))
    · rw [if_neg c]; exact h
  have val : ∀ g ∈ G, ∀ tt ∈ rg_ks g, ∀ b r, u.1 b = some r → r ∈ tv_refs tt → ∃ r', tb b = some r' ∧ r' ∈ tv_refs tt := fun g hg tt htt b r hb hm => by
    have h6 := List.all_eq_true.mp (List.all_eq_true.mp h5 g hg) tt htt
    rw [Bool.and_eq_true, Bool.not_eq_true'] at h6
    rcases u2.1 b r hb with ⟨g', e', _, m2, _⟩ | ⟨_, z2, z3, z4⟩
    · exact ⟨r, by rw [htb, if_pos ((hR b).mpr ⟨e', m2⟩)]; exact hb, hm⟩
    · have nR : ¬ R b = true := fun c => by obtain ⟨e, he⟩ := (hR b).mp c; exact z4 e he
      by_cases c : r = 5999
      · subst c
        refine ⟨rs, ?_, ?_⟩
        · rw [htb, if_neg nR, z3]; exact hrs
        · have h7 := h6.2
          rw [List.contains_iff_mem.mpr hm] at h7
          exact List.contains_iff_mem.mp h7
      · rw [hk r c] at z3
        obtain ⟨r1, y1, y2, y3⟩ := hth.2 r z2
        have lt : r < 5500 := by
          have n5 : r ≠ 5500 := fun e => by
            subst e
            rw [List.contains_iff_mem.mpr hm] at h6; exact absurd h6.1 (by decide)
          unfold ro_id at z2
          simp only [Bool.or_eq_true, Bool.and_eq_true, decide_eq_true_eq] at z2
          have : r < 5900 ∨ r = 5999 := by
            rcases z2 with ((((⟨_, b⟩ | ⟨_, b⟩) | b) | b) | b) | b
            · omega
            · omega
            · omega
            · omega
            · omega
            · omega
          have h55 : ¬ (5500 < r ∧ r < 5900) := by
            rcases z2 with ((((⟨_, b⟩ | ⟨_, b⟩) | b) | b) | b) | b <;> omega
          omega
        refine ⟨r, ?_, hm⟩
        rw [htb, if_neg nR, z3, y2, y3 lt]
  refine ⟨tb, le1, ⟨fun a r h => ?_, fun r hr => ?_⟩, ⟨fun a ci fs h => ?_, fun a r x h1 h2 h3 => ?_⟩, ⟨vp_mem.mpr (fun q hq => ?_), q2, vd_of ?_ (fun q hq => ?_)⟩, f1, fun q h1 h2 => f2 q h1 (fun c => h2 (va_A_in q c))⟩
  · rw [htb] at h
    by_cases c : R a = true
    · rw [if_pos c] at h
      obtain ⟨e0, he0⟩ := (hR a).mp c
      rcases u2.1 a r h with ⟨g, e, h1, h2, h3⟩ | ⟨_, _, _, z4⟩
      · exact Or.inl ⟨g, e, h1, List.mem_append_right _ h2, rg_to (fun r hr => (hk r (by omega)).symm) h3 (val g (List.mem_of_getElem? h1))⟩
      · exact absurd he0 (z4 e0)
    · rw [if_neg c] at h
      rcases hth.1 a r h with ⟨g, e, h1, h2, h3⟩ | ⟨z1, z2, z3, z4⟩
      · have hp : P a = false := by
          cases hp : P a with
          | false => rfl
          | true =>
            exfalso
            obtain ⟨e', he', _⟩ := th_in u2 (u1 a r (hL a r h ⟨g, h1⟩ hp)) h1
            exact c ((hR a).mpr ⟨e', he'⟩)
        exact Or.inl ⟨g, e, h1, List.mem_append_left _ (w_out_mem.mpr ⟨h2, hp⟩), rg_mono le1 h3⟩
      · refine Or.inr ⟨z1, z2, z3, fun e he => ?_⟩
        rcases List.mem_append.mp he with he | he
        · exact z4 e (w_out_mem.mp he).1
        · exact c ((hR a).mpr ⟨e, he⟩)
  · obtain ⟨r', h1, h2, h3⟩ := hth.2 r hr
    exact ⟨r', h1, le1 _ _ h2, h3⟩
  · cases hp : P a with
    | false => exact ⟨fs, List.mem_append_left _ (w_out_mem.mpr ⟨h, hp⟩), fun _ _ _ _ => rfl⟩
    | true =>
      obtain ⟨fs', m1, m2⟩ := u4.1 a ci fs (w_in_mem.mpr ⟨h, hp⟩)
      refine ⟨fs', List.mem_append_right _ m1, fun r k hr hk => m2 r k ?_ hk⟩
      rcases hth.1 a r hr with ⟨g, _, hg, _⟩ | ⟨_, _, _, z4⟩
      · exact hL a r hr ⟨g, hg⟩ hp
      · exact absurd h (z4 _)
  · cases hp : P a with
    | false => exact List.mem_append_left _ (w_out_mem.mpr ⟨h3, hp⟩)
    | true =>
      refine List.mem_append_right _ (u4.2 a r x ?_ h2 (w_in_mem.mpr ⟨h3, hp⟩))
      rcases hth.1 a r h1 with ⟨g, _, hg, _⟩ | ⟨_, _, _, z4⟩
      · exact hL a r h1 ⟨g, hg⟩ hp
      · exact absurd h3 (z4 _)
  · rcases List.mem_append.mp hq with hq | hq
    · have h1 := (w_out_mem.mp hq).1
      exact (vp_mem.mp w2 q h1).kept (f2 q.1 (by rw [w1]; exact hlt q h1) (rest_no q hq))
    · exact vp_mem.mp q1 q hq
  · rw [List.pairwise_append]
    exact ⟨(vd_nd w4).filter _, vd_nd q3, fun p hp q hq => apart p hp q hq⟩
  · rcases List.mem_append.mp hq with hq | hq
    · exact va_A_mem.mpr (Or.inl ⟨q.2, (w_out_mem.mp hq).1⟩)
    · obtain ⟨k, hk⟩ := List.mem_iff_getElem?.mp hq
      exact va_A_in _ (q3.2 k q hk)
/-- a contract on a part of the world, one of whose pointers may lead out of it -/
theorem ct_frame3 {l : Launch} {D : va_G} {kA : Nat → ClassId} {G : List rg_T} {y : MethodName} {z : List Cond} {en en2 : en_T} (h : ∀ kB, ct_ok PQ l D kB G y z en) (e1 : en2.1 = en.1) (e2 : en2.2.1 = en.2.1) (e3 : en2.2.2.1 = false) (e4 : en2.2.2.2.1 = en.2.2.2.1) (e5 : en2.2.2.2.2.1 = en.2.2.2.2.1) (e6 : en2.2.2.2.2.2.1 = en.2.2.2.2.2.1) (e7 : en2.2.2.2.2.2.2.1 = [])
    (e8 : en2.2.2.2.2.2.2.2.2.1 = en.2.2.2.2.2.2.2.2.1) (e9 : en2.2.2.2.2.2.2.2.2.2.1 = en.2.2.2.2.2.2.2.2.2.1) (hret : ∀ t, en.2.1 = some t → tv_refs t = []) (hG : ∀ r, ro_id r = true → G[r]? = none)
    (hpart : ∀ (ta : Nat → Option Nat) (ws : va_W) (av gv hv : List Value), va_D (fun _ => True) ws → th_ok kA G ta ws → ag_ok ta en2.1 av → gv_ok ta ws av en2.2.2.2.2.2.2.2.1 gv → ag_ok ta en2.2.2.2.2.2.2.2.2.2.2.2.2 hv → pr_ok PQ en2 ws (av ++ gv ++ hv) →
      ∃ (P : Nat → Bool) (kB : Nat → ClassId) (t1 : Nat → Option Nat) (gv1 hv1 : List Value), (∀ r, r ≠ 5999 → kB r = kA r) ∧ th_ok kB G t1 (w_in P ws) ∧ (∀ a r, ta a = some r → (∃ g, G[r]? = some g) → P a = true → t1 a = some r) ∧ ((kB = kA ∧ t1 = t_in P ta ∧ ∀ r, ro_id r = true → P (kA r) = true) ∨ ∃ es rs, (kB 5999, es) ∈ w_out P ws ∧ ta (kB 5999) = some rs ∧ g5_chk G rs = true) ∧ ag_ok t1 en.1 av ∧ gv_ok t1 (w_in P ws) av en.2.2.2.2.2.2.2.1 gv1 ∧ ag_ok t1 en.2.2.2.2.2.2.2.2.2.2.2.2 hv1 ∧ pr_ok PQ en (w_in P ws) (av ++ gv1 ++ hv1) ∧
        ∀ (u : uS_T) (tb : Nat → Option Nat) (r : Option Value), (∀ a r, t_in P ta a = some r → (∃ g, G[r]? = some g) → u.1 a = some r) → th_ok kB G u.1 u.2 → th_ok kA G tb (w_out P ws ++ u.2) → ta_le ta tb → kp en.2.2.2.2.2.2.2.2 t1 (w_in P ws) u.2 → va_D (fun _ => True) (w_out P ws ++ u.2) → po_ok PQ u.1 u.2 (av ++ gv1 ++ hv1) en.2.2.2.2.2.2.1 en.2.2.2.2.2.2.2.2.2.2.2.1 r → ∀ f ∈ en2.2.2.2.2.2.2.2.2.2.2.2.1, fc_1 PQ f (w_out P ws ++ u.2) ((av ++ gv ++ hv) ++ r.toList)) : ct_ok PQ l D kA G y z en2 := by
  intro sz ta ws av gv hv hth hag hgv hhv hpr
  by_cases hD0 : va_D (fun _ => True) ws
  · obtain ⟨P, kB, t1, gv1, hv1, hk, hT, hL, hcase, k1, k2, k3, k4, hend⟩ := hpart ta ws av gv hv hD0 hth hag hgv hhv hpr
    have hM := h kB sz t1 (w_in P ws) av gv1 hv1 hT k1 k2 k3 k4
    rw [e4, e5, e6]
    have hw : ∀ s, wpr kA D sz ws s → wpr kB D sz (w_in P ws) s := fun s c2 => by
      have w0 := wpr_in (P := P) c2
      rcases hcase with ⟨c, _, _⟩ | ⟨es, rs, m1, _, _⟩
      · rw [c]; exact w0
      · refine ⟨by rw [TY_swap hk]; exact w0.1, ro_swap hk (fun c => ?_) w0.2⟩
        obtain ⟨x1, x2⟩ := w_out_mem.mp m1
        rcases va_A_mem.mp c with ⟨e, he⟩ | c
        · have := (w_in_mem.mp he).2
          rw [x2] at this; cases this
        · obtain ⟨⟨w1, w2, _, _, _⟩, _⟩ := c2
          have := (vp_mem.mp w2 _ x1).lt
          rw [w1] at this
          have e9' : (kB 5999, es).1 < sz := this
          have e8' : kB 5999 < sz := e9'
          omega
    refine met_imp hM (fun a s ⟨c1, c2⟩ => ⟨c1, hw s c2⟩) (fun a s o t ⟨c1, c2⟩ hQ => ?_) (fun q hq => va_A_in q hq)
    obtain ⟨u, r, eo, p1, p2, p3, p4, p5, p6⟩ := qc_out hQ
    have hj : ∃ tb, ta_le ta tb ∧ th_ok kA G tb (w_out P ws ++ u.2) ∧ kp en.2.2.2.2.2.2.2.2 ta ws (w_out P ws ++ u.2) ∧ wq D classes (TY kA) (va_A ws sz) (w_out P ws ++ u.2) t ∧ va_F (va_A ws sz) s t := by
      rcases hcase with ⟨c, d, hro⟩ | ⟨es, rs, m1, m2, m3⟩
      · subst d; rw [c] at p1 p4
        obtain ⟨tb, j1, _, j3, j4, j5, j6⟩ := fr_join hth hro c2 p1 p4 p5
        exact ⟨tb, j1, j3, j4, j5, j6⟩
      · rw [TY_swap hk] at p4
        exact fr_join3 hk hth hG m1 m2 m3 hL c2 p1 p4 p5
    obtain ⟨tb, j1, j3, j4, j5, j6⟩ := hj
    refine qc_in (u := (tb, w_out P ws ++ u.2)) eo ⟨j1, j3, fun c => ?_, ?_⟩ ?_ ⟨?_, Or.inl e7⟩ j5 j6 (fun q hq => p6 q (by rw [← e2]; exact hq))
    · rw [e3] at c; cases c
    · exact kp_mono (mo := en.2.2.2.2.2.2.2.2) (fun q hq => by rw [e9]; exact hq) (fun r hr => by rw [e8] at hr; exact hr) j4
    · rw [e2]
      revert p2 hret
      cases en.2.1 with
      | none => cases r with | none => exact fun _ p => p | some v => exact fun _ p => p
      | some t => cases r with | none => exact fun _ p => p | some v => exact fun hr p => tv_nor (hr t rfl) p
    · exact hend u tb r (fun a r h1 h2 => p1.1 a r (hL a r (t_in_some h1).2 h2 (t_in_some h1).1)) p1.2.1 j3 j1 p1.2.2.2 (j5.2.2.weaken (fun _ _ _ _ => trivial)) p3
  · intro p e h1 h2 h3 s m args below h4 h5 h6 h7
    exact absurd h6.2.1.2.2.2.1 hD0
