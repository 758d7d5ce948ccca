variable {PQ : pq_T}
/-! frames: a call on a part of the world leaves the rest as it was -/
theorem met_imp {l : Launch} {y : MethodName} {z : List Cond} {rm : Room} {Pc Pc' : Array Value → State → Prop} {Qc Qc' : Array Value → State → Outcome → State → Prop} {mc ms : Nat} {free free' : Addr → Prop} (h : Met l y z rm Pc Qc mc ms free) (hp : ∀ a s, Pc' a s → Pc a s) (hq : ∀ a s o t, Pc' a s → Qc a s o t → Qc' a s o t) (hf : ∀ q, free q → free' q) : Met l y z rm Pc' Qc' mc ms free' := by
  intro p e h1 h2 h3 s m args below h4 h5 h6 h7
  obtain ⟨n, o, a1, a2, a3, a4, L, a5, a6⟩ := h p e h1 h2 h3 s m args below h4 h5 (hp _ _ h6) h7
  exact ⟨n, o, a1, a2, a3, hq _ _ _ _ h6 a4, L, a5, fun q hq => hf _ (a6 q hq)⟩
/-- what an end of a contract says, whatever the answer's kind -/
theorem qc_out {D : va_G} {kA : Nat → ClassId} {G : List rg_T} {en : en_T} {ta : Nat → Option Nat} {ws : va_W} {sz : Nat} {bv : List Value} {a : Array Value} {st t : State} {o : Outcome} (h : qc_of PQ D kA G en ta ws sz bv a st o t) : ∃ (u : uS_T) (r : Option Value), o = .returned r ∧ up_ok kA G ta ws en.2.2.1 en.2.2.2.2.2.2.2.2 u ∧ rt_ok u.1 en.2.1 r ∧ po_ok PQ u.1 u.2 bv en.2.2.2.2.2.2.1 en.2.2.2.2.2.2.2.2.2.2.2.1 r ∧ wq D classes (TY kA) (va_A ws sz) u.2 t ∧ va_F (va_A ws sz) st t ∧ (∀ q, en.2.1 = some q → ¬ (q.1 = 0 ∨ q.1 = 5) → q.1 ≠ 1 → ∃ b, r = some (.ref b)) := by
  unfold qc_of at h
  cases hrt : en.2.1 with
  | none =>
    rw [hrt] at h
    obtain ⟨⟨u, e, p1, p2⟩, f⟩ := h
    exact ⟨u, none, e, p1.1, trivial, p1.2, p2, f, fun q hq => by cases hq⟩
  | some rt =>
    rw [hrt] at h
    simp only at h
    split at h
    · rename_i hk
      obtain ⟨⟨r, u, e, p1, p2⟩, f⟩ := h
      exact ⟨u, some (.int r), e, p1.1, p1.2.1, p1.2.2, p2, f, fun q hq h1 => by cases hq; exact absurd hk h1⟩
    · split at h
      · rename_i hk hk2
        obtain ⟨⟨r, u, e, p1, p2⟩, f⟩ := h
        exact ⟨u, some (.long r), e, p1.1, p1.2.1, p1.2.2, p2, f, fun q hq _ h1 => by cases hq; exact absurd hk2 h1⟩
      · obtain ⟨⟨u, b, e, p1, p2⟩, f⟩ := h
        exact ⟨u, some (.ref b), e, p1, p2.1.1, p2.1.2, p2.2, f, fun q _ _ _ => ⟨b, rfl⟩⟩
theorem qc_in {D : va_G} {kA : Nat → ClassId} {G : List rg_T} {en : en_T} {ta : Nat → Option Nat} {ws : va_W} {sz : Nat} {bv : List Value} {a : Array Value} {st t : State} {o : Outcome} {u : uS_T} {r : Option Value} (e : o = .returned r) (p1 : up_ok kA G ta ws en.2.2.1 en.2.2.2.2.2.2.2.2 u) (p2 : rt_ok u.1 en.2.1 r) (p3 : po_ok PQ u.1 u.2 bv en.2.2.2.2.2.2.1 en.2.2.2.2.2.2.2.2.2.2.2.1 r) (p4 : wq D classes (TY kA) (va_A ws sz) u.2 t) (f : va_F (va_A ws sz) st t) (hr : ∀ q, en.2.1 = some q → ¬ (q.1 = 0 ∨ q.1 = 5) → q.1 ≠ 1 → ∃ b, r = some (.ref b)) : qc_of PQ D kA G en ta ws sz bv a st o t := by
  unfold qc_of
  cases hrt : en.2.1 with
  | none =>
    rw [hrt] at p2
    cases r with
    | none => exact ⟨⟨u, e, ⟨p1, p3⟩, p4⟩, f⟩
    | some v => exact p2.elim
  | some rt =>
    rw [hrt] at p2
    cases r with
    | none => exact p2.elim
    | some v =>
      have p2' : tv_ok u.1 rt v := p2
      simp only
      split
      · rename_i hk
        have : ∃ x, v = .int x := by
          rcases p2' with ⟨_, x, e, _⟩ | ⟨k, _⟩ | ⟨k, _⟩ | ⟨k, _⟩ | ⟨_, x, e, _⟩ | ⟨_, x, e, _⟩
          · exact ⟨x, e⟩
          · omega
          · omega
          · omega
          · exact ⟨x, e⟩
          · exact ⟨x, e⟩
        obtain ⟨x, rfl⟩ := this
        exact ⟨⟨x, u, e, ⟨p1, p2', p3⟩, p4⟩, f⟩
      · rename_i hk
        split
        · rename_i hk2
          have : ∃ x, v = .long x := by
            rcases p2' with ⟨k, _⟩ | ⟨_, x, e, _⟩ | ⟨k, _⟩ | ⟨k, _⟩ | ⟨k, _⟩ | ⟨k, _⟩
            · omega
            · exact ⟨x, e⟩
            · omega
            · omega
            · omega
            · omega
          obtain ⟨x, rfl⟩ := this
          exact ⟨⟨x, u, e, ⟨p1, p2', p3⟩, p4⟩, f⟩
        · rename_i hk2
          obtain ⟨b, hb⟩ := hr rt hrt hk hk2
          cases hb
          exact ⟨⟨u, b, e, p1, ⟨p2', p3⟩, p4⟩, f⟩
/-! a part of the world -/
def w_in (P : Nat → Bool) (ws : va_W) : va_W := ws.filter (fun q => P q.1)
def w_out (P : Nat → Bool) (ws : va_W) : va_W := ws.filter (fun q => !P q.1)
def t_in (P : Nat → Bool) (ta : Nat → Option Nat) : Nat → Option Nat := fun a => bif P a then ta a else none
theorem w_in_mem {P : Nat → Bool} {ws : va_W} {q : Nat × va_E} : q ∈ w_in P ws ↔ q ∈ ws ∧ P q.1 = true := List.mem_filter
theorem w_out_mem {P : Nat → Bool} {ws : va_W} {q : Nat × va_E} : q ∈ w_out P ws ↔ q ∈ ws ∧ P q.1 = false := by
  unfold w_out
  rw [List.mem_filter, Bool.not_eq_true']
theorem t_in_some {P : Nat → Bool} {ta : Nat → Option Nat} {a r : Nat} (h : t_in P ta a = some r) : P a = true ∧ ta a = some r := by
  unfold t_in at h
  cases hp : P a with
  | true => rw [hp] at h; exact ⟨rfl, h⟩
  | false => rw [hp] at h; cases h
theorem t_in_of {P : Nat → Bool} {ta : Nat → Option Nat} {a r : Nat} (hp : P a = true) (h : ta a = some r) : t_in P ta a = some r := by
  unfold t_in; rw [hp]; exact h
theorem vd_nd {A : Nat → Prop} {ws : va_W} (h : va_D A ws) : ws.Pairwise (fun p q => p.1 ≠ q.1) := by
  rw [List.pairwise_iff_getElem]
  intro i j hi hj hij e
  have := h.1 i j ws[i] ws[j] (List.getElem?_eq_getElem hi) (List.getElem?_eq_getElem hj) e
  omega
theorem vd_of {A : Nat → Prop} {ws : va_W} (h : ws.Pairwise (fun p q => p.1 ≠ q.1)) (hA : ∀ q ∈ ws, A q.1) : va_D A ws := by
  rw [List.pairwise_iff_getElem] at h
  refine ⟨fun i j p q hi hj e => ?_, fun k q hk => hA q (List.mem_of_getElem? hk)⟩
  obtain ⟨li, ei⟩ := List.getElem?_eq_some_iff.mp hi
  obtain ⟨lj, ej⟩ := List.getElem?_eq_some_iff.mp hj
  rcases Nat.lt_trichotomy i j with c | c | c
  · exact absurd (by rw [ei, ej]; exact e) (h i j li lj c)
  · exact c
  · exact absurd (by rw [ei, ej]; exact e.symm) (h j i lj li c)
theorem vd_filter {A B : Nat → Prop} {ws : va_W} {f : Nat × va_E → Bool} (h : va_D A ws) (hB : ∀ q ∈ ws, f q = true → B q.1) : va_D B (ws.filter f) :=
  vd_of ((vd_nd h).filter f) (fun q hq => hB q (List.mem_filter.mp hq).1 (List.mem_filter.mp hq).2)
theorem vp_mem {D : va_G} {cl : List vw_C} {ws : va_W} {H : Heap} : va_P D cl ws H ↔ ∀ q ∈ ws, va_at D cl q H :=
  ⟨fun h q hq => by obtain ⟨k, hk⟩ := List.mem_iff_getElem?.mp hq; exact h k q hk, fun h k q hk => h q (List.mem_of_getElem? hk)⟩
theorem va_A_mem {ws : va_W} {sz q : Nat} : va_A ws sz q ↔ (∃ e, (q, e) ∈ ws) ∨ sz ≤ q := by
  refine ⟨fun h => h.elim (fun ⟨k, e, hk⟩ => Or.inl ⟨e, List.mem_of_getElem? hk⟩) Or.inr, fun h => h.elim (fun ⟨e, he⟩ => ?_) Or.inr⟩
  obtain ⟨k, hk⟩ := List.mem_iff_getElem?.mp he
  exact Or.inl ⟨k, e, hk⟩
theorem va_A_in {P : Nat → Bool} {ws : va_W} {sz : Nat} : ∀ q, va_A (w_in P ws) sz q → va_A ws sz q := fun q h => by
  rw [va_A_mem] at h ⊢
  exact h.elim (fun ⟨e, he⟩ => Or.inl ⟨e, (w_in_mem.mp he).1⟩) Or.inr
theorem wpr_in {P : Nat → Bool} {kA : Nat → ClassId} {D : va_G} {sz : Nat} {ws : va_W} {U : State} (h : wpr kA D sz ws U) : wpr kA D sz (w_in P ws) U := by
  obtain ⟨⟨h1, h2, h3, h4, h5⟩, h6⟩ := h
  refine ⟨⟨h1, vp_mem.mpr (fun q hq => vp_mem.mp h2 q (w_in_mem.mp hq).1), h3, vd_filter h4 (fun _ _ _ => trivial), h5⟩, ro_go h6 (State.WarmedH.refl U) va_S.rf (fun q hq => va_A_in q hq)⟩
/-- the part that a call works on is as the regions say -/
theorem th_part {P : Nat → Bool} {kA : Nat → ClassId} {G : List rg_T} {ta : Nat → Option Nat} {ws : va_W} (hth : th_ok kA G ta ws) (hro : ∀ r, ro_id r = true → P (kA r) = true) (hcl : ∀ a r g e, ta a = some r → G[r]? = some g → (a, e) ∈ ws → P a = true → rg_ok kA ta g e → rg_ok kA (t_in P ta) g e) : th_ok kA G (t_in P ta) (w_in P ws) := by
  refine ⟨fun a r h => ?_, fun r hr => ?_⟩
  · obtain ⟨hp, ha⟩ := t_in_some h
    rcases hth.1 a r ha with ⟨g, e, h1, h2, h3⟩ | ⟨h1, h2, h3, h4⟩
    · exact Or.inl ⟨g, e, h1, w_in_mem.mpr ⟨h2, hp⟩, hcl a r g e ha h1 h2 hp h3⟩
    · exact Or.inr ⟨h1, h2, h3, fun e he => h4 e (w_in_mem.mp he).1⟩
  · obtain ⟨r', h1, h2, h3⟩ := hth.2 r hr
    exact ⟨r', h1, t_in_of (hro r hr) h2, h3⟩
/-- behind the call: the rest and the part's new world together -/
theorem fr_join {P : Nat → Bool} {D : va_G} {kA : Nat → ClassId} {G : List rg_T} {ta : Nat → Option Nat} {ws : va_W} {sz : Nat} {mo : mo_T} {pu : Bool} {u : uS_T} {st t : State} (hth : th_ok kA G ta ws) (hro : ∀ r, ro_id r = true → P (kA r) = true) (hW : wpr kA D sz ws st) (hu : up_ok kA G (t_in P ta) (w_in P ws) pu mo u) (hq : wq D classes (TY kA) (va_A (w_in P ws) sz) u.2 t) (hF : va_F (va_A (w_in P ws) sz) st t) :
    ∃ tb, ta_le ta tb ∧ ta_le u.1 tb ∧ th_ok kA G tb (w_out P ws ++ u.2) ∧ kp mo ta ws (w_out P ws ++ u.2) ∧ wq D classes (TY kA) (va_A ws sz) (w_out P ws ++ u.2) t ∧ va_F (va_A ws sz) st t := by
  obtain ⟨⟨w1, w2, w3, w4, w5⟩, w6⟩ := hW
  obtain ⟨u1, u2, _, u4⟩ := hu
  obtain ⟨q1, q2, q3⟩ := hq
  obtain ⟨f1, f2⟩ := hF
  -- the rest's addresses
  have hlt : ∀ q ∈ ws, q.1 < sz := fun q hq => by rw [← w1]; exact (vp_mem.mp w2 q hq).lt
  have rest_no : ∀ q ∈ w_out P ws, ¬ va_A (w_in P ws) sz q.1 := fun q hq c => by
    obtain ⟨h1, h2⟩ := w_out_mem.mp hq
    rcases va_A_mem.mp c with ⟨e, he⟩ | c
    · have := (w_in_mem.mp he).2
      rw [h2] at this; cases this
    · have := hlt q h1; omega
  have apart : ∀ p ∈ w_out P ws, ∀ q ∈ u.2, p.1 ≠ q.1 := fun p hp q hq e => by
    obtain ⟨k, hk⟩ := List.mem_iff_getElem?.mp hq
    have := q3.2 k q hk
    rw [← e] at this
    exact rest_no p hp this
  have hR : ∃ R : Nat → Bool, ∀ a, R a = true ↔ ∃ e, (a, e) ∈ w_out P ws := ⟨fun a => @decide (∃ e, (a, e) ∈ w_out P ws) (Classical.propDecidable _), fun a => @decide_eq_true_iff _ (Classical.propDecidable _)⟩
  obtain ⟨R, hR⟩ := hR
  obtain ⟨tb, htb⟩ : ∃ tb : Nat → Option Nat, ∀ a, tb a = if R a = true then ta a else u.1 a := ⟨fun a => if R a = true then ta a else u.1 a, fun _ => rfl⟩
  have le1 : ta_le ta tb := fun a r h => by
    rw [htb]
    by_cases c : R a = true
    · rw [if_pos c]; exact h
    · rw [if_neg c]
      refine u1 a r (t_in_of ?_ h)
      cases hp : P a with
      | true => rfl
      | false =>
        exfalso
        rcases hth.1 a r h with ⟨g, e, _, h2, _⟩ | ⟨_, h2, h3, _⟩
        · exact c ((hR a).mpr ⟨e, w_out_mem.mpr ⟨h2, hp⟩⟩)
        · have := hro r h2
          rw [← h3, hp] at this; cases this
  have le2 : ta_le u.1 tb := fun a r h => by
    rw [htb]
    by_cases c : R a = true
    · exfalso
      obtain ⟨e, he⟩ := (hR a).mp c
      rcases u2.1 a r h with ⟨g, e2, _, h2, _⟩ | ⟨_, h2, h3, _⟩
      · exact apart _ he _ h2 rfl
      · have := hro r h2
        rw [← h3, (w_out_mem.mp he).2] at this; cases this
    · rw [if_neg c]; exact h
  refine ⟨tb, le1, le2, ⟨fun a r h => ?_, fun r hr => ?_⟩, ⟨fun a ci fs h => ?_, fun a r x h1 h2 h3 => ?_⟩, ⟨vp_mem.mpr (fun q hq => ?_), q2, vd_of ?_ (fun q hq => ?_)⟩, f1, fun q h1 h2 => f2 q h1 (fun c => h2 (va_A_in q c))⟩
  · -- kinds
    rw [htb] at h
    by_cases c : R a = true
    · rw [if_pos c] at h
      obtain ⟨e0, he0⟩ := (hR a).mp c
      rcases hth.1 a r h with ⟨g, e, h1, h2, h3⟩ | ⟨h1, h2, h3, h4⟩
      · refine Or.inl ⟨g, e, h1, List.mem_append_left _ (w_out_mem.mpr ⟨h2, (w_out_mem.mp he0).2⟩), rg_mono le1 h3⟩
      · exact absurd (w_out_mem.mp he0).1 (h4 e0)
    · rw [if_neg c] at h
      rcases u2.1 a r h with ⟨g, e, h1, h2, h3⟩ | ⟨h1, h2, h3, h4⟩
      · exact Or.inl ⟨g, e, h1, List.mem_append_right _ h2, rg_mono le2 h3⟩
      · refine Or.inr ⟨h1, h2, h3, fun e he => ?_⟩
        rcases List.mem_append.mp he with he | he
        · exact c ((hR a).mpr ⟨e, he⟩)
        · exact h4 e he
  · obtain ⟨r', h1, h2, h3⟩ := u2.2 r hr
    exact ⟨r', h1, le2 _ _ h2, h3⟩
  · -- what is kept: objects
    cases hp : P a with
    | false => exact ⟨fs, List.mem_append_left _ (w_out_mem.mpr ⟨h, hp⟩), fun _ _ _ _ => rfl⟩
    | true =>
      obtain ⟨fs', m1, m2⟩ := u4.1 a ci fs (w_in_mem.mpr ⟨h, hp⟩)
      exact ⟨fs', List.mem_append_right _ m1, fun r k hr hk => m2 r k (t_in_of hp hr) hk⟩
  · cases hp : P a with
    | false => exact List.mem_append_left _ (w_out_mem.mpr ⟨h3, hp⟩)
    | true => exact List.mem_append_right _ (u4.2 a r x (t_in_of hp h1) h2 (w_in_mem.mpr ⟨h3, hp⟩))
  · rcases List.mem_append.mp hq with hq | hq
    · have h1 := (w_out_mem.mp hq).1
      exact (vp_mem.mp w2 q h1).kept (f2 q.1 (by rw [w1]; exact hlt q h1) (rest_no q hq))
    · exact vp_mem.mp q1 q hq
  · rw [List.pairwise_append]
    exact ⟨(vd_nd w4).filter _, vd_nd q3, fun p hp q hq => apart p hp q hq⟩
  · rcases List.mem_append.mp hq with hq | hq
    · exact va_A_mem.mpr (Or.inl ⟨q.2, (w_out_mem.mp hq).1⟩)
    · obtain ⟨k, hk⟩ := List.mem_iff_getElem?.mp hq
      exact va_A_in _ (q3.2 k q hk)
/-- a contract on a part of the world: its own facts (on the part) give other facts (on the whole), where the rest is as it was -/
theorem ct_frame {l : Launch} {D : va_G} {kA : Nat → ClassId} {G : List rg_T} {y : MethodName} {z : List Cond} {en en2 : en_T} (h : ct_ok PQ l D kA G y z en) (e1 : en2.1 = en.1) (e2 : en2.2.1 = en.2.1) (e3 : en2.2.2.1 = false) (e4 : en2.2.2.2.1 = en.2.2.2.1) (e5 : en2.2.2.2.2.1 = en.2.2.2.2.1) (e6 : en2.2.2.2.2.2.1 = en.2.2.2.2.2.1) (e7 : en2.2.2.2.2.2.2.1 = [])
    (e8 : en2.2.2.2.2.2.2.2.2.1 = en.2.2.2.2.2.2.2.2.1) (e9 : en2.2.2.2.2.2.2.2.2.2.1 = en.2.2.2.2.2.2.2.2.2.1)
    (hpart : ∀ (ta : Nat → Option Nat) (ws : va_W) (av gv hv : List Value), va_D (fun _ => True) ws → th_ok kA G ta ws → ag_ok ta en2.1 av → gv_ok ta ws av en2.2.2.2.2.2.2.2.1 gv → ag_ok ta en2.2.2.2.2.2.2.2.2.2.2.2.2 hv → pr_ok PQ en2 ws (av ++ gv ++ hv) →
      ∃ (P : Nat → Bool) (gv1 hv1 : List Value), (∀ r, ro_id r = true → P (kA r) = true) ∧ (∀ a r g e, ta a = some r → G[r]? = some g → (a, e) ∈ ws → P a = true → rg_ok kA ta g e → rg_ok kA (t_in P ta) g e) ∧ ag_ok (t_in P ta) en.1 av ∧ gv_ok (t_in P ta) (w_in P ws) av en.2.2.2.2.2.2.2.1 gv1 ∧ ag_ok (t_in P ta) en.2.2.2.2.2.2.2.2.2.2.2.2 hv1 ∧ pr_ok PQ en (w_in P ws) (av ++ gv1 ++ hv1) ∧
        ∀ (u : uS_T) (tb : Nat → Option Nat) (r : Option Value), th_ok kA G u.1 u.2 → th_ok kA G tb (w_out P ws ++ u.2) → ta_le ta tb → ta_le u.1 tb → kp en.2.2.2.2.2.2.2.2 (t_in P ta) (w_in P ws) u.2 → va_D (fun _ => True) (w_out P ws ++ u.2) → (∀ f ∈ en.2.2.2.2.2.2.2.2.2.2.2.1, fc_1 PQ f u.2 ((av ++ gv1 ++ hv1) ++ r.toList)) → ∀ f ∈ en2.2.2.2.2.2.2.2.2.2.2.2.1, fc_1 PQ f (w_out P ws ++ u.2) ((av ++ gv ++ hv) ++ r.toList)) : ct_ok PQ l D kA G y z en2 := by
  intro sz ta ws av gv hv hth hag hgv hhv hpr
  by_cases hD0 : va_D (fun _ => True) ws
  · obtain ⟨P, gv1, hv1, hro, hcl, k1, k2, k3, k4, hend⟩ := hpart ta ws av gv hv hD0 hth hag hgv hhv hpr
    have hM := h sz (t_in P ta) (w_in P ws) av gv1 hv1 (th_part hth hro hcl) k1 k2 k3 k4
    rw [e4, e5, e6]
    refine met_imp hM (fun a s ⟨c1, c2⟩ => ⟨c1, wpr_in c2⟩) (fun a s o t ⟨c1, c2⟩ hQ => ?_) (fun q hq => va_A_in q hq)
    obtain ⟨u, r, eo, p1, p2, p3, p4, p5, p6⟩ := qc_out hQ
    obtain ⟨tb, j1, j2, j3, j4, j5, j6⟩ := fr_join hth hro c2 p1 p4 p5
    refine qc_in (u := (tb, w_out P ws ++ u.2)) eo ⟨j1, j3, fun c => ?_, ?_⟩ ?_ ⟨?_, Or.inl e7⟩ j5 j6 (fun q hq => p6 q (by rw [← e2]; exact hq))
    · rw [e3] at c; cases c
    · exact kp_mono (mo := en.2.2.2.2.2.2.2.2) (fun q hq => by rw [e9]; exact hq) (fun r hr => by rw [e8] at hr; exact hr) j4
    · rw [e2]
      revert p2
      cases en.2.1 with
      | none => cases r with | none => exact id | some v => exact id
      | some t => cases r with | none => exact id | some v => exact fun p => tv_mono j2 p
    · exact hend u tb r p1.2.1 j3 j1 j2 p1.2.2.2 (j5.2.2.weaken (fun _ _ _ _ => trivial)) p3.1
  · -- no such world
    intro p e h1 h2 h3 s m args below h4 h5 h6 h7
    exact absurd h6.2.1.2.2.2.1 hD0
