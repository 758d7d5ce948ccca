/-! the embedder's part is as the regions say, with 5999 for what it saw last -/
theorem ob_to {kA kB : Nat → ClassId} {ta tb : Nat → Option Nat} {g : rg_T} {fs : List Value} (h10 : 10 ≤ g.1) (h : rg_ok kA ta g (.inr (g.1 - 10, fs))) (hp : ∀ (j : Nat) (t : tv_T) (b r : Nat), g.2.2.2.2[j]? = some t → fs[j]? = some (Value.ref b) → ta b = some r → r ∈ tv_refs t → ∃ r', tb b = some r' ∧ r' ∈ tv_refs t) : rg_ok kB tb g (.inr (g.1 - 10, fs)) := by
  rcases h with ⟨k, n, f, e1, _⟩ | ⟨k, n, f, e1, _⟩ | ⟨k, k2, _⟩ | ⟨k, fs', e1, a, c⟩
  · cases e1
  · cases e1
  · omega
  · injection e1 with e2; injection e2 with e3 e4
    subst e4
    exact Or.inr (Or.inr (Or.inr ⟨k, fs, rfl, a, fun j t v h1 h2 => tv_to (c j t v h1 h2) (fun b r z h3 h4 => hp j t b r h1 (by rw [h2, z]) h3 h4)⟩))
section HI10
variable {kA : Nat → ClassId} {G : List rg_T} {ta : Nat → Option Nat} {ws : va_W} {fs : List Nat} {em pr ng : Nat}
/-- the things of the part: its objects, and arrays of numbers -/
theorem em_mem (hD : va_D (fun _ => True) ws) (hth : th_ok kA G ta ws) (hG : ∀ r, ro_id r = true → G[r]? = none) (hc : em_chk G = true) (hos : ∀ o ∈ fs, ∃ r, ta o = some r ∧ ob_S G S0 r = true) (hem : ta em = some 1) (hpr : ta pr = some 149) (he1 : w_fd ws em 1 = .ref pr) (hng : ng ∈ fs) {a r : Nat} {gg : rg_T} (ha : ta a = some r) (hg : G[r]? = some gg) (hp : em_P kA ta ws (fs ++ [em, pr]) em pr ng a = true) : a ∈ fs ++ [em, pr] ∨ gg.1 < 4 := by
  obtain ⟨g1, g2, q1, q2, q3, q4, q5, q6, _, _⟩ := em_f hc
  obtain ⟨h1, h2⟩ := em_P_iff.mp hp
  have inE : em ∈ fs ++ [em, pr] := List.mem_append_right _ List.mem_cons_self
  have inR : pr ∈ fs ++ [em, pr] := List.mem_append_right _ (List.mem_cons_of_mem _ List.mem_cons_self)
  rcases fr_P_cases hth hG ha hg h1 with x | x | ⟨o, ho, k, hk⟩
  · cases x
  · exact Or.inl x
  · rcases List.mem_append.mp ho with x | x
    · obtain ⟨ro, y1, y2⟩ := hos o x
      unfold ob_S at y2
      split at y2
      · rename_i go hgo
        rw [Bool.and_eq_true, decide_eq_true_eq] at y2
        obtain ⟨t, r', t1, t2, t3⟩ := fd_ref hD hth y1 hgo y2.1 hk
        rw [ha] at t2
        obtain rfl := Option.some.inj t2
        have z := List.all_eq_true.mp y2.2 r (refs_in y2.1 t1 t3)
        rw [Bool.or_eq_true, Bool.or_eq_true] at z
        rcases z with (z | z) | z
        · cases z
        · rw [hG r z] at hg; cases hg
        · rw [hg] at z; exact Or.inr (by simpa using z)
      · cases y2
    · rcases List.mem_cons.mp x with x | x
      · subst x
        obtain ⟨t, r', t1, t2, t3⟩ := fd_ref hD hth hem q1 q2 hk
        rw [ha] at t2
        obtain rfl := Option.some.inj t2
        rcases q5 k t t1 with ⟨z1, _⟩ | ⟨z1, _⟩ | z
        · subst z1
          obtain ⟨e, he, _⟩ := th_in hth ha hg
          by_cases c : a = pr
          · rw [c]; exact Or.inl inR
          · by_cases c2 : a = ng
            · rw [c2]; exact Or.inl (List.mem_append_left _ hng)
            · exact absurd ⟨hk, c2, c, e, he⟩ h2
        · subst z1
          rw [he1] at hk
          injection hk with hk
          rw [← hk]; exact Or.inl inR
        · obtain ⟨_, _, _, g', z1, z2⟩ := z r t3
          rw [hg] at z1; obtain rfl := Option.some.inj z1
          exact Or.inr z2
      · have x := List.mem_singleton.mp x
        subst x
        obtain ⟨t, r', t1, t2, t3⟩ := fd_ref hD hth hpr q3 q4 hk
        rw [ha] at t2
        obtain rfl := Option.some.inj t2
        obtain ⟨_, _, _, g', z1, z2⟩ := q6 r (refs_in q4 t1 t3)
        rw [hg] at z1; obtain rfl := Option.some.inj z1
        exact Or.inr z2
/-- where its objects' references lead -/
theorem em_ref (hD : va_D (fun _ => True) ws) (hth : th_ok kA G ta ws) (hG : ∀ r, ro_id r = true → G[r]? = none) (hc : em_chk G = true) (hos : ∀ o ∈ fs, ∃ r, ta o = some r ∧ ob_S G S0 r = true) (h5 : ∃ g5, G[5]? = some g5 ∧ 10 ≤ g5.1) (h6 : g5_chk G 5 = true) (hem : ta em = some 1) (hpr : ta pr = some 149) (he1 : w_fd ws em 1 = .ref pr) {a k b r : Nat} {gg : rg_T} {t : tv_T} {ro : Nat} (hao : a ∈ fs ++ [em, pr]) (har : ta a = some ro) (hgo : G[ro]? = some gg) (hkt : gg.2.2.2.2[k]? = some t) (hb : w_fd ws a k = .ref b) (hbr : ta b = some r) (hr : r ∈ tv_refs t) : (a = em ∧ k = 0) ∨ (em_P kA ta ws (fs ++ [em, pr]) em pr ng b = true ∧ r ≠ 5999) := by
  obtain ⟨g1, g2, q1, q2, q3, q4, q5, q6, _, _⟩ := em_f hc
  obtain ⟨g5, w1, w2⟩ := h5
  have inP : fr_P kA S0 ta ws (fs ++ [em, pr]) b = true := fr_P_iff.mpr (Or.inr (Or.inr (Or.inl ⟨a, hao, k, hb⟩)))
  -- what the embedder saw last is a net
  have stale : st_P ws em pr ng b → r = 5 ∨ r = 149 := fun ⟨x1, _, _, e, he⟩ => by
    obtain ⟨t', r', t1, t2, t3⟩ := fd_ref hD hth hem q1 q2 x1
    rw [hbr] at t2
    obtain rfl := Option.some.inj t2
    have n9 : r ≠ 5999 := fun e9 => by
      subst e9
      rcases hth.1 b 5999 hbr with ⟨g', e', z1, _⟩ | ⟨_, _, _, z4⟩
      · rw [hG 5999 (by decide)] at z1; cases z1
      · exact z4 e he
    rcases q5 0 t' t1 with ⟨_, z⟩ | ⟨z, _⟩ | z
    · rcases z with z | z
      · subst z
        have t4 : r ∈ [5, 5999, 149] := t3
        simp only [List.mem_cons, List.not_mem_nil, or_false] at t4
        omega
      · subst z
        have t4 : r ∈ [5, 149, 5999] := t3
        simp only [List.mem_cons, List.not_mem_nil, or_false] at t4
        omega
    · cases z
    · rename_i hx
      obtain ⟨z1, z2, z3, g', z4, z5⟩ := z r t3
      exact absurd z1 (by rw [show r = r from rfl]; intro zz; exact absurd (And.intro x1 x1) (by
        exfalso
        have lt0 := (List.getElem?_eq_some_iff.mp t1).1
        have q0 := hc
        unfold em_chk at q0
        simp only [Bool.and_eq_true] at q0
        have q9 := q0.1.1.1
        rw [q1] at q9
        simp only [Bool.and_eq_true] at q9
        have qa := List.all_eq_true.mp q9.2 0 (List.mem_range.mpr lt0)
        rw [t1] at qa
        simp only [if_true] at qa
        rw [Bool.or_eq_true, decide_eq_true_eq, decide_eq_true_eq] at qa
        rcases qa with qa | qa
        · subst qa
          have t4 : r ∈ [5, 5999, 149] := t3
          simp only [List.mem_cons, List.not_mem_nil, or_false] at t4
          rcases t4 with t4 | t4 | t4
          · subst t4; rw [w1] at z4; obtain rfl := Option.some.inj z4; omega
          · exact n9 t4
          · exact z3 t4
        · subst qa
          have t4 : r ∈ [5, 149, 5999] := t3
          simp only [List.mem_cons, List.not_mem_nil, or_false] at t4
          rcases t4 with t4 | t4 | t4
          · subst t4; rw [w1] at z4; obtain rfl := Option.some.inj z4; omega
          · exact z3 t4
          · exact n9 t4))
  have fin : (st_P ws em pr ng b → False) → r ≠ 5999 → (a = em ∧ k = 0) ∨ (em_P kA ta ws (fs ++ [em, pr]) em pr ng b = true ∧ r ≠ 5999) := fun h h9 => Or.inr ⟨em_P_iff.mpr ⟨inP, h⟩, h9⟩
  rcases List.mem_append.mp hao with x | x
  · obtain ⟨r2, y1, y2⟩ := hos a x
    rw [har] at y1
    obtain rfl := Option.some.inj y1
    unfold ob_S at y2
    rw [hgo] at y2
    simp only [Bool.and_eq_true, decide_eq_true_eq] at y2
    have al : ∀ r' ∈ tv_refs t, ro_id r' = true ∨ ∃ g', G[r']? = some g' ∧ g'.1 < 4 := fun r' hr' => by
      have z := List.all_eq_true.mp y2.2 r' (refs_in y2.1 hkt hr')
      rw [Bool.or_eq_true, Bool.or_eq_true] at z
      rcases z with (z | z) | z
      · cases z
      · exact Or.inl z
      · split at z
        · rename_i g' hg'; exact Or.inr ⟨g', hg', by simpa using z⟩
        · cases z
    have n5 : 5 ∉ tv_refs t := fun h => by
      rcases al 5 h with z | ⟨g', z1, z2⟩
      · exact absurd z (by decide)
      · rw [w1] at z1; obtain rfl := Option.some.inj z1; omega
    refine fin (fun hs => ?_) (fun e9 => ?_)
    · rcases stale hs with e | e
      · subst e; exact n5 hr
      · subst e
        rcases al 149 hr with z | ⟨g', z1, z2⟩
        · exact absurd z (by decide)
        · rw [q3] at z1; obtain rfl := Option.some.inj z1; omega
    · subst e9
      have z := List.all_eq_true.mp (List.all_eq_true.mp h6 gg (List.mem_of_getElem? hgo)) t (by unfold rg_ks; rw [if_neg (by omega), if_neg (by omega)]; exact List.mem_of_getElem? hkt)
      rw [Bool.and_eq_true, List.contains_iff_mem.mpr hr] at z
      exact n5 (List.contains_iff_mem.mp z.2)
  · rcases List.mem_cons.mp x with x | x
    · subst x
      rw [har] at hem
      obtain rfl := Option.some.inj hem
      rw [hgo] at q1
      obtain rfl := Option.some.inj q1
      rcases q5 k t hkt with ⟨z1, _⟩ | ⟨z1, z2⟩ | z
      · exact Or.inl ⟨rfl, z1⟩
      · subst z1
        rw [he1] at hb
        injection hb with hb
        subst hb
        rw [hpr] at hbr
        obtain rfl := Option.some.inj hbr
        exact fin (fun hs => hs.2.2.1 rfl) (by decide)
      · obtain ⟨_, z2, z3, g', z4, z5⟩ := z r hr
        refine fin (fun hs => ?_) (fun e9 => ?_)
        · rcases stale hs with e | e
          · subst e; rw [w1] at z4; obtain rfl := Option.some.inj z4; omega
          · exact z3 e
        · subst e9; rw [hG 5999 (by decide)] at z4; cases z4
    · have x := List.mem_singleton.mp x
      subst x
      rw [har] at hpr
      obtain rfl := Option.some.inj hpr
      rw [hgo] at q3
      obtain rfl := Option.some.inj q3
      obtain ⟨_, z2, z3, g', z4, z5⟩ := q6 r (refs_in q4 hkt hr)
      refine fin (fun hs => ?_) (fun e9 => ?_)
      · rcases stale hs with e | e
        · subst e; rw [w1] at z4; obtain rfl := Option.some.inj z4; omega
        · exact z3 e
      · subst e9; rw [hG 5999 (by decide)] at z4; cases z4
/-- the part under its names: 5999 is what the embedder saw last, where that is of another place -/
theorem em_th (hD : va_D (fun _ => True) ws) (hth : th_ok kA G ta ws) (hG : ∀ r, ro_id r = true → G[r]? = none) (hc : em_chk G = true) (hos : ∀ o ∈ fs, ∃ r, ta o = some r ∧ ob_S G S0 r = true) (h5 : ∃ g5, G[5]? = some g5 ∧ 10 ≤ g5.1) (h6 : g5_chk G 5 = true) (h7 : g5_chk G 149 = true) (hem : ta em = some 1) (hpr : ta pr = some 149) (he1 : w_fd ws em 1 = .ref pr) (hng : ng ∈ fs) {P : Nat → Bool} (hP : P = em_P kA ta ws (fs ++ [em, pr]) em pr ng) :
    ∃ (kB : Nat → ClassId) (t1 : Nat → Option Nat), (∀ r, r ≠ 5999 → kB r = kA r) ∧ th_ok kB G t1 (w_in P ws) ∧ (∀ a r, ta a = some r → (∃ g, G[r]? = some g) → P a = true → t1 a = some r) ∧ ((kB = kA ∧ t1 = t_in P ta ∧ ∀ r, ro_id r = true → P (kA r) = true) ∨ ∃ es rs, (kB 5999, es) ∈ w_out P ws ∧ ta (kB 5999) = some rs ∧ g5_chk G rs = true) := by
  obtain ⟨g1, g2, q1, q2, q3, q4, q5, q6, _, _⟩ := em_f hc
  have roE : ∀ r e, ro_id r = true → (kA r, e) ∉ ws := fun r e hr he => by
    obtain ⟨r', z1, z2, _⟩ := hth.2 r hr
    rcases hth.1 _ _ z2 with ⟨g', e', y1, _⟩ | ⟨_, _, _, z4⟩
    · rw [hG r' z1] at y1; cases y1
    · exact z4 e he
  have roP : ∀ r, ro_id r = true → P (kA r) = true := fun r hr => by
    rw [hP]
    exact em_P_iff.mpr ⟨fr_ro r hr, fun ⟨_, _, _, e, he⟩ => roE r e hr he⟩
  -- an object's entry under other names
  have conv : ∀ (kB : Nat → ClassId) (t1 : Nat → Option Nat), (∀ r, r < 10 → kB r = kA r) → (∀ b r, ta b = some r → P b = true → r ≠ 5999 → t1 b = some r) → (∀ b r t, w_fd ws em 0 = .ref b → g1.2.2.2.2[0]? = some t → ta b = some r → r ∈ tv_refs t → ∃ r', t1 b = some r' ∧ r' ∈ tv_refs t) → ∀ a r gg e, ta a = some r → G[r]? = some gg → (a, e) ∈ ws → P a = true → rg_ok kA ta gg e → rg_ok kB t1 gg e := fun kB t1 hk ht hz a r gg e ha hg he hp hr => by
    rw [hP] at hp
    rcases em_mem hD hth hG hc hos hem hpr he1 hng ha hg hp with x | x
    · have h10 : 10 ≤ gg.1 := by
        rcases List.mem_append.mp x with x | x
        · obtain ⟨r2, y1, y2⟩ := hos a x
          rw [ha] at y1
          obtain rfl := Option.some.inj y1
          unfold ob_S at y2
          rw [hg] at y2
          simp only [Bool.and_eq_true, decide_eq_true_eq] at y2
          exact y2.1
        · rcases List.mem_cons.mp x with x | x
          · subst x; rw [ha] at hem; obtain rfl := Option.some.inj hem; rw [hg] at q1; obtain rfl := Option.some.inj q1; exact q2
          · have x := List.mem_singleton.mp x
            subst x; rw [ha] at hpr; obtain rfl := Option.some.inj hpr; rw [hg] at q3; obtain rfl := Option.some.inj q3; exact q4
      have hr0 := hr
      rcases hr0 with ⟨z, _⟩ | ⟨z, _⟩ | ⟨_, z, _⟩ | ⟨_, fs0, rfl, l1, _⟩
      · omega
      · omega
      · omega
      · refine ob_to h10 hr (fun j t b r' hj hb hbr hmr => ?_)
        have hw : w_fd ws a j = .ref b := by
          unfold w_fd
          rw [w_at_mem hD he]
          simp only
          rw [List.getD_eq_getElem?_getD, hb]; rfl
        rcases em_ref (ng := ng) hD hth hG hc hos h5 h6 hem hpr he1 x ha hg hj hw hbr hmr with ⟨c1, c2⟩ | ⟨c1, c2⟩
        · subst c1; subst c2
          rw [ha] at hem; obtain rfl := Option.some.inj hem; rw [hg] at q1; obtain rfl := Option.some.inj q1
          exact hz b r' t hw hj hbr hmr
        · exact ⟨r', ht b r' hbr (by rw [hP]; exact c1) c2, hmr⟩
    · exact rg_to hk hr (fun t ht' => by unfold rg_ks at ht'; rw [if_pos x] at ht'; cases ht')
  by_cases hst : ∃ s, st_P ws em pr ng s
  · obtain ⟨s, hs⟩ := hst
    have hPs : P s = false := by
      rw [hP]
      cases h : em_P kA ta ws (fs ++ [em, pr]) em pr ng s with
      | false => rfl
      | true => exact absurd hs (em_P_iff.mp h).2
    obtain ⟨x1, x2, x3, es, hes⟩ := hs
    obtain ⟨t', rs, y1, y2, y3⟩ := fd_ref hD hth hem q1 q2 x1
    have rsE : rs ≠ 5999 := fun e9 => by
      subst e9
      rcases hth.1 s 5999 y2 with ⟨g', e', z1, _⟩ | ⟨_, _, _, z4⟩
      · rw [hG 5999 (by decide)] at z1; cases z1
      · exact z4 es hes
    have kind : (5999 ∈ tv_refs t') ∧ (rs = 5 ∨ rs = 149) := by
      rcases q5 0 t' y1 with ⟨_, z⟩ | ⟨z, _⟩ | z
      · rcases z with z | z
        · subst z
          have t4 : rs ∈ [5, 5999, 149] := y3
          simp only [List.mem_cons, List.not_mem_nil, or_false] at t4
          exact ⟨by decide, by omega⟩
        · subst z
          have t4 : rs ∈ [5, 149, 5999] := y3
          simp only [List.mem_cons, List.not_mem_nil, or_false] at t4
          exact ⟨by decide, by omega⟩
      · cases z
      · exfalso
        have lt0 := (List.getElem?_eq_some_iff.mp y1).1
        have q0 := hc
        unfold em_chk at q0
        simp only [Bool.and_eq_true] at q0
        have q9 := q0.1.1.1
        rw [q1] at q9
        simp only [Bool.and_eq_true] at q9
        have qa := List.all_eq_true.mp q9.2 0 (List.mem_range.mpr lt0)
        rw [y1] at qa
        simp only [if_true] at qa
        rw [Bool.or_eq_true, decide_eq_true_eq, decide_eq_true_eq] at qa
        have m9 : 149 ∈ tv_refs t' := by rcases qa with qa | qa <;> subst qa <;> decide
        exact (z 149 m9).2.2.1 rfl
    obtain ⟨t1, ht1⟩ : ∃ t1 : Nat → Option Nat, ∀ a, t1 a = if a = s then some 5999 else if ta a = some 5999 then (if a = kA 5500 then some 5500 else none) else t_in P ta a := ⟨_, fun _ => rfl⟩
    obtain ⟨kB, hkB⟩ : ∃ kB : Nat → ClassId, ∀ r, kB r = if r = 5999 then s else kA r := ⟨_, fun _ => rfl⟩
    have hk : ∀ r, r ≠ 5999 → kB r = kA r := fun r hr => by rw [hkB, if_neg hr]
    have k9 : kB 5999 = s := by rw [hkB, if_pos rfl]
    have good : ∀ b r, ta b = some r → P b = true → r ≠ 5999 → t1 b = some r := fun b r hb hp h9 => by
      have nb : b ≠ s := fun e => by rw [e, hPs] at hp; cases hp
      rw [ht1, if_neg nb, if_neg (by rw [hb]; intro z; exact h9 (Option.some.inj z))]
      exact t_in_of hp hb
    refine ⟨kB, t1, hk, ⟨fun a r h => ?_, fun r hr => ?_⟩, fun a r h ⟨gg, hgg⟩ hp => good a r h hp (fun e => by rw [e, hG 5999 (by decide)] at hgg; cases hgg), Or.inr ⟨es, rs, by rw [k9]; exact w_out_mem.mpr ⟨hes, hPs⟩, by rw [k9]; exact y2, by rcases kind.2 with e | e <;> rw [e] <;> assumption⟩⟩
    · rw [ht1] at h
      by_cases c : a = s
      · rw [if_pos c] at h
        obtain rfl := Option.some.inj h
        exact Or.inr ⟨hG 5999 (by decide), by decide, by rw [k9]; exact c, fun e he => by have z := (w_in_mem.mp he).2; rw [c, hPs] at z; cases z⟩
      · rw [if_neg c] at h
        by_cases c2 : ta a = some 5999
        · rw [if_pos c2] at h
          by_cases c3 : a = kA 5500
          · rw [if_pos c3] at h
            obtain rfl := Option.some.inj h
            exact Or.inr ⟨hG 5500 (by decide), by decide, by rw [hk 5500 (by decide)]; exact c3, fun e he => by rw [c3] at he; exact roE 5500 e (by decide) (w_in_mem.mp he).1⟩
          · rw [if_neg c3] at h; cases h
        · rw [if_neg c2] at h
          obtain ⟨hp, ha⟩ := t_in_some h
          rcases hth.1 a r ha with ⟨gg, e, z1, z2, z3⟩ | ⟨z1, z2, z3, z4⟩
          · refine Or.inl ⟨gg, e, z1, w_in_mem.mpr ⟨z2, hp⟩, conv kB t1 (fun r hr => hk r (by omega)) good (fun b r2 t3 hb ht3 hb2 hm => ?_) a r gg e ha z1 z2 hp z3⟩
            rw [x1] at hb
            injection hb with hb
            subst hb
            rw [y1] at ht3
            obtain rfl := Option.some.inj ht3
            exact ⟨5999, by rw [ht1, if_pos rfl], kind.1⟩
          · have n9 : r ≠ 5999 := fun e => by rw [e] at ha; exact c2 ha
            exact Or.inr ⟨z1, z2, by rw [hk r n9]; exact z3, fun e he => z4 e (w_in_mem.mp he).1⟩
    · by_cases c : r = 5999
      · subst c
        exact ⟨5999, by decide, by rw [k9, ht1, if_pos rfl], fun _ => rfl⟩
      · obtain ⟨r', z1, z2, z3⟩ := hth.2 r hr
        have ns : kA r ≠ s := fun e => roE r es hr (by rw [e]; exact hes)
        rw [hk r c]
        by_cases c2 : r' = 5999
        · have r55 : r = 5500 := by
            by_cases lt : r < 5500
            · have := z3 lt; omega
            · unfold ro_id at hr
              simp only [Bool.or_eq_true, Bool.and_eq_true, decide_eq_true_eq] at hr
              rcases hr with ((((⟨_, b⟩ | ⟨_, b⟩) | b) | b) | b) | b <;> omega
          subst r55
          exact ⟨5500, by decide, by rw [ht1, if_neg ns, if_pos (by rw [z2, c2]), if_pos rfl], fun _ => rfl⟩
        · exact ⟨r', z1, by rw [ht1, if_neg ns, if_neg (by rw [z2]; intro z; exact c2 (Option.some.inj z))]; exact t_in_of (roP r hr) z2, z3⟩
  · have nst : ∀ b, ¬ st_P ws em pr ng b := fun b hb => hst ⟨b, hb⟩
    refine ⟨kA, t_in P ta, fun _ _ => rfl, th_part hth roP (conv kA (t_in P ta) (fun _ _ => rfl) (fun b r hb hp _ => t_in_of hp hb) (fun b r t hb _ hb2 hm => ⟨r, t_in_of ?_ hb2, hm⟩)), fun a r h _ hp => t_in_of hp h, Or.inl ⟨rfl, rfl, roP⟩⟩
    rw [hP]
    exact em_P_iff.mpr ⟨fr_P_iff.mpr (Or.inr (Or.inr (Or.inl ⟨em, List.mem_append_right _ List.mem_cons_self, 0, hb⟩))), nst b⟩
end HI10
