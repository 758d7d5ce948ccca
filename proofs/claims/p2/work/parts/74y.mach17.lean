variable {PQ : pq_T}
/-- a contract on a part of the world: its own facts (on the part) give other facts (on the whole), where the rest is as it was -/
theorem ct_frame2 {l : Launch} {D : va_G} {kA : Nat → ClassId} {G : List rg_T} {y : MethodName} {z : List Cond} {en en2 : en_T} (h : ct_ok PQ l D kA G y z en) (e1 : en2.1 = en.1) (e2 : en2.2.1 = en.2.1) (e3 : en2.2.2.1 = false) (e4 : en2.2.2.2.1 = en.2.2.2.1) (e5 : en2.2.2.2.2.1 = en.2.2.2.2.1) (e6 : en2.2.2.2.2.2.1 = en.2.2.2.2.2.1) (e7 : en2.2.2.2.2.2.2.1 = [])
    (e8 : en2.2.2.2.2.2.2.2.2.1 = en.2.2.2.2.2.2.2.2.1) (e9 : en2.2.2.2.2.2.2.2.2.2.1 = en.2.2.2.2.2.2.2.2.2.1)
    (hpart : ∀ (ta : Nat → Option Nat) (ws : va_W) (av gv hv : List Value), va_D (fun _ => True) ws → th_ok kA G ta ws → ag_ok ta en2.1 av → gv_ok ta ws av en2.2.2.2.2.2.2.2.1 gv → ag_ok ta en2.2.2.2.2.2.2.2.2.2.2.2.2 hv → pr_ok PQ en2 ws (av ++ gv ++ hv) →
      ∃ (P : Nat → Bool) (gv1 hv1 : List Value), (∀ r, ro_id r = true → P (kA r) = true) ∧ (∀ a r g e, ta a = some r → G[r]? = some g → (a, e) ∈ ws → P a = true → rg_ok kA ta g e → rg_ok kA (t_in P ta) g e) ∧ ag_ok (t_in P ta) en.1 av ∧ gv_ok (t_in P ta) (w_in P ws) av en.2.2.2.2.2.2.2.1 gv1 ∧ ag_ok (t_in P ta) en.2.2.2.2.2.2.2.2.2.2.2.2 hv1 ∧ pr_ok PQ en (w_in P ws) (av ++ gv1 ++ hv1) ∧
        ∀ (u : uS_T) (tb : Nat → Option Nat) (r : Option Value), ta_le (t_in P ta) u.1 → th_ok kA G u.1 u.2 → th_ok kA G tb (w_out P ws ++ u.2) → ta_le ta tb → ta_le u.1 tb → kp en.2.2.2.2.2.2.2.2 (t_in P ta) (w_in P ws) u.2 → va_D (fun _ => True) (w_out P ws ++ u.2) → po_ok PQ u.1 u.2 (av ++ gv1 ++ hv1) en.2.2.2.2.2.2.1 en.2.2.2.2.2.2.2.2.2.2.2.1 r → ∀ f ∈ en2.2.2.2.2.2.2.2.2.2.2.2.1, fc_1 PQ f (w_out P ws ++ u.2) ((av ++ gv ++ hv) ++ r.toList)) : ct_ok PQ l D kA G y z en2 := by
  intro sz ta ws av gv hv hth hag hgv hhv hpr
  by_cases hD0 : va_D (fun _ => True) ws
  · obtain ⟨P, gv1, hv1, hro, hcl, k1, k2, k3, k4, hend⟩ := hpart ta ws av gv hv hD0 hth hag hgv hhv hpr
    have hM := h sz (t_in P ta) (w_in P ws) av gv1 hv1 (th_part hth hro hcl) k1 k2 k3 k4
    rw [e4, e5, e6]
    refine met_imp hM (fun a s ⟨c1, c2⟩ => ⟨c1, wpr_in c2⟩) (fun a s o t ⟨c1, c2⟩ hQ => ?_) (fun q hq => va_A_in q hq)
    obtain ⟨u, r, eo, p1, p2, p3, p4, p5, p6⟩ := qc_out hQ
    obtain ⟨tb, j1, j2, j3, j4, j5, j6⟩ := fr_join hth hro c2 p1 p4 p5
    refine qc_in (u := (tb, w_out P ws ++ u.2)) eo ⟨j1, j3, fun c => ?_, ?_⟩ ?_ ⟨?_, Or.inl e7⟩ j5 j6 (fun q hq => p6 q (by rw [← e2]; exact hq))
    · rw [e3] at c; cases c
    · exact kp_mono (mo := en.2.2.2.2.2.2.2.2) (fun q hq => by rw [e9]; exact hq) (fun r hr => by rw [e8] at hr; exact hr) j4
    · rw [e2]
      revert p2
      cases en.2.1 with
      | none => cases r with | none => exact id | some v => exact id
      | some t => cases r with | none => exact id | some v => exact fun p => tv_mono j2 p
    · exact hend u tb r p1.1 p1.2.1 j3 j1 j2 p1.2.2.2 (j5.2.2.weaken (fun _ _ _ _ => trivial)) p3
  · -- no such world
    intro p e h1 h2 h3 s m args below h4 h5 h6 h7
    exact absurd h6.2.1.2.2.2.1 hD0
/-! frames: the part of the world that a call works on -/
theorem w_at_in {P : Nat → Bool} {a : Nat} (h : P a = true) : ∀ {ws : va_W}, w_at (w_in P ws) a = w_at ws a
  | [] => rfl
  | x :: r => by
    have ih := w_at_in (P := P) (a := a) h (ws := r)
    unfold w_at w_in at ih ⊢
    by_cases e : x.1 = a
    · have hp : P x.1 = true := by rw [e]; exact h
      rw [List.filter_cons_of_pos (p := fun q : Nat × va_E => P q.1) hp, List.find?_cons_of_pos (by simp [e]), List.find?_cons_of_pos (by simp [e])]
    · rw [List.find?_cons_of_neg (l := r) (by simp [e])]
      by_cases hp : P x.1 = true
      · rw [List.filter_cons_of_pos (p := fun q : Nat × va_E => P q.1) hp, List.find?_cons_of_neg (by simp [e])]; exact ih
      · rw [List.filter_cons_of_neg (p := fun q : Nat × va_E => P q.1) hp]; exact ih
theorem w_fd_in {P : Nat → Bool} {a k : Nat} {ws : va_W} (h : P a = true) : w_fd (w_in P ws) a k = w_fd ws a k := by
  unfold w_fd; rw [w_at_in h]
theorem w_el_in {P : Nat → Bool} {a k : Nat} {ws : va_W} (h : P a = true) : w_el (w_in P ws) a k = w_el ws a k := by
  unfold w_el; rw [w_at_in h]
/-- behind the call: the rest is as it was, the part as the call left it -/
theorem w_at_rest {P : Nat → Bool} {ws u : va_W} {a : Nat} {e : va_E} (hD0 : va_D (fun _ => True) ws) (hD : va_D (fun _ => True) (w_out P ws ++ u)) (h : P a = false) (he : (a, e) ∈ ws) : w_at (w_out P ws ++ u) a = w_at ws a := by
  rw [w_at_mem hD (List.mem_append_left _ (w_out_mem.mpr ⟨he, h⟩)), w_at_mem hD0 he]
theorem w_at_part {P : Nat → Bool} {ws u : va_W} {a : Nat} {e : va_E} (hDu : va_D (fun _ => True) u) (hD : va_D (fun _ => True) (w_out P ws ++ u)) (he : (a, e) ∈ u) : w_at (w_out P ws ++ u) a = w_at u a := by
  rw [w_at_mem hD (List.mem_append_right _ he), w_at_mem hDu he]
theorem vd_right {A : Nat → Prop} {ws u : va_W} (hD : va_D A (ws ++ u)) : va_D A u := by
  refine vd_of ?_ (fun q hq => ?_)
  · exact (List.pairwise_append.mp (vd_nd hD)).2.1
  · obtain ⟨k, hk⟩ := List.mem_iff_getElem?.mp (List.mem_append_right ws hq)
    exact hD.2 k q hk
def tv_refs (t : tv_T) : List Nat := if t.1 = 2 ∨ t.1 = 3 then t.2.2.2 else []
def rg_refs (g : rg_T) : List Nat := if g.1 < 4 then [] else if g.1 < 10 then tv_refs g.2.2.2.1 else (g.2.2.2.2.map tv_refs).flatten
/-- regions that lead to none but themselves -/
def cl_S (G : List rg_T) (S : Nat → Bool) : Bool := (List.range G.length).all (fun r => !(S r) || (match G[r]? with | some g => (rg_refs g).all (fun r' => S r' || ro_id r') | none => true))
/-- objects whose references are arrays of numbers, or lead to such regions -/
def ob_S (G : List rg_T) (S : Nat → Bool) (r : Nat) : Bool := match G[r]? with
  | some g => decide (10 ≤ g.1) && (rg_refs g).all (fun r' => S r' || ro_id r' || (match G[r']? with | some g' => decide (g'.1 < 4) | none => false))
  | none => false
noncomputable def fr_P (kA : Nat → ClassId) (S : Nat → Bool) (ta : Nat → Option Nat) (ws : va_W) (os : List Nat) (a : Nat) : Bool := @decide ((∃ r, ta a = some r ∧ S r = true) ∨ a ∈ os ∨ (∃ o ∈ os, ∃ k, w_fd ws o k = .ref a) ∨ ∃ r, ro_id r = true ∧ a = kA r) (Classical.propDecidable _)
section M17
variable {kA : Nat → ClassId} {G : List rg_T} {ta : Nat → Option Nat} {ws : va_W} {S : Nat → Bool} {os : List Nat}
theorem fr_P_iff {a : Nat} : fr_P kA S ta ws os a = true ↔ ((∃ r, ta a = some r ∧ S r = true) ∨ a ∈ os ∨ (∃ o ∈ os, ∃ k, w_fd ws o k = .ref a) ∨ ∃ r, ro_id r = true ∧ a = kA r) := by
  unfold fr_P; exact @decide_eq_true_iff _ (Classical.propDecidable _)
theorem tv_inP {P : Nat → Bool} {t : tv_T} {v : Value} (h : tv_ok ta t v) (hp : ∀ b r, v = .ref b → ta b = some r → r ∈ tv_refs t → P b = true) : tv_ok (t_in P ta) t v := by
  rcases h with h | h | ⟨k, a, r, e, h1, h2⟩ | ⟨k, e | ⟨a, r, e, h1, h2⟩⟩ | h | h
  · exact Or.inl h
  · exact Or.inr (Or.inl h)
  · exact Or.inr (Or.inr (Or.inl ⟨k, a, r, e, t_in_of (hp a r e h1 (by unfold tv_refs; rw [if_pos (Or.inl k)]; exact h2)) h1, h2⟩))
  · exact Or.inr (Or.inr (Or.inr (Or.inl ⟨k, Or.inl e⟩)))
  · exact Or.inr (Or.inr (Or.inr (Or.inl ⟨k, Or.inr ⟨a, r, e, t_in_of (hp a r e h1 (by unfold tv_refs; rw [if_pos (Or.inr k)]; exact h2)) h1, h2⟩⟩)))
  · exact Or.inr (Or.inr (Or.inr (Or.inr (Or.inl h))))
  · exact Or.inr (Or.inr (Or.inr (Or.inr (Or.inr h))))
/-- an entry stays as its region says where all that it leads to is in the part -/
theorem rg_in {P : Nat → Bool} {g : rg_T} {e : va_E} (h : rg_ok kA ta g e) (hp : ∀ b r, r ∈ rg_refs g → ta b = some r → (∀ fs : List Value, e = .inr (g.1 - 10, fs) → ∃ j : Nat, fs[j]? = some (.ref b)) → P b = true) : rg_ok kA (t_in P ta) g e := by
  rcases h with ⟨k, n, f, e1, a, b, q, c, d⟩ | ⟨k, n, f, e1, a, b, q, c⟩ | ⟨k, k2, n, f, e1, a, b, c⟩ | ⟨k, fs, e1, a, c⟩
  · exact Or.inl ⟨k, n, f, e1, a, b, q, fun j hj => tv_inP (c j hj) (fun _ _ z => by cases z), fun j t hj ht => tv_inP (d j t hj ht) (fun _ _ z => by cases z)⟩
  · exact Or.inr (Or.inl ⟨k, n, f, e1, a, b, q, fun j hj => tv_inP (c j hj) (fun _ _ z => by cases z)⟩)
  · refine Or.inr (Or.inr (Or.inl ⟨k, k2, n, f, e1, a, b, fun j hj => tv_inP (c j hj) (fun b' r' z h1 h2 => hp b' r' ?_ h1 (fun fs e2 => ?_))⟩))
    · unfold rg_refs; rw [if_neg (by omega), if_pos k2]; exact h2
    · rw [e1] at e2; cases e2
  · refine Or.inr (Or.inr (Or.inr ⟨k, fs, e1, a, fun j t v h1 h2 => tv_inP (c j t v h1 h2) (fun b' r' z h3 h4 => hp b' r' ?_ h3 (fun fs2 e2 => ?_))⟩))
    · unfold rg_refs; rw [if_neg (by omega), if_neg (by omega)]
      exact List.mem_flatten.mpr ⟨_, List.mem_map.mpr ⟨t, List.mem_of_getElem? h1, rfl⟩, h4⟩
    · rw [e1] at e2
      injection e2 with e3; injection e3 with e4 e5
      subst e5
      exact ⟨j, by rw [h2, z]⟩
theorem fr_ro : ∀ r, ro_id r = true → fr_P kA S ta ws os (kA r) = true := fun r hr => fr_P_iff.mpr (Or.inr (Or.inr (Or.inr ⟨r, hr, rfl⟩)))
theorem fr_cl (hth : th_ok kA G ta ws) (hD : va_D (fun _ => True) ws) (hG : ∀ r, ro_id r = true → G[r]? = none) (hS : cl_S G S = true) (hos : ∀ o ∈ os, ∃ r, ta o = some r ∧ ob_S G S r = true) : ∀ a r g e, ta a = some r → G[r]? = some g → (a, e) ∈ ws → fr_P kA S ta ws os a = true → rg_ok kA ta g e → rg_ok kA (t_in (fr_P kA S ta ws os) ta) g e := by
  intro a r g e ha hg he hp hr
  have roP : ∀ b r', ta b = some r' → ro_id r' = true → fr_P kA S ta ws os b = true := fun b r' h1 h2 => by
    rcases hth.1 b r' h1 with ⟨g', e', q1, _⟩ | ⟨_, _, q3, _⟩
    · rw [hG r' h2] at q1; cases q1
    · exact fr_P_iff.mpr (Or.inr (Or.inr (Or.inr ⟨r', h2, q3⟩)))
  have inS : S r = true → rg_ok kA (t_in (fr_P kA S ta ws os) ta) g e := fun hs => by
    refine rg_in hr (fun b r' h1 h2 _ => ?_)
    have hlt := (List.getElem?_eq_some_iff.mp hg).1
    have h3 := List.all_eq_true.mp hS r (List.mem_range.mpr hlt)
    rw [hs, hg] at h3
    have h4 : (rg_refs g).all (fun r' => S r' || ro_id r') = true := h3
    have h5 := List.all_eq_true.mp h4 r' h1
    rw [Bool.or_eq_true] at h5
    rcases h5 with h5 | h5
    · exact fr_P_iff.mpr (Or.inl ⟨r', h2, h5⟩)
    · exact roP b r' h2 h5
  rcases fr_P_iff.mp hp with ⟨r0, h1, h2⟩ | h1 | ⟨o, ho, k, hk⟩ | ⟨r0, h1, h2⟩
  · rw [ha] at h1
    exact inS (by rw [Option.some.inj h1]; exact h2)
  · refine rg_in hr (fun b r' h2 h3 h4 => ?_)
    obtain ⟨ro, q1, q2⟩ := hos a h1
    rw [ha] at q1
    obtain rfl := Option.some.inj q1
    unfold ob_S at q2
    rw [hg] at q2
    simp only [Bool.and_eq_true, decide_eq_true_eq] at q2
    rcases hr with ⟨z, _⟩ | ⟨z, _⟩ | ⟨_, z, _⟩ | ⟨_, fs, e1, _, _⟩
    · omega
    · omega
    · omega
    · obtain ⟨j, hj⟩ := h4 fs e1
      refine fr_P_iff.mpr (Or.inr (Or.inr (Or.inl ⟨a, h1, j, ?_⟩)))
      unfold w_fd
      rw [w_at_mem hD he, e1]
      simp only
      rw [List.getD_eq_getElem?_getD, hj]; rfl
  · obtain ⟨ro, q1, q2⟩ := hos o ho
    unfold ob_S at q2
    split at q2
    · rename_i g0 hg0
      rw [Bool.and_eq_true, decide_eq_true_eq] at q2
      obtain ⟨e0, m0, r0⟩ := th_in hth q1 hg0
      have hmem : r ∈ rg_refs g0 := by
        rcases r0 with ⟨z, _⟩ | ⟨z, _⟩ | ⟨_, z, _⟩ | ⟨_, fs, rfl, l1, hf⟩
        · omega
        · omega
        · omega
        · unfold w_fd at hk
          rw [w_at_mem hD m0] at hk
          simp only at hk
          rw [List.getD_eq_getElem?_getD] at hk
          cases hv : fs[k]? with
          | none => rw [hv] at hk; cases hk
          | some v =>
            rw [hv] at hk
            have hv2 : v = .ref a := hk
            subst hv2
            have hlt := (List.getElem?_eq_some_iff.mp hv).1
            rw [l1] at hlt
            have ht := List.getElem?_eq_getElem hlt
            have htv := hf k _ _ ht hv
            have hr2 : r ∈ tv_refs (g0.2.2.2.2[k]) := by
              rcases htv with ⟨_, x, z, _⟩ | ⟨_, x, z, _⟩ | ⟨kk, a', r', z, z1, z2⟩ | ⟨kk, z | ⟨a', r', z, z1, z2⟩⟩ | ⟨_, x, z, _⟩ | ⟨_, x, z, _⟩
              · cases z
              · cases z
              · cases z; rw [ha] at z1; obtain rfl := Option.some.inj z1; unfold tv_refs; rw [if_pos (Or.inl kk)]; exact z2
              · cases z
              · cases z; rw [ha] at z1; obtain rfl := Option.some.inj z1; unfold tv_refs; rw [if_pos (Or.inr kk)]; exact z2
              · cases z
              · cases z
            unfold rg_refs; rw [if_neg (by omega), if_neg (by omega)]
            exact List.mem_flatten.mpr ⟨_, List.mem_map.mpr ⟨_, List.getElem_mem hlt, rfl⟩, hr2⟩
      have h5 := List.all_eq_true.mp q2.2 r hmem
      rw [Bool.or_eq_true, Bool.or_eq_true] at h5
      rcases h5 with (h5 | h5) | h5
      · exact inS h5
      · rw [hG r h5] at hg; cases hg
      · rw [hg] at h5
        have h6 : g.1 < 4 := by simpa using h5
        refine rg_in hr (fun b r' h2 _ _ => ?_)
        unfold rg_refs at h2; rw [if_pos h6] at h2; cases h2
    · cases q2
  · obtain ⟨r1, z1, z2, _⟩ := hth.2 r0 h1
    rw [← h2, ha] at z2
    rw [Option.some.inj z2, hG r1 z1] at hg; cases hg
end M17
