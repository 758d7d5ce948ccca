/-! what a call on a part sees: arguments, fields known ahead, facts -/
section HI5
variable {PQ : pq_T} {kA : Nat → ClassId} {G : List rg_T} {ta : Nat → Option Nat} {ws : va_W} {P : Nat → Bool}
theorem fd_obj (hD : va_D (fun _ => True) ws) {a k b : Nat} (h : w_fd ws a k = .ref b) : ∃ ci fs, (a, .inr (ci, fs)) ∈ ws ∧ fs[k]? = some (.ref b) := by
  unfold w_fd at h
  split at h
  · rename_i ci fs hw
    refine ⟨ci, fs, w_mem hw, ?_⟩
    rw [List.getD_eq_getElem?_getD] at h
    cases hv : fs[k]? with
    | none => rw [hv] at h; cases h
    | some v => rw [hv] at h; have e : v = .ref b := h; rw [e]
  · cases h
theorem cl_fd (hD : va_D (fun _ => True) ws) (hth : th_ok kA G ta ws) (hcl : ∀ a r g e, ta a = some r → G[r]? = some g → (a, e) ∈ ws → P a = true → rg_ok kA ta g e → rg_ok kA (t_in P ta) g e) {a r : Nat} {g : rg_T} (ha : ta a = some r) (hg : G[r]? = some g) (hp : P a = true) {k b : Nat} (h : w_fd ws a k = .ref b) : P b = true := by
  obtain ⟨e, he, hr⟩ := th_in hth ha hg
  obtain ⟨ci, fs, m1, m2⟩ := fd_obj hD h
  have ee : e = .inr (ci, fs) := by
    have := w_at_mem hD he
    rw [w_at_mem hD m1] at this
    exact (Option.some.inj this).symm
  subst ee
  rcases hcl a r g _ ha hg he hp hr with ⟨_, n, f, z, _⟩ | ⟨_, n, f, z, _⟩ | ⟨_, _, n, f, z, _⟩ | ⟨_, fs', z, l1, hf⟩
  · cases z
  · cases z
  · cases z
  · injection z with z1; injection z1 with z2 z3
    subst z3
    have hlt := (List.getElem?_eq_some_iff.mp m2).1
    rw [l1] at hlt
    have htv := hf k _ _ (List.getElem?_eq_getElem hlt) m2
    rcases htv with ⟨_, x, q, _⟩ | ⟨_, x, q, _⟩ | ⟨_, a', r', q, q1, _⟩ | ⟨_, q | ⟨a', r', q, q1, _⟩⟩ | ⟨_, x, q, _⟩ | ⟨_, x, q, _⟩
    · cases q
    · cases q
    · cases q; exact (t_in_some q1).1
    · cases q
    · cases q; exact (t_in_some q1).1
    · cases q
    · cases q
theorem ag_in : ∀ {ts : List tv_T} {av : List Value}, ag_ok ta ts av → (∀ b, Value.ref b ∈ av → P b = true) → ag_ok (t_in P ta) ts av
  | [], [], _, _ => trivial
  | _ :: _, _ :: _, h, hp => ⟨tv_inP h.1 (fun b _ e _ _ => hp b (by rw [e]; exact List.mem_cons_self)), ag_in h.2 (fun b hb => hp b (List.mem_cons_of_mem _ hb))⟩
  | [], _ :: _, h, _ => h.elim
  | _ :: _, [], h, _ => h.elim
theorem gv_in (hD : va_D (fun _ => True) ws) {av : List Value} (hp : ∀ b, Value.ref b ∈ av → P b = true) (hc : ∀ b, Value.ref b ∈ av → ∀ k c, w_fd ws b k = .ref c → P c = true) : ∀ {ga : ga_L} {gv : List Value}, gv_ok ta ws av ga gv → gv_ok (t_in P ta) (w_in P ws) av ga gv
  | [], [], _ => trivial
  | q :: r, v :: gs, h => by
    obtain ⟨⟨a, ci, fs, h1, h2, h3⟩, h4, h5⟩ := h
    have hm := List.mem_of_getElem? h1
    refine ⟨⟨a, ci, fs, h1, w_in_mem.mpr ⟨h2, hp a hm⟩, h3⟩, tv_inP h4 (fun b _ e _ _ => hc a hm q.1.2 b ?_), gv_in hD hp hc h5⟩
    unfold w_fd
    rw [w_at_mem hD h2]
    simp only
    rw [List.getD_eq_getElem?_getD, h3, e]; rfl
  | [], _ :: _, h => h.elim
  | _ :: _, [], h => h.elim
/-- a fact about things of the part holds of the part alone -/
theorem tk_part {f : fc_T} {vs : List Value} {u : List (Nat × Nat) × List (Nat × Nat)} (hu : tk_use f = some u) (hrs : tk_rs f = []) (h1 : ∀ q ∈ u.1, P (n_ad vs q.1) = true) (h2 : ∀ q ∈ u.2, P (n_ad vs q.1) = true ∧ P (w_ar ws (n_v vs q.1) q.2) = true) (hf : fc_1 PQ f ws vs) : fc_1 PQ f (w_in P ws) vs :=
  (tk_frame hu (fun q hq => w_fd_in (h1 q hq)) (fun q hq => ⟨by show v_ad (w_fd (w_in P ws) (n_ad vs q.1) q.2) = v_ad (w_fd ws (n_ad vs q.1) q.2); rw [w_fd_in (h2 q hq).1], fun j => w_el_in (h2 q hq).2⟩) (fun q hq => by rw [hrs] at hq; cases hq) hf).2
theorem n_v_left {xs ys : List Value} {n : Nat} (h : n < xs.length) : n_v (xs ++ ys) n = n_v xs n := by unfold n_v; rw [List.getElem?_append_left h]
theorem fc_cut {f : fc_T} {w : va_W} {xs ys : List Value} (hn : ∀ n ∈ f.2.1, n < xs.length) (h : fc_1 PQ f w (xs ++ ys)) : fc_1 PQ f w xs := by
  refine ⟨hn, ?_⟩
  have e : f.2.1.map (n_v (xs ++ ys)) = f.2.1.map (n_v xs) := List.map_congr_left (fun n hm => n_v_left (hn n hm))
  rw [← e]; exact h.2
theorem fc_ext {f : fc_T} {w : va_W} {xs ys : List Value} (h : fc_1 PQ f w xs) : fc_1 PQ f w (xs ++ ys) := fc_1_pre ⟨ys, rfl⟩ h
end HI5
/-- a graph in a part -/
theorem ob_in {P : Nat → Bool} {ws : va_W} {fs as : List Nat} {o : Nat} (h : P o = true) (ha : ∀ k ∈ as, ∀ d, w_fd ws o k = .ref d → P d = true) : ob_eq fs as o ws (w_in P ws) := ⟨fun k _ => w_fd_in h, fun k hk d hd i => w_el_in (ha k hk d hd)⟩
/-- what calls on graphs want and give -/
def GT (w : va_W) (x : Value) : Prop := GKE (w_fi w x 0) (w_fi w x 1) (w_ei w (w_ar w x 7)) (w_ei w (w_ar w x 8)) ∧ GNB (w_fi w x 0) (w_fi w x 1) (w_ei w (w_ar w x 14)) (w_ei w (w_ar w x 7)) (w_ei w (w_ar w x 8)) ∧ w_fi w x 17 + w_fi w x 18 ≤ 30 ∧ PDQ (w_fi w x 17) (w_fi w x 18) (w_ei w (w_ar w x 16))
theorem pdq_zero {dn un : Int} {pa : Int → Int} (h : dn + un = 0) : PDQ dn un pa := fun z => by omega
theorem GT_of {w : va_W} {x : Value} {o : Nat} (ho : v_ad x = o) (h : HG w o) (hp : w_fd w o 16 = .null ∨ ∃ d, w_fd w o 16 = .ref d) : GT w x := by
  obtain ⟨⟨t, hh, n, a1, a2, a3, a4, a5⟩, b, c, d⟩ := h
  subst ho
  have e7 : w_ar w x 7 = t := by show v_ad (w_fd w (v_ad x) 7) = t; rw [a1]; rfl
  have e8 : w_ar w x 8 = hh := by show v_ad (w_fd w (v_ad x) 8) = hh; rw [a2]; rfl
  have e14 : w_ar w x 14 = n := by show v_ad (w_fd w (v_ad x) 14) = n; rw [a3]; rfl
  unfold GT
  rw [e7, e8, e14]
  refine ⟨a4, a5, b, ?_⟩
  rcases hp with hp | ⟨p, hp⟩
  · exact pdq_zero (d hp)
  · have e16 : w_ar w x 16 = p := by show v_ad (w_fd w (v_ad x) 16) = p; rw [hp]; rfl
    rw [e16]; exact c p hp
theorem GT_HG {w : va_W} {x : Value} {o t hh n : Nat} (ho : v_ad x = o) (h : GT w x) (a1 : w_fd w o 7 = .ref t) (a2 : w_fd w o 8 = .ref hh) (a3 : w_fd w o 14 = .ref n) (hp : w_fd w o 16 = .null → w_fi w x 17 + w_fi w x 18 = 0) : HG w o := by
  subst ho
  have e7 : w_ar w x 7 = t := by show v_ad (w_fd w (v_ad x) 7) = t; rw [a1]; rfl
  have e8 : w_ar w x 8 = hh := by show v_ad (w_fd w (v_ad x) 8) = hh; rw [a2]; rfl
  have e14 : w_ar w x 14 = n := by show v_ad (w_fd w (v_ad x) 14) = n; rw [a3]; rfl
  unfold GT at h
  rw [e7, e8, e14] at h
  refine ⟨⟨t, hh, n, a1, a2, a3, h.1, h.2.1⟩, h.2.2.1, fun d hd => ?_, hp⟩
  have e16 : w_ar w x 16 = d := by show v_ad (w_fd w (v_ad x) 16) = d; rw [hd]; rfl
  have q := h.2.2.2
  rw [e16] at q
  exact q
/-- references in fields, by the regions' kinds -/
theorem fd_some {kA : Nat → ClassId} {G : List rg_T} {ta : Nat → Option Nat} {ws : va_W} {A : Nat → Prop} (hD : va_D A ws) (hth : th_ok kA G ta ws) {o r k : Nat} {g : rg_T} {t : tv_T} (ho : ta o = some r) (hg : G[r]? = some g) (h10 : 10 ≤ g.1) (hk : g.2.2.2.2[k]? = some t) (h2 : t.1 = 2) : ∃ d, w_fd ws o k = .ref d := by
  obtain ⟨d, _, e, _⟩ := tv_ref (fd_at hD hth ho hg hk h10).1 h2
  exact ⟨d, e⟩
theorem fd_null {kA : Nat → ClassId} {G : List rg_T} {ta : Nat → Option Nat} {ws : va_W} {A : Nat → Prop} (hD : va_D A ws) (hth : th_ok kA G ta ws) {o r k : Nat} {g : rg_T} {t : tv_T} (ho : ta o = some r) (hg : G[r]? = some g) (h10 : 10 ≤ g.1) (hk : g.2.2.2.2[k]? = some t) (h3 : t.1 = 3) : w_fd ws o k = .null ∨ ∃ d, w_fd ws o k = .ref d := by
  rcases (fd_at hD hth ho hg hk h10).1 with ⟨z, _⟩ | ⟨z, _⟩ | ⟨z, _⟩ | ⟨_, z | ⟨a, _, z, _⟩⟩ | ⟨z, _⟩ | ⟨z, _⟩
  · omega
  · omega
  · omega
  · exact Or.inl z
  · exact Or.inr ⟨a, z⟩
  · omega
  · omega
