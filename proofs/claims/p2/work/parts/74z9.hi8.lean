/-! the same for any part that holds nothing of other places -/
def pz_ok (P : Nat → Bool) (ws : va_W) (H : Value) (g : Nat) (fsel : List Nat) (ta : Nat → Option Nat) (G : List rg_T) : Prop := P (v_ad H) = false ∧ (∀ f, f < 3 → P (w_ar ws H f) = false) ∧ (∀ f, f < 3 → ∀ j, j < 4 → (j ≠ g ∨ f ∉ fsel) → P (pO ws H f j) = false ∧ ∀ k ∈ pA f, ∀ d, w_fd ws (pO ws H f j) k = .ref d → P d = false ∧ ∃ rd gd, ta d = some rd ∧ G[rd]? = some gd) ∧ ∀ f ∈ fsel, P (pO ws H f g) = true
def ar_chk (G : List rg_T) : Bool := [0, 1, 2].all (fun f' => (pA f').all (fun k => match fl_at G (rX f') k with | some t => (tv_refs t).all (fun rd => (G[rd]?).isSome) | none => false))
section HI8
variable {kA : Nat → ClassId} {G : List rg_T} {ta : Nat → Option Nat} {ws : va_W} {fsel : List Nat} {H : Value} {g : Nat}
theorem pz_ot (hD : va_D (fun _ => True) ws) (hth : th_ok kA G ta ws) (c1 : hs_chk G = true) (c6 : ar_chk G = true) (hH : ta (v_ad H) = some rH) (hgH : ∃ gg, G[rH]? = some gg) (hA : HA ws H) (hg : g < 4) {P : Nat → Bool} (hp : pz_ok P ws H g fsel ta G) {u : va_W} (hDj : va_D (fun _ => True) (w_out P ws ++ u)) : hd_eq H ws (w_out P ws ++ u) ∧ ∀ f, f < 3 → ∀ j, j < 4 → (j ≠ g ∨ f ∉ fsel) → ob_eq (pF f) (pA f) (pO ws H f j) ws (w_out P ws ++ u) := by
  obtain ⟨p1, p2, p3, _⟩ := hp
  obtain ⟨gH, hgH⟩ := hgH
  refine ⟨fun f hf => ⟨at_fd (fr_same hD hDj hth hH hgH p1), fun j _ => ?_⟩, fun f hf j hj hjg => ?_⟩
  · obtain ⟨b, _, e2, e3, ⟨gb, hgb⟩, _, _⟩ := pO_ty hD hth c1 hH hf
    have q := p2 f hf
    rw [e2] at q
    rw [e2]
    exact at_el (fr_same hD hDj hth e3 hgb q)
  · obtain ⟨_, _, _, _, _, ⟨gx, hgx, _⟩, tyj⟩ := pO_ty hD hth c1 hH hf
    have q := p3 f hf j hj hjg
    refine ⟨fun k _ => at_fd (fr_same hD hDj hth (tyj j hj) hgx q.1), fun k hk d hd i => ?_⟩
    obtain ⟨z1, rd, gd, z2, z3⟩ := q.2 k hk d hd
    exact at_el (fr_same hD hDj hth z2 z3 z1)
/-- a thing of this place behind the call -/
theorem pz_in (hD : va_D (fun _ => True) ws) (hth : th_ok kA G ta ws) (c1 : hs_chk G = true) (c6 : ar_chk G = true) (hH : ta (v_ad H) = some rH) (hgH : ∃ gg, G[rH]? = some gg) (hA : HA ws H) (hg : g < 4) {P : Nat → Bool} (hp : pz_ok P ws H g fsel ta G) {u : uS_T} (hDj : va_D (fun _ => True) (w_out P ws ++ u.2)) {kC : Nat → ClassId} (hle : ∀ a r, t_in P ta a = some r → (∃ gg, G[r]? = some gg) → u.1 a = some r) (hu : th_ok kC G u.1 u.2) {f : Nat} (hf : f < 3) (hs : f ∈ fsel) : u.1 (pO ws H f g) = some (rX f) ∧ ob_eq (pF f) (pA f) (pO ws H f g) u.2 (w_out P ws ++ u.2) ∧ ∀ k ∈ pA f, ∀ d, w_fd (w_out P ws ++ u.2) (pO ws H f g) k = .ref d → ∃ e, (d, e) ∈ u.2 := by
  obtain ⟨_, _, _, _, _, ⟨gx, hgx, h10⟩, tyj⟩ := pO_ty hD hth c1 hH hf
  have hPx : P (pO ws H f g) = true := hp.2.2.2 f hs
  have hux := hle _ _ (t_in_of hPx (tyj g hg)) ⟨gx, hgx⟩
  have hDu := vd_right hDj
  obtain ⟨e, he, _⟩ := th_in hu hux hgx
  have ea : w_at (w_out P ws ++ u.2) (pO ws H f g) = w_at u.2 (pO ws H f g) := w_at_part hDu hDj he
  have arr : ∀ k ∈ pA f, ∀ d, w_fd u.2 (pO ws H f g) k = .ref d → ∃ e, (d, e) ∈ u.2 := fun k hk d hd => by
    obtain ⟨t, rd, t1, t2, t3⟩ := fd_ref hDu hu hux hgx h10 hd
    have h6 := List.all_eq_true.mp (List.all_eq_true.mp c6 f (in3 hf)) k hk
    have efl : fl_at G (rX f) k = some t := by unfold fl_at; rw [hgx]; simp only [h10, if_true]; exact t1
    rw [efl] at h6
    have h7 := List.all_eq_true.mp h6 rd t3
    obtain ⟨gd, hgd⟩ := Option.isSome_iff_exists.mp h7
    obtain ⟨e', he', _⟩ := th_in hu t2 hgd
    exact ⟨e', he'⟩
  refine ⟨hux, ⟨fun k _ => at_fd ea, fun k hk d hd i => ?_⟩, fun k hk d hd => arr k hk d (by rw [← at_fd ea]; exact hd)⟩
  obtain ⟨e', he'⟩ := arr k hk d hd
  exact at_el (w_at_part hDu hDj he')
theorem pz_HA (hD : va_D (fun _ => True) ws) (hth : th_ok kA G ta ws) (c1 : hs_chk G = true) (c6 : ar_chk G = true) (hH : ta (v_ad H) = some rH) (hgH : ∃ gg, G[rH]? = some gg) (hA : HA ws H) (hg : g < 4) {P : Nat → Bool} (hp : pz_ok P ws H g fsel ta G) {u : uS_T} (hDj : va_D (fun _ => True) (w_out P ws ++ u.2)) {kC : Nat → ClassId} (hle : ∀ a r, t_in P ta a = some r → (∃ gg, G[r]? = some gg) → u.1 a = some r) (hu : th_ok kC G u.1 u.2) : HA (w_out P ws ++ u.2) H := by
  obtain ⟨h1, h2⟩ := pz_ot hD hth c1 c6 hH hgH hA hg hp hDj
  have p3 := hp.2.2.1
  have apart : ∀ d e e', (d, e) ∈ w_out P ws → (d, e') ∈ u.2 → False := fun d e e' a b => (List.pairwise_append.mp (vd_nd hDj)).2.2 _ a _ b rfl
  intro f hf i j hi hj hne
  rw [pO_eq h1 hf hi, pO_eq h1 hf hj]
  obtain ⟨q1, q2⟩ := hA f hf i j hi hj hne
  refine ⟨q1, fun k hk d d' a b => ?_⟩
  have out : ∀ i, i < 4 → (i ≠ g ∨ f ∉ fsel) → ∀ d, w_fd (w_out P ws ++ u.2) (pO ws H f i) k = .ref d → w_fd ws (pO ws H f i) k = .ref d ∧ ∃ e, (d, e) ∈ w_out P ws := fun i hi c d a => by
    have a' := a
    rw [(h2 f hf i hi c).1 k (ar_in hf hk)] at a'
    obtain ⟨z1, rd, gd, z2, z3⟩ := (p3 f hf i hi c).2 k hk d a'
    obtain ⟨e, he, _⟩ := th_in hth z2 z3
    exact ⟨a', e, w_out_mem.mpr ⟨he, z1⟩⟩
  by_cases ci : i ≠ g ∨ f ∉ fsel
  · obtain ⟨a', e, he⟩ := out i hi ci d a
    by_cases cj : j ≠ g ∨ f ∉ fsel
    · obtain ⟨b', _, _⟩ := out j hj cj d' b
      exact q2 k hk d d' a' b'
    · have e1 : j = g := by by_cases z : j = g; exact z; exact absurd (Or.inl z) cj
      have e2 : f ∈ fsel := by by_cases z : f ∈ fsel; exact z; exact absurd (Or.inr z) cj
      subst e1
      obtain ⟨e', he'⟩ := (pz_in hD hth c1 c6 hH hgH hA hg hp hDj hle hu hf e2).2.2 k hk d' b
      intro ed
      subst ed
      exact apart _ _ _ he he'
  · have e1 : i = g := by by_cases z : i = g; exact z; exact absurd (Or.inl z) ci
    have e2 : f ∈ fsel := by by_cases z : f ∈ fsel; exact z; exact absurd (Or.inr z) ci
    subst e1
    obtain ⟨e', he'⟩ := (pz_in hD hth c1 c6 hH hgH hA hg hp hDj hle hu hf e2).2.2 k hk d a
    obtain ⟨b', e, he⟩ := out j hj (Or.inl (fun z => hne z.symm)) d' b
    intro ed
    subst ed
    exact apart _ _ _ he he'
/-- all places but this one are as they were -/
theorem pz_HX (hD : va_D (fun _ => True) ws) (hth : th_ok kA G ta ws) (c1 : hs_chk G = true) (c6 : ar_chk G = true) (hH : ta (v_ad H) = some rH) (hgH : ∃ gg, G[rH]? = some gg) (hg : g < 4) {P : Nat → Bool} (hp : pz_ok P ws H g fsel ta G) (hX : HX ws H g) {u : uS_T} (hDj : va_D (fun _ => True) (w_out P ws ++ u.2)) {kC : Nat → ClassId} (hle : ∀ a r, t_in P ta a = some r → (∃ gg, G[r]? = some gg) → u.1 a = some r) (hu : th_ok kC G u.1 u.2) : HX (w_out P ws ++ u.2) H g := by
  obtain ⟨h1, h2⟩ := pz_ot hD hth c1 c6 hH hgH hX.1 hg hp hDj
  exact ⟨pz_HA hD hth c1 c6 hH hgH hX.1 hg hp hDj hle hu, fun j hj hjg => HP_eq ⟨h1, fun f hf j hj hjg => h2 f hf j hj (Or.inl hjg)⟩ hj hjg (hX.2 j hj hjg)⟩
end HI8
