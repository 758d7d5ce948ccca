/-! behind a call on things of one place -/
section HI4
variable {kA : Nat → ClassId} {G : List rg_T} {ta : Nat → Option Nat} {ws : va_W} {S : Nat → Bool} {fsel : List Nat} {H : Value} {g : Nat}
theorem fr_same {P : Nat → Bool} {u : va_W} (hD0 : va_D (fun _ => True) ws) (hDj : va_D (fun _ => True) (w_out P ws ++ u)) (hth : th_ok kA G ta ws) {a r : Nat} {gg : rg_T} (ha : ta a = some r) (hg : G[r]? = some gg) (hp : P a = false) : w_at (w_out P ws ++ u) a = w_at ws a := by
  obtain ⟨e, he, _⟩ := th_in hth ha hg
  exact w_at_rest hD0 hDj hp he
theorem at_fd {w0 w1 : va_W} {a k : Nat} (h : w_at w1 a = w_at w0 a) : w_fd w1 a k = w_fd w0 a k := by unfold w_fd; rw [h]
theorem at_el {w0 w1 : va_W} {a k : Nat} (h : w_at w1 a = w_at w0 a) : w_el w1 a k = w_el w0 a k := by unfold w_el; rw [h]
theorem fr_ot (hD : va_D (fun _ => True) ws) (hth : th_ok kA G ta ws) (hG : ∀ r, ro_id r = true → G[r]? = none) (hH : ta (v_ad H) = some rH) (hgH : ∃ gg, G[rH]? = some gg) (hc : fr_chk G S fsel = true) (hA : HA ws H) (hg : g < 4) {P : Nat → Bool} (hP : P = fr_P kA S ta ws (fsel.map (fun f => pO ws H f g))) {u : va_W} (hDj : va_D (fun _ => True) (w_out P ws ++ u)) : hd_eq H ws (w_out P ws ++ u) ∧ ∀ f, f < 3 → ∀ j, j < 4 → (j ≠ g ∨ f ∉ fsel) → ob_eq (pF f) (pA f) (pO ws H f j) ws (w_out P ws ++ u) := by
  obtain ⟨p1, p2, p3⟩ := fr_pl hD hth hG hH hgH hc hA hg
  have c1 : hs_chk G = true := by
    unfold fr_chk at hc
    simp only [Bool.and_eq_true] at hc
    exact hc.1.1.1.1.1
  rw [← hP] at p1
  obtain ⟨gH, hgH⟩ := hgH
  refine ⟨fun f hf => ⟨at_fd (fr_same hD hDj hth hH hgH p1), fun j _ => ?_⟩, fun f hf j hj hjg => ?_⟩
  · obtain ⟨b, _, e2, e3, ⟨gb, hgb⟩, _, _⟩ := pO_ty hD hth c1 hH hf
    have q := p2 f hf
    rw [← hP, e2] at q
    rw [e2]
    exact at_el (fr_same hD hDj hth e3 hgb q)
  · obtain ⟨_, _, _, _, _, ⟨gx, hgx, _⟩, tyj⟩ := pO_ty hD hth c1 hH hf
    have q := p3 f hf j hj hjg
    rw [← hP] at q
    refine ⟨fun k _ => at_fd (fr_same hD hDj hth (tyj j hj) hgx q.1), fun k hk d hd i => ?_⟩
    obtain ⟨z1, rd, gd, z2, z3⟩ := q.2 k hk d hd
    exact at_el (fr_same hD hDj hth z2 z3 z1)
/-- a thing of this place behind the call -/
theorem fr_in (hD : va_D (fun _ => True) ws) (hth : th_ok kA G ta ws) (hH : ta (v_ad H) = some rH) (hc : fr_chk G S fsel = true) (hg : g < 4) {P : Nat → Bool} (hP : P = fr_P kA S ta ws (fsel.map (fun f => pO ws H f g))) {u : uS_T} (hDj : va_D (fun _ => True) (w_out P ws ++ u.2)) (hle : ta_le (t_in P ta) u.1) (hu : th_ok kA G u.1 u.2) {f : Nat} (hf : f < 3) (hs : f ∈ fsel) : u.1 (pO ws H f g) = some (rX f) ∧ ob_eq (pF f) (pA f) (pO ws H f g) u.2 (w_out P ws ++ u.2) ∧ ∀ k ∈ pA f, ∀ d, w_fd (w_out P ws ++ u.2) (pO ws H f g) k = .ref d → ∃ e, (d, e) ∈ u.2 := by
  unfold fr_chk at hc
  simp only [Bool.and_eq_true] at hc
  obtain ⟨⟨⟨⟨⟨c1, _⟩, _⟩, _⟩, _⟩, c6⟩ := hc
  obtain ⟨_, _, _, _, _, ⟨gx, hgx, h10⟩, tyj⟩ := pO_ty hD hth c1 hH hf
  have hPx : P (pO ws H f g) = true := by rw [hP]; exact fr_P_iff.mpr (Or.inr (Or.inl (List.mem_map.mpr ⟨f, hs, rfl⟩)))
  have hux := hle _ _ (t_in_of hPx (tyj g hg))
  have hDu := vd_right hDj
  obtain ⟨e, he, _⟩ := th_in hu hux hgx
  have ea : w_at (w_out P ws ++ u.2) (pO ws H f g) = w_at u.2 (pO ws H f g) := w_at_part hDu hDj he
  have arr : ∀ k ∈ pA f, ∀ d, w_fd u.2 (pO ws H f g) k = .ref d → ∃ e, (d, e) ∈ u.2 := fun k hk d hd => by
    obtain ⟨t, rd, t1, t2, t3⟩ := fd_ref hDu hu hux hgx h10 hd
    have h6 := List.all_eq_true.mp (List.all_eq_true.mp c6 f (in3 hf)) k hk
    have efl : fl_at G (rX f) k = some t := by unfold fl_at; rw [hgx]; simp only [h10, if_true]; exact t1
    rw [efl] at h6
    have h7 := List.all_eq_true.mp h6 rd t3
    rw [Bool.and_eq_true, Bool.and_eq_true] at h7
    obtain ⟨gd, hgd⟩ := Option.isSome_iff_exists.mp h7.1.2
    obtain ⟨e', he', _⟩ := th_in hu t2 hgd
    exact ⟨e', he'⟩
  refine ⟨hux, ⟨fun k _ => at_fd ea, fun k hk d hd i => ?_⟩, fun k hk d hd => arr k hk d (by rw [← at_fd ea]; exact hd)⟩
  obtain ⟨e', he'⟩ := arr k hk d hd
  exact at_el (w_at_part hDu hDj he')
theorem fr_HA (hD : va_D (fun _ => True) ws) (hth : th_ok kA G ta ws) (hG : ∀ r, ro_id r = true → G[r]? = none) (hH : ta (v_ad H) = some rH) (hgH : ∃ gg, G[rH]? = some gg) (hc : fr_chk G S fsel = true) (hA : HA ws H) (hg : g < 4) {P : Nat → Bool} (hP : P = fr_P kA S ta ws (fsel.map (fun f => pO ws H f g))) {u : uS_T} (hDj : va_D (fun _ => True) (w_out P ws ++ u.2)) (hle : ta_le (t_in P ta) u.1) (hu : th_ok kA G u.1 u.2) : HA (w_out P ws ++ u.2) H := by
  obtain ⟨h1, h2⟩ := fr_ot hD hth hG hH hgH hc hA hg hP hDj
  obtain ⟨_, _, p3⟩ := fr_pl hD hth hG hH hgH hc hA hg
  have apart : ∀ d e e', (d, e) ∈ w_out P ws → (d, e') ∈ u.2 → False := fun d e e' a b => (List.pairwise_append.mp (vd_nd hDj)).2.2 _ a _ b rfl
  intro f hf i j hi hj hne
  rw [pO_eq h1 hf hi, pO_eq h1 hf hj]
  obtain ⟨q1, q2⟩ := hA f hf i j hi hj hne
  refine ⟨q1, fun k hk d d' a b => ?_⟩
  have out : ∀ i, i < 4 → (i ≠ g ∨ f ∉ fsel) → ∀ d, w_fd (w_out P ws ++ u.2) (pO ws H f i) k = .ref d → w_fd ws (pO ws H f i) k = .ref d ∧ ∃ e, (d, e) ∈ w_out P ws := fun i hi c d a => by
    have a' := a
    rw [(h2 f hf i hi c).1 k (ar_in hf hk)] at a'
    obtain ⟨z1, rd, gd, z2, z3⟩ := (p3 f hf i hi c).2 k hk d a'
    obtain ⟨e, he, _⟩ := th_in hth z2 z3
    exact ⟨a', e, w_out_mem.mpr ⟨he, by rw [hP]; exact z1⟩⟩
  by_cases ci : i ≠ g ∨ f ∉ fsel
  · obtain ⟨a', e, he⟩ := out i hi ci d a
    by_cases cj : j ≠ g ∨ f ∉ fsel
    · obtain ⟨b', _, _⟩ := out j hj cj d' b
      exact q2 k hk d d' a' b'
    · have e1 : j = g := by by_cases z : j = g; exact z; exact absurd (Or.inl z) cj
      have e2 : f ∈ fsel := by by_cases z : f ∈ fsel; exact z; exact absurd (Or.inr z) cj
      subst e1
      obtain ⟨e', he'⟩ := (fr_in hD hth hH hc hg hP hDj hle hu hf e2).2.2 k hk d' b
      intro ed
      subst ed
      exact apart _ _ _ he he'
  · have e1 : i = g := by by_cases z : i = g; exact z; exact absurd (Or.inl z) ci
    have e2 : f ∈ fsel := by by_cases z : f ∈ fsel; exact z; exact absurd (Or.inr z) ci
    subst e1
    obtain ⟨e', he'⟩ := (fr_in hD hth hH hc hg hP hDj hle hu hf e2).2.2 k hk d a
    obtain ⟨b', e, he⟩ := out j hj (Or.inl (fun z => hne z.symm)) d' b
    intro ed
    subst ed
    exact apart _ _ _ he he'
/-- all places but this one are as they were -/
theorem fr_HX (hD : va_D (fun _ => True) ws) (hth : th_ok kA G ta ws) (hG : ∀ r, ro_id r = true → G[r]? = none) (hH : ta (v_ad H) = some rH) (hgH : ∃ gg, G[rH]? = some gg) (hc : fr_chk G S fsel = true) (hg : g < 4) (hX : HX ws H g) {P : Nat → Bool} (hP : P = fr_P kA S ta ws (fsel.map (fun f => pO ws H f g))) {u : uS_T} (hDj : va_D (fun _ => True) (w_out P ws ++ u.2)) (hle : ta_le (t_in P ta) u.1) (hu : th_ok kA G u.1 u.2) : HX (w_out P ws ++ u.2) H g := by
  obtain ⟨h1, h2⟩ := fr_ot hD hth hG hH hgH hc hX.1 hg hP hDj
  exact ⟨fr_HA hD hth hG hH hgH hc hX.1 hg hP hDj hle hu, fun j hj hjg => HP_eq ⟨h1, fun f hf j hj hjg => h2 f hf j hj (Or.inl hjg)⟩ hj hjg (hX.2 j hj hjg)⟩
theorem HI_X {w : va_W} (h : HI w H) : HX w H g := ⟨h.1, fun j hj _ => h.2 j hj (by omega)⟩
theorem HX_I {w : va_W} (h : HX w H g) (hp : HP w H g) : HI w H := ⟨h.1, fun j hj _ => by
  by_cases c : j = g
  · subst c; exact hp
  · exact h.2 j hj c⟩
end HI4
