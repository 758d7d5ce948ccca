/-! what proofs of oracles use -/
theorem fc_un {f : fc_T} {r : List fc_T} {ta : Nat → Option Nat} {ws : va_W} {vs : List Value} (hl : f.1 < 100) (h : fc_ok (f :: r) ta ws vs) : fc_m f.1 (f.2.1.map (n_v vs)) f.2.2 ws ∧ fc_ok r ta ws vs := by
  unfold fc_ok at h
  rw [if_pos hl] at h
  exact ⟨h.1.2, h.2⟩
theorem fc_us {f : fc_T} {r : List fc_T} {ta : Nat → Option Nat} {ws : va_W} {vs : List Value} (hl : ¬ f.1 < 100) (h : fc_ok (f :: r) ta ws vs) : ∃ ta0 w0, ta_le ta0 ta ∧ fc_s f ta0 w0 ws vs ∧ fc_ok r ta0 w0 vs := by
  unfold fc_ok at h
  rw [if_neg hl] at h
  exact h
theorem tv_rng {ta : Nat → Option Nat} {lo hi : Int} {rs : List Nat} {v : Value} (h : tv_ok ta (0, lo, hi, rs) v) : lo ≤ v_iv v ∧ v_iv v ≤ hi := by
  obtain ⟨x, rfl, a, b⟩ := tv_int h rfl
  exact ⟨a, b⟩
theorem tv_rg {ta : Nat → Option Nat} {lo hi : Int} {r : Nat} {v : Value} (h : tv_ok ta (2, lo, hi, [r]) v) : ta (v_ad v) = some r := by
  obtain ⟨a, r', rfl, h1, h2⟩ := tv_ref h rfl
  rw [List.mem_singleton.mp h2] at h1
  exact h1
theorem tv_in {ta : Nat → Option Nat} {lo hi lo' hi' : Int} {rs rs' : List Nat} {v : Value} (h : tv_ok ta (0, lo, hi, rs) v) (h1 : lo' ≤ v_iv v) (h2 : v_iv v ≤ hi') : tv_ok ta (0, lo', hi', rs') v := by
  obtain ⟨x, rfl, _, _⟩ := tv_int h rfl
  exact Or.inl ⟨rfl, x, rfl, h1, h2⟩
/-- an int that is wanted -/
theorem iv_ex {ta : Nat → Option Nat} {lo hi z : Int} (h1 : lo ≤ z) (h2 : z ≤ hi) (h3 : -2147483648 ≤ lo) (h4 : hi ≤ 2147483647) : ∃ x : Int32, x.toInt = z ∧ tv_ok ta (0, lo, hi, []) (.int x) := by
  refine ⟨Int32.ofInt z, ?_, ?_⟩
  · exact Int32.toInt_ofInt_of_le (by omega) (by omega)
  · have e : (Int32.ofInt z).toInt = z := Int32.toInt_ofInt_of_le (by omega) (by omega)
    exact Or.inl ⟨rfl, _, rfl, by show lo ≤ (Int32.ofInt z).toInt; rw [e]; exact h1, by show (Int32.ofInt z).toInt ≤ hi; rw [e]; exact h2⟩
/-- elements of the world are of the kinds of their regions -/
theorem th_el {kA : Nat → ClassId} {G : List rg_T} {A : Nat → Prop} {ta : Nat → Option Nat} {ws : va_W} (hD : va_D A ws) (hth : th_ok kA G ta ws) {a r : Nat} (ha : ta a = some r) {kd n m : Nat} {lo hi : Int} {rs : List Nat} {L : List tv_T} (hg : G[r]? = some (kd, n, m, (0, lo, hi, rs), L)) (hk : kd < 3) {j : Nat} (hj : j < n) : lo ≤ w_el ws a j ∧ w_el ws a j ≤ hi := by
  obtain ⟨g, e, h1, h2, h3⟩ := hth a r ha
  rw [hg] at h1
  obtain rfl := Option.some.inj h1
  rcases h3 with ⟨_, n', f, rfl, l1, l2, _, hf, _⟩ | ⟨z, _⟩ | ⟨z, _⟩ | ⟨z, _⟩
  · have := tv_rng (hf j (Nat.lt_of_lt_of_le hj l1))
    unfold w_el
    rw [w_at_mem hD h2]
    exact this
  · exact absurd z (by show ¬ kd = 3; omega)
  · exact absurd z (by show ¬ 4 ≤ kd; omega)
  · exact absurd z (by show ¬ 10 ≤ kd; omega)
theorem sum_bd {ws : va_W} {a : Nat} {lo hi : Int} : ∀ {n : Nat}, (∀ j, j < n → lo ≤ w_el ws a j ∧ w_el ws a j ≤ hi) → n * lo ≤ w_sum ws a n ∧ w_sum ws a n ≤ n * hi
  | 0, _ => by unfold w_sum; omega
  | n + 1, h => by
    have ih := sum_bd (n := n) (fun j hj => h j (by omega))
    have := h n (by omega)
    unfold w_sum
    rw [Int.natCast_add, Int.add_mul, Int.add_mul]
    omega
theorem sum_eq {w0 w1 : va_W} {a : Nat} : ∀ {n : Nat}, (∀ j, j < n → w_el w1 a j = w_el w0 a j) → w_sum w1 a n = w_sum w0 a n
  | 0, _ => rfl
  | n + 1, h => by
    unfold w_sum
    rw [sum_eq (n := n) (fun j hj => h j (by omega)), h n (by omega)]
theorem sum_set {w0 w1 : va_W} {a i : Nat} {v : Int} (h : ∀ b j, w_el w1 b j = if b = a ∧ j = i then v else w_el w0 b j) : ∀ {n : Nat}, i < n → w_sum w1 a n = w_sum w0 a n - w_el w0 a i + v
  | 0, hi => by omega
  | n + 1, hi => by
    unfold w_sum
    by_cases e : i = n
    · subst e
      have e1 : w_sum w1 a i = w_sum w0 a i := sum_eq (fun j hj => by rw [h a j, if_neg (by omega)])
      have e2 : w_el w1 a i = v := by rw [h a i, if_pos ⟨rfl, rfl⟩]
      omega
    · have e1 := sum_set h (n := n) (by omega)
      have e2 : w_el w1 a n = w_el w0 a n := by rw [h a n, if_neg (by omega)]
      omega
theorem el_ne {w0 w1 : va_W} {a i b j : Nat} {v : Int} (h : ∀ b j, w_el w1 b j = if b = a ∧ j = i then v else w_el w0 b j) (hn : b ≠ a ∨ j ≠ i) : w_el w1 b j = w_el w0 b j := by
  rw [h b j, if_neg (by omega)]
theorem ag_one {ta : Nat → Option Nat} {t : tv_T} {v : Value} (h : tv_ok ta t v) : ag_ok ta [t] [v] := ⟨h, trivial⟩
theorem n_v_new {vs : List Value} {v : Value} {n : Nat} (h : vs.length = n) : n_v (vs ++ [v]) n = v := by
  unfold n_v
  rw [List.getElem?_append_right (by omega), h, Nat.sub_self]; rfl
theorem n_v_old {vs xs : List Value} {m : Nat} (h : m < vs.length) : n_v (vs ++ xs) m = n_v vs m := by
  unfold n_v
  rw [List.getElem?_append_left h]
theorem th_fd {kA : Nat → ClassId} {G : List rg_T} {A : Nat → Prop} {ta : Nat → Option Nat} {ws : va_W} (hD : va_D A ws) (hth : th_ok kA G ta ws) {a r : Nat} (ha : ta a = some r) {g : rg_T} (hg : G[r]? = some g) {k : Nat} {t : tv_T} (hk : g.2.2.2.2[k]? = some t) (h10 : decide (10 ≤ g.1) = true) : tv_ok ta t (w_fd ws a k) := by
  obtain ⟨g', e, h1, h2, h3⟩ := hth a r ha
  rw [hg] at h1
  obtain rfl := Option.some.inj h1
  have h10' : 10 ≤ g.1 := by simpa using h10
  rcases h3 with ⟨z, _⟩ | ⟨z, _⟩ | ⟨_, z, _⟩ | ⟨_, fs, rfl, l1, hf⟩
  · omega
  · omega
  · omega
  · have hlt := (List.getElem?_eq_some_iff.mp hk).1
    rw [← l1] at hlt
    have hv := List.getElem?_eq_getElem hlt
    unfold w_fd
    rw [w_at_mem hD h2]
    simp only
    rw [List.getD_eq_getElem?_getD, hv]
    exact hf k t _ hk hv
theorem n_v_some {vs : List Value} {n : Nat} {v : Value} (hn : n < vs.length) (h : n_v vs n = v) : vs[n]? = some v := by
  unfold n_v at h
  rw [List.getElem?_eq_getElem hn] at h ⊢
  rw [← h]; rfl
