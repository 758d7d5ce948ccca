def o_Mo_both_f_0 (k : Int) : or_T := (1, 2, [(0, (2, 0, 0, [150])), (1, (0, 0, 2009, []))], [(20, [0], [50, 2, 1, 158, 157, 160, 2, 12, 0, 7, 4, 3, 2, 0, 158, 0, 1, 2, 0, 157, 2, 7, 0, 3, 2, 0, 157, 0, 2010, 3, 14, 1, 10, 3, 0, 160, 5, 3, 2, 0, 157, 0, 1, 0, 0, 1, 10, 3, 0, 160, 5, 3, 2, 0, 157, 0, 1, 0, 4]), (20, [0, 1], [30, 0, 1, 1, 158, -1, 0, 0]), (20, [0, 1], [30, 0, -1, 1, 158, 1, 0, 0]), (20, [0], [50, 2, 0, 164, 165, 4, 7, 1, 3, 2, 0, 164, 0, 0, 0, 3, 2, 0, 165, 0, 23]), (20, [0], [30, k, 1, 1, 159]), (20, [0], [30, (-k), -1, 1, 159])], [], [(0, 0, 2009, [])], [(20, [0], [50, 2, 1, 158, 157, 160, 2, 12, 0, 7, 4, 3, 2, 0, 158, 0, 1, 2, 0, 157, 2, 7, 0, 3, 2, 0, 157, 0, 2010, 3, 14, 1, 10, 3, 0, 160, 5, 3, 2, 0, 157, 0, 1, 0, 0, 1, 10, 3, 0, 160, 5, 3, 2, 0, 157, 0, 1, 0, 4]), (20, [0, 2], [30, 0, 1, 1, 158, -1, 0, 0]), (20, [0, 2], [30, 0, -1, 1, 158, 1, 0, 0]), (20, [0], [50, 2, 0, 164, 165, 4, 7, 1, 3, 2, 0, 164, 0, 0, 0, 3, 2, 0, 165, 0, 23]), (20, [0], [30, k, 1, 1, 159]), (20, [0], [30, (-k), -1, 1, 159]), (23, [1, 2], [0, 1, -1])], [], [])
theorem oo_Mo_both_f_0 {kA : Nat → ClassId} (k : Int) (hk0 : 0 ≤ k) (hk1 : k ≤ 12) : or_ok kA GG (o_Mo_both_f_0 k) := by
  intro A ta ws vs hD hth hl hk hds hf
  have hl : vs.length = 2 := hl
  have hk : ∀ q ∈ ([(0, (2, 0, 0, [150])), (1, (0, 0, 2009, []))] : List (Nat × tv_T)), tv_ok ta q.2 (n_v vs q.1) := hk
  obtain ⟨t0, hk⟩ := List.forall_mem_cons.mp hk
  have t0 : tv_ok ta (2, 0, 0, [150]) (n_v vs 0) := t0
  have r0 : ta (v_ad (n_v vs 0)) = some 150 := tv_rg t0
  obtain ⟨t1, hk⟩ := List.forall_mem_cons.mp hk
  have t1 : tv_ok ta (0, 0, 2009, []) (n_v vs 1) := t1
  have k1 : 0 ≤ v_iv (n_v vs 1) ∧ v_iv (n_v vs 1) ≤ 2009 := tv_rng t1
  have hf : fc_ok [(20, [0], [50, 2, 1, 158, 157, 160, 2, 12, 0, 7, 4, 3, 2, 0, 158, 0, 1, 2, 0, 157, 2, 7, 0, 3, 2, 0, 157, 0, 2010, 3, 14, 1, 10, 3, 0, 160, 5, 3, 2, 0, 157, 0, 1, 0, 0, 1, 10, 3, 0, 160, 5, 3, 2, 0, 157, 0, 1, 0, 4]), (20, [0, 1], [30, 0, 1, 1, 158, -1, 0, 0]), (20, [0, 1], [30, 0, -1, 1, 158, 1, 0, 0]), (20, [0], [50, 2, 0, 164, 165, 4, 7, 1, 3, 2, 0, 164, 0, 0, 0, 3, 2, 0, 165, 0, 23]), (20, [0], [30, k, 1, 1, 159]), (20, [0], [30, (-k), -1, 1, 159])] ta ws vs := hf
  obtain ⟨f0, hf⟩ := fc_un (show (20 : Nat) < 100 from by decide) hf
  have f0 : ((w_fi ws (n_v vs 0) 158 + 1) ≤ w_fi ws (n_v vs 0) 157) ∧ ((w_fi ws (n_v vs 0) 157 ≤ 2010) ∧ ((w_ei ws (w_ar ws (n_v vs 0) 160) ((w_fi ws (n_v vs 0) 157 - 1)) = 0) ∨ (w_ei ws (w_ar ws (n_v vs 0) 160) ((w_fi ws (n_v vs 0) 157 - 1)) = 4))) := f0
  obtain ⟨f1, hf⟩ := fc_un (show (20 : Nat) < 100 from by decide) hf
  have f1 : 1 * w_fi ws (n_v vs 0) 158 + ((-1) * v_iv (n_v vs 1) + 0) ≤ 0 := f1
  obtain ⟨f2, hf⟩ := fc_un (show (20 : Nat) < 100 from by decide) hf
  have f2 : (-1) * w_fi ws (n_v vs 0) 158 + (1 * v_iv (n_v vs 1) + 0) ≤ 0 := f2
  obtain ⟨f3, hf⟩ := fc_un (show (20 : Nat) < 100 from by decide) hf
  have f3 : (w_fi ws (n_v vs 0) 164 = 0) → (w_fi ws (n_v vs 0) 165 ≤ 23) := f3
  obtain ⟨f4, hf⟩ := fc_un (show (20 : Nat) < 100 from by decide) hf
  have f4 : 1 * w_fi ws (n_v vs 0) 159 + 0 ≤ k := f4
  obtain ⟨f5, hf⟩ := fc_un (show (20 : Nat) < 100 from by decide) hf
  have f5 : (-1) * w_fi ws (n_v vs 0) 159 + 0 ≤ ((-k)) := f5
  have cr_0_160 : ta (w_ar ws (n_v vs 0) 160) = some 259 := tv_rg (th_fd hD hth r0 (g := GG_150) rfl (k := 160) (t := (2, 0, 0, [259])) rfl rfl)
  have hK_0_160 : ∀ j : Int, 0 ≤ j → j < 2010 → 0 ≤ w_ei ws (w_ar ws (n_v vs 0) 160) j ∧ w_ei ws (w_ar ws (n_v vs 0) 160) j ≤ 4 := fun j h0 h1 => th_el hD hth cr_0_160 (kd := 0) (n := 2010) (m := 2010) (lo := 0) (hi := 4) (rs := []) (L := []) rfl (by decide) (j := j.toNat) (by omega)
  have kz_0_157 : 0 ≤ w_fi ws (n_v vs 0) 157 ∧ w_fi ws (n_v vs 0) 157 ≤ 2010 := tv_rng (th_fd hD hth r0 (g := GG_150) rfl (k := 157) (t := (0, 0, 2010, [])) rfl rfl)
  have kz_0_158 : 0 ≤ w_fi ws (n_v vs 0) 158 ∧ w_fi ws (n_v vs 0) 158 ≤ 2009 := tv_rng (th_fd hD hth r0 (g := GG_150) rfl (k := 158) (t := (0, 0, 2009, [])) rfl rfl)
  have kz_0_159 : 0 ≤ w_fi ws (n_v vs 0) 159 ∧ w_fi ws (n_v vs 0) 159 ≤ 13 := tv_rng (th_fd hD hth r0 (g := GG_150) rfl (k := 159) (t := (0, 0, 13, [])) rfl rfl)
  have kz_0_164 : 0 ≤ w_fi ws (n_v vs 0) 164 ∧ w_fi ws (n_v vs 0) 164 ≤ 1 := tv_rng (th_fd hD hth r0 (g := GG_150) rfl (k := 164) (t := (0, 0, 1, [])) rfl rfl)
  have kz_0_165 : (-1) ≤ w_fi ws (n_v vs 0) 165 ∧ w_fi ws (n_v vs 0) 165 ≤ 47 := tv_rng (th_fd hD hth r0 (g := GG_150) rfl (k := 165) (t := (0, -1, 47, [])) rfl rfl)
  have kv0 : 0 ≤ w_fi ws (n_v vs 0) 158 ∧ w_fi ws (n_v vs 0) 158 ≤ 2009 := tv_rng (th_fd hD hth r0 (g := GG_150) rfl (k := 158) (t := (0, 0, 2009, [])) rfl rfl)
  obtain ⟨x, ex, hx⟩ := iv_ex (ta := ta) (lo := 0) (hi := 2009) (z := w_fi ws (n_v vs 0) 158) (by omega) (by omega) (by omega) (by omega)
  have ex2 : v_iv (Value.int x) = w_fi ws (n_v vs 0) 158 := ex
  have ex3 : 0 ≤ v_iv (Value.int x) ∧ v_iv (Value.int x) ≤ 2009 := tv_rng hx
  have e_0 : n_v (vs ++ [Value.int x]) 0 = n_v vs 0 := n_v_old (by rw [hl]; decide)
  have e_1 : n_v (vs ++ [Value.int x]) 1 = n_v vs 1 := n_v_old (by rw [hl]; decide)
  have e_2 : n_v (vs ++ [Value.int x]) 2 = Value.int x := n_v_new hl
  have nf0 : fc_1 (20, [0], [50, 2, 1, 158, 157, 160, 2, 12, 0, 7, 4, 3, 2, 0, 158, 0, 1, 2, 0, 157, 2, 7, 0, 3, 2, 0, 157, 0, 2010, 3, 14, 1, 10, 3, 0, 160, 5, 3, 2, 0, 157, 0, 1, 0, 0, 1, 10, 3, 0, 160, 5, 3, 2, 0, 157, 0, 1, 0, 4]) ws (vs ++ [Value.int x]) := by
    refine ⟨fun n hn => ?_, ?_⟩
    · have hn : n ∈ [0] := hn
      rw [List.length_append, hl]
      simp only [List.mem_cons, List.not_mem_nil, or_false] at hn
      show n < 2 + 1; omega
    · show ((w_fi ws (n_v (vs ++ [Value.int x]) 0) 158 + 1) ≤ w_fi ws (n_v (vs ++ [Value.int x]) 0) 157) ∧ ((w_fi ws (n_v (vs ++ [Value.int x]) 0) 157 ≤ 2010) ∧ ((w_ei ws (w_ar ws (n_v (vs ++ [Value.int x]) 0) 160) ((w_fi ws (n_v (vs ++ [Value.int x]) 0) 157 - 1)) = 0) ∨ (w_ei ws (w_ar ws (n_v (vs ++ [Value.int x]) 0) 160) ((w_fi ws (n_v (vs ++ [Value.int x]) 0) 157 - 1)) = 4)))
      rw [e_0]
      first | omega | grind
  have nf1 : fc_1 (20, [0, 2], [30, 0, 1, 1, 158, -1, 0, 0]) ws (vs ++ [Value.int x]) := by
    refine ⟨fun n hn => ?_, ?_⟩
    · have hn : n ∈ [0, 2] := hn
      rw [List.length_append, hl]
      simp only [List.mem_cons, List.not_mem_nil, or_false] at hn
      show n < 2 + 1; omega
    · show 1 * w_fi ws (n_v (vs ++ [Value.int x]) 0) 158 + ((-1) * v_iv (n_v (vs ++ [Value.int x]) 2) + 0) ≤ 0
      rw [e_0]
      rw [e_2]
      omega
  have nf2 : fc_1 (20, [0, 2], [30, 0, -1, 1, 158, 1, 0, 0]) ws (vs ++ [Value.int x]) := by
    refine ⟨fun n hn => ?_, ?_⟩
    · have hn : n ∈ [0, 2] := hn
      rw [List.length_append, hl]
      simp only [List.mem_cons, List.not_mem_nil, or_false] at hn
      show n < 2 + 1; omega
    · show (-1) * w_fi ws (n_v (vs ++ [Value.int x]) 0) 158 + (1 * v_iv (n_v (vs ++ [Value.int x]) 2) + 0) ≤ 0
      rw [e_0]
      rw [e_2]
      omega
  have nf3 : fc_1 (20, [0], [50, 2, 0, 164, 165, 4, 7, 1, 3, 2, 0, 164, 0, 0, 0, 3, 2, 0, 165, 0, 23]) ws (vs ++ [Value.int x]) := by
    refine ⟨fun n hn => ?_, ?_⟩
    · have hn : n ∈ [0] := hn
      rw [List.length_append, hl]
      simp only [List.mem_cons, List.not_mem_nil, or_false] at hn
      show n < 2 + 1; omega
    · show (w_fi ws (n_v (vs ++ [Value.int x]) 0) 164 = 0) → (w_fi ws (n_v (vs ++ [Value.int x]) 0) 165 ≤ 23)
      rw [e_0]
      first | omega | grind
  have nf4 : fc_1 (20, [0], [30, k, 1, 1, 159]) ws (vs ++ [Value.int x]) := by
    refine ⟨fun n hn => ?_, ?_⟩
    · have hn : n ∈ [0] := hn
      rw [List.length_append, hl]
      simp only [List.mem_cons, List.not_mem_nil, or_false] at hn
      show n < 2 + 1; omega
    · show 1 * w_fi ws (n_v (vs ++ [Value.int x]) 0) 159 + 0 ≤ k
      rw [e_0]
      omega
  have nf5 : fc_1 (20, [0], [30, (-k), -1, 1, 159]) ws (vs ++ [Value.int x]) := by
    refine ⟨fun n hn => ?_, ?_⟩
    · have hn : n ∈ [0] := hn
      rw [List.length_append, hl]
      simp only [List.mem_cons, List.not_mem_nil, or_false] at hn
      show n < 2 + 1; omega
    · show (-1) * w_fi ws (n_v (vs ++ [Value.int x]) 0) 159 + 0 ≤ ((-k))
      rw [e_0]
      omega
  have nf6 : fc_1 (23, [1, 2], [0, 1, -1]) ws (vs ++ [Value.int x]) := by
    refine ⟨fun n hn => ?_, ?_⟩
    · have hn : n ∈ [1, 2] := hn
      rw [List.length_append, hl]
      simp only [List.mem_cons, List.not_mem_nil, or_false] at hn
      show n < 2 + 1; omega
    · show 1 * v_iv (n_v (vs ++ [Value.int x]) 1) + ((-1) * v_iv (n_v (vs ++ [Value.int x]) 2) + 0) ≤ 0
      rw [e_1]
      rw [e_2]
      omega
  exact ⟨(fun _ h => (by cases h)), [Value.int x], ag_one hx, List.forall_mem_cons.mpr ⟨⟨show (20 : Nat) < 100 from by decide, nf0⟩, List.forall_mem_cons.mpr ⟨⟨show (20 : Nat) < 100 from by decide, nf1⟩, List.forall_mem_cons.mpr ⟨⟨show (20 : Nat) < 100 from by decide, nf2⟩, List.forall_mem_cons.mpr ⟨⟨show (20 : Nat) < 100 from by decide, nf3⟩, List.forall_mem_cons.mpr ⟨⟨show (20 : Nat) < 100 from by decide, nf4⟩, List.forall_mem_cons.mpr ⟨⟨show (20 : Nat) < 100 from by decide, nf5⟩, List.forall_mem_cons.mpr ⟨⟨show (23 : Nat) < 100 from by decide, nf6⟩, (fun _ h => (by cases h))⟩⟩⟩⟩⟩⟩⟩, (fun _ h => (by cases h))⟩
def o_Mo_both_f_1 (k : Int) : or_T := (5, 4, [(0, (2, 0, 0, [150])), (1, (0, 0, 2009, [])), (2, (0, 0, 2009, []))], [(20, [0], [50, 2, 0, 164, 165, 4, 7, 1, 3, 2, 0, 164, 0, 0, 0, 3, 2, 0, 165, 0, 23]), (23, [1, 2], [0, 1, -1]), (20, [0], [50, 2, 0, 164, 165, 4, 7, 1, 3, 2, 0, 164, 0, 0, 0, 3, 2, 0, 165, 0, 23]), (20, [0], [50, 2, 1, 158, 157, 160, 2, 12, 0, 7, 4, 3, 2, 0, 158, 0, 1, 2, 0, 157, 2, 7, 0, 3, 2, 0, 157, 0, 2010, 3, 14, 1, 10, 3, 0, 160, 5, 3, 2, 0, 157, 0, 1, 0, 0, 1, 10, 3, 0, 160, 5, 3, 2, 0, 157, 0, 1, 0, 4]), (20, [2, 0], [30, 0, 1, 0, 0, -1, 1, 158]), (20, [0], [30, k, 1, 1, 159]), (20, [0], [30, (-k), -1, 1, 159]), (102, [2], [0, 13008, 13009, 13158, 13159]), (23, [1, 2], [0, 1, -1])], [], [(0, 0, 2010, [])], [(20, [0], [50, 2, 1, 158, 157, 160, 2, 12, 0, 7, 4, 3, 2, 0, 158, 0, 1, 2, 0, 157, 2, 7, 0, 3, 2, 0, 157, 0, 2010, 3, 14, 1, 10, 3, 0, 160, 5, 3, 2, 0, 157, 0, 1, 0, 0, 1, 10, 3, 0, 160, 5, 3, 2, 0, 157, 0, 1, 0, 4]), (20, [1, 0], [30, 0, 1, 0, 0, -1, 1, 158]), (20, [0], [50, 2, 0, 164, 165, 4, 7, 1, 3, 2, 0, 164, 0, 0, 0, 3, 2, 0, 165, 0, 23]), (20, [0], [30, k, 1, 1, 159]), (20, [0], [30, (-k), -1, 1, 159]), (24, [0, 0], []), (20, [4, 0], [30, 2010, 1, 0, 0, 1, 1, 158]), (20, [4, 0], [30, -2010, -1, 0, 0, -1, 1, 158])], [], [])
theorem oo_Mo_both_f_1 {kA : Nat → ClassId} (k : Int) (hk0 : 0 ≤ k) (hk1 : k ≤ 12) : or_ok kA GG (o_Mo_both_f_1 k) := by
  intro A ta ws vs hD hth hl hk hds hf
  have hl : vs.length = 4 := hl
  have hk : ∀ q ∈ ([(0, (2, 0, 0, [150])), (1, (0, 0, 2009, [])), (2, (0, 0, 2009, []))] : List (Nat × tv_T)), tv_ok ta q.2 (n_v vs q.1) := hk
  obtain ⟨t0, hk⟩ := List.forall_mem_cons.mp hk
  have t0 : tv_ok ta (2, 0, 0, [150]) (n_v vs 0) := t0
  have r0 : ta (v_ad (n_v vs 0)) = some 150 := tv_rg t0
  obtain ⟨t1, hk⟩ := List.forall_mem_cons.mp hk
  have t1 : tv_ok ta (0, 0, 2009, []) (n_v vs 1) := t1
  have k1 : 0 ≤ v_iv (n_v vs 1) ∧ v_iv (n_v vs 1) ≤ 2009 := tv_rng t1
  obtain ⟨t2, hk⟩ := List.forall_mem_cons.mp hk
  have t2 : tv_ok ta (0, 0, 2009, []) (n_v vs 2) := t2
  have k2 : 0 ≤ v_iv (n_v vs 2) ∧ v_iv (n_v vs 2) ≤ 2009 := tv_rng t2
  have hf : fc_ok [(20, [0], [50, 2, 0, 164, 165, 4, 7, 1, 3, 2, 0, 164, 0, 0, 0, 3, 2, 0, 165, 0, 23]), (23, [1, 2], [0, 1, -1]), (20, [0], [50, 2, 0, 164, 165, 4, 7, 1, 3, 2, 0, 164, 0, 0, 0, 3, 2, 0, 165, 0, 23]), (20, [0], [50, 2, 1, 158, 157, 160, 2, 12, 0, 7, 4, 3, 2, 0, 158, 0, 1, 2, 0, 157, 2, 7, 0, 3, 2, 0, 157, 0, 2010, 3, 14, 1, 10, 3, 0, 160, 5, 3, 2, 0, 157, 0, 1, 0, 0, 1, 10, 3, 0, 160, 5, 3, 2, 0, 157, 0, 1, 0, 4]), (20, [2, 0], [30, 0, 1, 0, 0, -1, 1, 158]), (20, [0], [30, k, 1, 1, 159]), (20, [0], [30, (-k), -1, 1, 159]), (102, [2], [0, 13008, 13009, 13158, 13159]), (23, [1, 2], [0, 1, -1])] ta ws vs := hf
  obtain ⟨f0, hf⟩ := fc_un (show (20 : Nat) < 100 from by decide) hf
  have f0 : (w_fi ws (n_v vs 0) 164 = 0) → (w_fi ws (n_v vs 0) 165 ≤ 23) := f0
  obtain ⟨f1, hf⟩ := fc_un (show (23 : Nat) < 100 from by decide) hf
  have f1 : 1 * v_iv (n_v vs 1) + ((-1) * v_iv (n_v vs 2) + 0) ≤ 0 := f1
  obtain ⟨f2, hf⟩ := fc_un (show (20 : Nat) < 100 from by decide) hf
  have f2 : (w_fi ws (n_v vs 0) 164 = 0) → (w_fi ws (n_v vs 0) 165 ≤ 23) := f2
  obtain ⟨f3, hf⟩ := fc_un (show (20 : Nat) < 100 from by decide) hf
  have f3 : ((w_fi ws (n_v vs 0) 158 + 1) ≤ w_fi ws (n_v vs 0) 157) ∧ ((w_fi ws (n_v vs 0) 157 ≤ 2010) ∧ ((w_ei ws (w_ar ws (n_v vs 0) 160) ((w_fi ws (n_v vs 0) 157 - 1)) = 0) ∨ (w_ei ws (w_ar ws (n_v vs 0) 160) ((w_fi ws (n_v vs 0) 157 - 1)) = 4))) := f3
  obtain ⟨f4, hf⟩ := fc_un (show (20 : Nat) < 100 from by decide) hf
  have f4 : 1 * v_iv (n_v vs 2) + ((-1) * w_fi ws (n_v vs 0) 158 + 0) ≤ 0 := f4
  obtain ⟨f5, hf⟩ := fc_un (show (20 : Nat) < 100 from by decide) hf
  have f5 : 1 * w_fi ws (n_v vs 0) 159 + 0 ≤ k := f5
  obtain ⟨f6, hf⟩ := fc_un (show (20 : Nat) < 100 from by decide) hf
  have f6 : (-1) * w_fi ws (n_v vs 0) 159 + 0 ≤ ((-k)) := f6
  obtain ⟨ta1, w1, le1, ⟨_, s1⟩, hf⟩ := fc_us (show ¬ (102 : Nat) < 100 from by decide) hf
  obtain ⟨f8, hf⟩ := fc_un (show (23 : Nat) < 100 from by decide) hf
  have f8 : 1 * v_iv (n_v vs 1) + ((-1) * v_iv (n_v vs 2) + 0) ≤ 0 := f8
  have cr_0_160 : ta (w_ar ws (n_v vs 0) 160) = some 259 := tv_rg (th_fd hD hth r0 (g := GG_150) rfl (k := 160) (t := (2, 0, 0, [259])) rfl rfl)
  have hK_0_160 : ∀ j : Int, 0 ≤ j → j < 2010 → 0 ≤ w_ei ws (w_ar ws (n_v vs 0) 160) j ∧ w_ei ws (w_ar ws (n_v vs 0) 160) j ≤ 4 := fun j h0 h1 => th_el hD hth cr_0_160 (kd := 0) (n := 2010) (m := 2010) (lo := 0) (hi := 4) (rs := []) (L := []) rfl (by decide) (j := j.toNat) (by omega)
  have kz_0_157 : 0 ≤ w_fi ws (n_v vs 0) 157 ∧ w_fi ws (n_v vs 0) 157 ≤ 2010 := tv_rng (th_fd hD hth r0 (g := GG_150) rfl (k := 157) (t := (0, 0, 2010, [])) rfl rfl)
  have kz_0_158 : 0 ≤ w_fi ws (n_v vs 0) 158 ∧ w_fi ws (n_v vs 0) 158 ≤ 2009 := tv_rng (th_fd hD hth r0 (g := GG_150) rfl (k := 158) (t := (0, 0, 2009, [])) rfl rfl)
  have kz_0_159 : 0 ≤ w_fi ws (n_v vs 0) 159 ∧ w_fi ws (n_v vs 0) 159 ≤ 13 := tv_rng (th_fd hD hth r0 (g := GG_150) rfl (k := 159) (t := (0, 0, 13, [])) rfl rfl)
  have kz_0_164 : 0 ≤ w_fi ws (n_v vs 0) 164 ∧ w_fi ws (n_v vs 0) 164 ≤ 1 := tv_rng (th_fd hD hth r0 (g := GG_150) rfl (k := 164) (t := (0, 0, 1, [])) rfl rfl)
  have kz_0_165 : (-1) ≤ w_fi ws (n_v vs 0) 165 ∧ w_fi ws (n_v vs 0) 165 ≤ 47 := tv_rng (th_fd hD hth r0 (g := GG_150) rfl (k := 165) (t := (0, -1, 47, [])) rfl rfl)
  have kb_0_158 : 0 ≤ w_fi ws (n_v vs 0) 158 ∧ w_fi ws (n_v vs 0) 158 ≤ 2009 := tv_rng (th_fd hD hth r0 (g := GG_150) rfl (k := 158) (t := (0, 0, 2009, [])) rfl rfl)
  obtain ⟨x, ex, hx⟩ := iv_ex (ta := ta) (lo := 0) (hi := 2010) (z := 2010 + ((-1) * w_fi ws (n_v vs 0) 158 + 0)) (by omega) (by omega) (by omega) (by omega)
  have ex2 : v_iv (Value.int x) = 2010 + ((-1) * w_fi ws (n_v vs 0) 158 + 0) := ex
  have ex3 : 0 ≤ v_iv (Value.int x) ∧ v_iv (Value.int x) ≤ 2010 := tv_rng hx
  have e_0 : n_v (vs ++ [Value.int x]) 0 = n_v vs 0 := n_v_old (by rw [hl]; decide)
  have e_1 : n_v (vs ++ [Value.int x]) 1 = n_v vs 1 := n_v_old (by rw [hl]; decide)
  have e_4 : n_v (vs ++ [Value.int x]) 4 = Value.int x := n_v_new hl
  have nf0 : fc_1 (20, [0], [50, 2, 1, 158, 157, 160, 2, 12, 0, 7, 4, 3, 2, 0, 158, 0, 1, 2, 0, 157, 2, 7, 0, 3, 2, 0, 157, 0, 2010, 3, 14, 1, 10, 3, 0, 160, 5, 3, 2, 0, 157, 0, 1, 0, 0, 1, 10, 3, 0, 160, 5, 3, 2, 0, 157, 0, 1, 0, 4]) ws (vs ++ [Value.int x]) := by
    refine ⟨fun n hn => ?_, ?_⟩
    · have hn : n ∈ [0] := hn
      rw [List.length_append, hl]
      simp only [List.mem_cons, List.not_mem_nil, or_false] at hn
      show n < 4 + 1; omega
    · show ((w_fi ws (n_v (vs ++ [Value.int x]) 0) 158 + 1) ≤ w_fi ws (n_v (vs ++ [Value.int x]) 0) 157) ∧ ((w_fi ws (n_v (vs ++ [Value.int x]) 0) 157 ≤ 2010) ∧ ((w_ei ws (w_ar ws (n_v (vs ++ [Value.int x]) 0) 160) ((w_fi ws (n_v (vs ++ [Value.int x]) 0) 157 - 1)) = 0) ∨ (w_ei ws (w_ar ws (n_v (vs ++ [Value.int x]) 0) 160) ((w_fi ws (n_v (vs ++ [Value.int x]) 0) 157 - 1)) = 4)))
      rw [e_0]
      first | omega | grind
  have nf1 : fc_1 (20, [1, 0], [30, 0, 1, 0, 0, -1, 1, 158]) ws (vs ++ [Value.int x]) := by
    refine ⟨fun n hn => ?_, ?_⟩
    · have hn : n ∈ [1, 0] := hn
      rw [List.length_append, hl]
      simp only [List.mem_cons, List.not_mem_nil, or_false] at hn
      show n < 4 + 1; omega
    · show 1 * v_iv (n_v (vs ++ [Value.int x]) 1) + ((-1) * w_fi ws (n_v (vs ++ [Value.int x]) 0) 158 + 0) ≤ 0
      rw [e_0]
      rw [e_1]
      omega
  have nf2 : fc_1 (20, [0], [50, 2, 0, 164, 165, 4, 7, 1, 3, 2, 0, 164, 0, 0, 0, 3, 2, 0, 165, 0, 23]) ws (vs ++ [Value.int x]) := by
    refine ⟨fun n hn => ?_, ?_⟩
    · have hn : n ∈ [0] := hn
      rw [List.length_append, hl]
      simp only [List.mem_cons, List.not_mem_nil, or_false] at hn
      show n < 4 + 1; omega
    · show (w_fi ws (n_v (vs ++ [Value.int x]) 0) 164 = 0) → (w_fi ws (n_v (vs ++ [Value.int x]) 0) 165 ≤ 23)
      rw [e_0]
      first | omega | grind
  have nf3 : fc_1 (20, [0], [30, k, 1, 1, 159]) ws (vs ++ [Value.int x]) := by
    refine ⟨fun n hn => ?_, ?_⟩
    · have hn : n ∈ [0] := hn
      rw [List.length_append, hl]
      simp only [List.mem_cons, List.not_mem_nil, or_false] at hn
      show n < 4 + 1; omega
    · show 1 * w_fi ws (n_v (vs ++ [Value.int x]) 0) 159 + 0 ≤ k
      rw [e_0]
      omega
  have nf4 : fc_1 (20, [0], [30, (-k), -1, 1, 159]) ws (vs ++ [Value.int x]) := by
    refine ⟨fun n hn => ?_, ?_⟩
    · have hn : n ∈ [0] := hn
      rw [List.length_append, hl]
      simp only [List.mem_cons, List.not_mem_nil, or_false] at hn
      show n < 4 + 1; omega
    · show (-1) * w_fi ws (n_v (vs ++ [Value.int x]) 0) 159 + 0 ≤ ((-k))
      rw [e_0]
      omega
  have nf5 : fc_1 (24, [0, 0], []) ws (vs ++ [Value.int x]) := by
    refine ⟨fun n hn => ?_, ?_⟩
    · have hn : n ∈ [0, 0] := hn
      rw [List.length_append, hl]
      simp only [List.mem_cons, List.not_mem_nil, or_false] at hn
      show n < 4 + 1; omega
    · show n_v (vs ++ [Value.int x]) 0 = n_v (vs ++ [Value.int x]) 0
      first | rfl | simp only [e_0]
  have nf6 : fc_1 (20, [4, 0], [30, 2010, 1, 0, 0, 1, 1, 158]) ws (vs ++ [Value.int x]) := by
    refine ⟨fun n hn => ?_, ?_⟩
    · have hn : n ∈ [4, 0] := hn
      rw [List.length_append, hl]
      simp only [List.mem_cons, List.not_mem_nil, or_false] at hn
      show n < 4 + 1; omega
    · show 1 * v_iv (n_v (vs ++ [Value.int x]) 4) + (1 * w_fi ws (n_v (vs ++ [Value.int x]) 0) 158 + 0) ≤ 2010
      rw [e_0]
      rw [e_4]
      omega
  have nf7 : fc_1 (20, [4, 0], [30, -2010, -1, 0, 0, -1, 1, 158]) ws (vs ++ [Value.int x]) := by
    refine ⟨fun n hn => ?_, ?_⟩
    · have hn : n ∈ [4, 0] := hn
      rw [List.length_append, hl]
      simp only [List.mem_cons, List.not_mem_nil, or_false] at hn
      show n < 4 + 1; omega
    · show (-1) * v_iv (n_v (vs ++ [Value.int x]) 4) + ((-1) * w_fi ws (n_v (vs ++ [Value.int x]) 0) 158 + 0) ≤ (-2010)
      rw [e_0]
      rw [e_4]
      omega
  exact ⟨(fun _ h => (by cases h)), [Value.int x], ag_one hx, List.forall_mem_cons.mpr ⟨⟨show (20 : Nat) < 100 from by decide, nf0⟩, List.forall_mem_cons.mpr ⟨⟨show (20 : Nat) < 100 from by decide, nf1⟩, List.forall_mem_cons.mpr ⟨⟨show (20 : Nat) < 100 from by decide, nf2⟩, List.forall_mem_cons.mpr ⟨⟨show (20 : Nat) < 100 from by decide, nf3⟩, List.forall_mem_cons.mpr ⟨⟨show (20 : Nat) < 100 from by decide, nf4⟩, List.forall_mem_cons.mpr ⟨⟨show (24 : Nat) < 100 from by decide, nf5⟩, List.forall_mem_cons.mpr ⟨⟨show (20 : Nat) < 100 from by decide, nf6⟩, List.forall_mem_cons.mpr ⟨⟨show (20 : Nat) < 100 from by decide, nf7⟩, (fun _ h => (by cases h))⟩⟩⟩⟩⟩⟩⟩⟩, (fun _ h => (by cases h))⟩
def o_Mo_both_f_2 (k : Int) : or_T := (48, 8, [(0, (2, 0, 0, [150])), (1, (0, 0, 2009, [])), (2, (2, 0, 0, [150])), (5, (0, 0, 2010, [])), (7, (0, 0, 0, []))], [(8, [7], [0]), (20, [2], [50, 2, 1, 158, 157, 160, 2, 12, 0, 7, 4, 3, 2, 0, 158, 0, 1, 2, 0, 157, 2, 7, 0, 3, 2, 0, 157, 0, 2010, 3, 14, 1, 10, 3, 0, 160, 5, 3, 2, 0, 157, 0, 1, 0, 0, 1, 10, 3, 0, 160, 5, 3, 2, 0, 157, 0, 1, 0, 4]), (20, [1, 2], [30, 0, 1, 0, 0, -1, 1, 158]), (20, [2], [30, k, 1, 1, 159]), (20, [2], [30, (-k), -1, 1, 159]), (24, [0, 2], []), (20, [5, 2], [30, 2010, 1, 0, 0, 1, 1, 158]), (20, [5, 2], [30, -2010, -1, 0, 0, -1, 1, 158]), (20, [7, 2], [50, 1, 1, 1158, 1160, 4, 6, 1, 2, 1, 0, 0, 1, 1, 6, 3, 1, 160, 2, 1, 158, 0, 1])], [], [], [(20, [0], [50, 2, 1, 158, 157, 160, 2, 12, 0, 7, 4, 3, 2, 0, 158, 0, 1, 2, 0, 157, 2, 7, 0, 3, 2, 0, 157, 0, 2010, 3, 14, 1, 10, 3, 0, 160, 5, 3, 2, 0, 157, 0, 1, 0, 0, 1, 10, 3, 0, 160, 5, 3, 2, 0, 157, 0, 1, 0, 4]), (20, [1, 0], [30, 0, 1, 0, 0, -1, 1, 158]), (20, [0], [30, k, 1, 1, 159]), (20, [0], [30, (-k), -1, 1, 159])], [], [])
theorem oo_Mo_both_f_2 {kA : Nat → ClassId} (k : Int) (hk0 : 0 ≤ k) (hk1 : k ≤ 12) : or_ok kA GG (o_Mo_both_f_2 k) := by
  intro A ta ws vs hD hth hl hk hds hf
  have hl : vs.length = 8 := hl
  have hk : ∀ q ∈ ([(0, (2, 0, 0, [150])), (1, (0, 0, 2009, [])), (2, (2, 0, 0, [150])), (5, (0, 0, 2010, [])), (7, (0, 0, 0, []))] : List (Nat × tv_T)), tv_ok ta q.2 (n_v vs q.1) := hk
  obtain ⟨t0, hk⟩ := List.forall_mem_cons.mp hk
  have t0 : tv_ok ta (2, 0, 0, [150]) (n_v vs 0) := t0
  have r0 : ta (v_ad (n_v vs 0)) = some 150 := tv_rg t0
  obtain ⟨t1, hk⟩ := List.forall_mem_cons.mp hk
  have t1 : tv_ok ta (0, 0, 2009, []) (n_v vs 1) := t1
  have k1 : 0 ≤ v_iv (n_v vs 1) ∧ v_iv (n_v vs 1) ≤ 2009 := tv_rng t1
  obtain ⟨t2, hk⟩ := List.forall_mem_cons.mp hk
  have t2 : tv_ok ta (2, 0, 0, [150]) (n_v vs 2) := t2
  have r2 : ta (v_ad (n_v vs 2)) = some 150 := tv_rg t2
  obtain ⟨t5, hk⟩ := List.forall_mem_cons.mp hk
  have t5 : tv_ok ta (0, 0, 2010, []) (n_v vs 5) := t5
  have k5 : 0 ≤ v_iv (n_v vs 5) ∧ v_iv (n_v vs 5) ≤ 2010 := tv_rng t5
  obtain ⟨t7, hk⟩ := List.forall_mem_cons.mp hk
  have t7 : tv_ok ta (0, 0, 0, []) (n_v vs 7) := t7
  have k7 : 0 ≤ v_iv (n_v vs 7) ∧ v_iv (n_v vs 7) ≤ 0 := tv_rng t7
  have hf : fc_ok [(8, [7], [0]), (20, [2], [50, 2, 1, 158, 157, 160, 2, 12, 0, 7, 4, 3, 2, 0, 158, 0, 1, 2, 0, 157, 2, 7, 0, 3, 2, 0, 157, 0, 2010, 3, 14, 1, 10, 3, 0, 160, 5, 3, 2, 0, 157, 0, 1, 0, 0, 1, 10, 3, 0, 160, 5, 3, 2, 0, 157, 0, 1, 0, 4]), (20, [1, 2], [30, 0, 1, 0, 0, -1, 1, 158]), (20, [2], [30, k, 1, 1, 159]), (20, [2], [30, (-k), -1, 1, 159]), (24, [0, 2], []), (20, [5, 2], [30, 2010, 1, 0, 0, 1, 1, 158]), (20, [5, 2], [30, -2010, -1, 0, 0, -1, 1, 158]), (20, [7, 2], [50, 1, 1, 1158, 1160, 4, 6, 1, 2, 1, 0, 0, 1, 1, 6, 3, 1, 160, 2, 1, 158, 0, 1])] ta ws vs := hf
  obtain ⟨f0, hf⟩ := fc_un (show (8 : Nat) < 100 from by decide) hf
  have f0 : v_iv (n_v vs 7) = 0 := f0
  obtain ⟨f1, hf⟩ := fc_un (show (20 : Nat) < 100 from by decide) hf
  have f1 : ((w_fi ws (n_v vs 2) 158 + 1) ≤ w_fi ws (n_v vs 2) 157) ∧ ((w_fi ws (n_v vs 2) 157 ≤ 2010) ∧ ((w_ei ws (w_ar ws (n_v vs 2) 160) ((w_fi ws (n_v vs 2) 157 - 1)) = 0) ∨ (w_ei ws (w_ar ws (n_v vs 2) 160) ((w_fi ws (n_v vs 2) 157 - 1)) = 4))) := f1
  obtain ⟨f2, hf⟩ := fc_un (show (20 : Nat) < 100 from by decide) hf
  have f2 : 1 * v_iv (n_v vs 1) + ((-1) * w_fi ws (n_v vs 2) 158 + 0) ≤ 0 := f2
  obtain ⟨f3, hf⟩ := fc_un (show (20 : Nat) < 100 from by decide) hf
  have f3 : 1 * w_fi ws (n_v vs 2) 159 + 0 ≤ k := f3
  obtain ⟨f4, hf⟩ := fc_un (show (20 : Nat) < 100 from by decide) hf
  have f4 : (-1) * w_fi ws (n_v vs 2) 159 + 0 ≤ ((-k)) := f4
  obtain ⟨f5, hf⟩ := fc_un (show (24 : Nat) < 100 from by decide) hf
  have f5 : n_v vs 0 = n_v vs 2 := f5
  obtain ⟨f6, hf⟩ := fc_un (show (20 : Nat) < 100 from by decide) hf
  have f6 : 1 * v_iv (n_v vs 5) + (1 * w_fi ws (n_v vs 2) 158 + 0) ≤ 2010 := f6
  obtain ⟨f7, hf⟩ := fc_un (show (20 : Nat) < 100 from by decide) hf
  have f7 : (-1) * v_iv (n_v vs 5) + ((-1) * w_fi ws (n_v vs 2) 158 + 0) ≤ (-2010) := f7
  obtain ⟨f8, hf⟩ := fc_un (show (20 : Nat) < 100 from by decide) hf
  have f8 : (v_iv (n_v vs 7) = 1) → (w_ei ws (w_ar ws (n_v vs 2) 160) (w_fi ws (n_v vs 2) 158) = 1) := f8
  have q2 : n_v vs 2 = n_v vs 0 := f5.symm
  rw [q2] at f1
  rw [q2] at f2
  rw [q2] at f3
  rw [q2] at f4
  rw [q2] at f6
  rw [q2] at f7
  rw [q2] at f8
  have cr_0_160 : ta (w_ar ws (n_v vs 0) 160) = some 259 := tv_rg (th_fd hD hth r0 (g := GG_150) rfl (k := 160) (t := (2, 0, 0, [259])) rfl rfl)
  have hK_0_160 : ∀ j : Int, 0 ≤ j → j < 2010 → 0 ≤ w_ei ws (w_ar ws (n_v vs 0) 160) j ∧ w_ei ws (w_ar ws (n_v vs 0) 160) j ≤ 4 := fun j h0 h1 => th_el hD hth cr_0_160 (kd := 0) (n := 2010) (m := 2010) (lo := 0) (hi := 4) (rs := []) (L := []) rfl (by decide) (j := j.toNat) (by omega)
  have kz_0_157 : 0 ≤ w_fi ws (n_v vs 0) 157 ∧ w_fi ws (n_v vs 0) 157 ≤ 2010 := tv_rng (th_fd hD hth r0 (g := GG_150) rfl (k := 157) (t := (0, 0, 2010, [])) rfl rfl)
  have kz_0_158 : 0 ≤ w_fi ws (n_v vs 0) 158 ∧ w_fi ws (n_v vs 0) 158 ≤ 2009 := tv_rng (th_fd hD hth r0 (g := GG_150) rfl (k := 158) (t := (0, 0, 2009, [])) rfl rfl)
  have kz_0_159 : 0 ≤ w_fi ws (n_v vs 0) 159 ∧ w_fi ws (n_v vs 0) 159 ≤ 13 := tv_rng (th_fd hD hth r0 (g := GG_150) rfl (k := 159) (t := (0, 0, 13, [])) rfl rfl)
  have nf0 : fc_1 (20, [0], [50, 2, 1, 158, 157, 160, 2, 12, 0, 7, 4, 3, 2, 0, 158, 0, 1, 2, 0, 157, 2, 7, 0, 3, 2, 0, 157, 0, 2010, 3, 14, 1, 10, 3, 0, 160, 5, 3, 2, 0, 157, 0, 1, 0, 0, 1, 10, 3, 0, 160, 5, 3, 2, 0, 157, 0, 1, 0, 4]) ws (vs) := by
    refine ⟨fun n hn => ?_, ?_⟩
    · have hn : n ∈ [0] := hn
      rw [hl]
      simp only [List.mem_cons, List.not_mem_nil, or_false] at hn
      show n < 8; omega
    · show ((w_fi ws (n_v vs 0) 158 + 1) ≤ w_fi ws (n_v vs 0) 157) ∧ ((w_fi ws (n_v vs 0) 157 ≤ 2010) ∧ ((w_ei ws (w_ar ws (n_v vs 0) 160) ((w_fi ws (n_v vs 0) 157 - 1)) = 0) ∨ (w_ei ws (w_ar ws (n_v vs 0) 160) ((w_fi ws (n_v vs 0) 157 - 1)) = 4)))
      first | omega | grind
  have nf1 : fc_1 (20, [1, 0], [30, 0, 1, 0, 0, -1, 1, 158]) ws (vs) := by
    refine ⟨fun n hn => ?_, ?_⟩
    · have hn : n ∈ [1, 0] := hn
      rw [hl]
      simp only [List.mem_cons, List.not_mem_nil, or_false] at hn
      show n < 8; omega
    · show 1 * v_iv (n_v vs 1) + ((-1) * w_fi ws (n_v vs 0) 158 + 0) ≤ 0
      omega
  have nf2 : fc_1 (20, [0], [30, k, 1, 1, 159]) ws (vs) := by
    refine ⟨fun n hn => ?_, ?_⟩
    · have hn : n ∈ [0] := hn
      rw [hl]
      simp only [List.mem_cons, List.not_mem_nil, or_false] at hn
      show n < 8; omega
    · show 1 * w_fi ws (n_v vs 0) 159 + 0 ≤ k
      omega
  have nf3 : fc_1 (20, [0], [30, (-k), -1, 1, 159]) ws (vs) := by
    refine ⟨fun n hn => ?_, ?_⟩
    · have hn : n ∈ [0] := hn
      rw [hl]
      simp only [List.mem_cons, List.not_mem_nil, or_false] at hn
      show n < 8; omega
    · show (-1) * w_fi ws (n_v vs 0) 159 + 0 ≤ ((-k))
      omega
  refine ⟨(fun _ h => (by cases h)), [], trivial, ?_, (fun _ h => (by cases h))⟩
  rw [List.append_nil]
  exact List.forall_mem_cons.mpr ⟨⟨show (20 : Nat) < 100 from by decide, nf0⟩, List.forall_mem_cons.mpr ⟨⟨show (20 : Nat) < 100 from by decide, nf1⟩, List.forall_mem_cons.mpr ⟨⟨show (20 : Nat) < 100 from by decide, nf2⟩, List.forall_mem_cons.mpr ⟨⟨show (20 : Nat) < 100 from by decide, nf3⟩, (fun _ h => (by cases h))⟩⟩⟩⟩
def o_Mo_both_f_3 (k : Int) : or_T := (22, 10, [(0, (2, 0, 0, [150])), (1, (0, 0, 2009, [])), (2, (2, 0, 0, [150])), (4, (0, 0, 2009, [])), (5, (0, 0, 2010, [])), (7, (0, 1, 1, [])), (8, (0, 1, 1, [])), (9, (0, 1, 2010, []))], [(1, [9, 4, 8], []), (9, [4, 2], [158]), (8, [7], [1]), (20, [2], [50, 2, 1, 158, 157, 160, 2, 12, 0, 7, 4, 3, 2, 0, 158, 0, 1, 2, 0, 157, 2, 7, 0, 3, 2, 0, 157, 0, 2010, 3, 14, 1, 10, 3, 0, 160, 5, 3, 2, 0, 157, 0, 1, 0, 0, 1, 10, 3, 0, 160, 5, 3, 2, 0, 157, 0, 1, 0, 4]), (20, [1, 2], [30, 0, 1, 0, 0, -1, 1, 158]), (24, [0, 2], []), (20, [5, 2], [30, 2010, 1, 0, 0, 1, 1, 158]), (20, [5, 2], [30, -2010, -1, 0, 0, -1, 1, 158]), (20, [7, 2], [50, 1, 1, 1158, 1160, 4, 6, 1, 2, 1, 0, 0, 1, 1, 6, 3, 1, 160, 2, 1, 158, 0, 1])], [(9, (0, 1, 2009, []))], [], [], [], [(9, 4, 1, 1), (9, 1, -4294967296, 2010), (1, 4, -4294967296, 2009), (4, 1, -4294967296, 2009)])
theorem oo_Mo_both_f_3 {kA : Nat → ClassId} (k : Int) (hk0 : 0 ≤ k) (hk1 : k ≤ 12) : or_ok kA GG (o_Mo_both_f_3 k) := by
  intro A ta ws vs hD hth hl hk hds hf
  have hl : vs.length = 10 := hl
  have hk : ∀ q ∈ ([(0, (2, 0, 0, [150])), (1, (0, 0, 2009, [])), (2, (2, 0, 0, [150])), (4, (0, 0, 2009, [])), (5, (0, 0, 2010, [])), (7, (0, 1, 1, [])), (8, (0, 1, 1, [])), (9, (0, 1, 2010, []))] : List (Nat × tv_T)), tv_ok ta q.2 (n_v vs q.1) := hk
  obtain ⟨t0, hk⟩ := List.forall_mem_cons.mp hk
  have t0 : tv_ok ta (2, 0, 0, [150]) (n_v vs 0) := t0
  have r0 : ta (v_ad (n_v vs 0)) = some 150 := tv_rg t0
  obtain ⟨t1, hk⟩ := List.forall_mem_cons.mp hk
  have t1 : tv_ok ta (0, 0, 2009, []) (n_v vs 1) := t1
  have k1 : 0 ≤ v_iv (n_v vs 1) ∧ v_iv (n_v vs 1) ≤ 2009 := tv_rng t1
  obtain ⟨t2, hk⟩ := List.forall_mem_cons.mp hk
  have t2 : tv_ok ta (2, 0, 0, [150]) (n_v vs 2) := t2
  have r2 : ta (v_ad (n_v vs 2)) = some 150 := tv_rg t2
  obtain ⟨t4, hk⟩ := List.forall_mem_cons.mp hk
  have t4 : tv_ok ta (0, 0, 2009, []) (n_v vs 4) := t4
  have k4 : 0 ≤ v_iv (n_v vs 4) ∧ v_iv (n_v vs 4) ≤ 2009 := tv_rng t4
  obtain ⟨t5, hk⟩ := List.forall_mem_cons.mp hk
  have t5 : tv_ok ta (0, 0, 2010, []) (n_v vs 5) := t5
  have k5 : 0 ≤ v_iv (n_v vs 5) ∧ v_iv (n_v vs 5) ≤ 2010 := tv_rng t5
  obtain ⟨t7, hk⟩ := List.forall_mem_cons.mp hk
  have t7 : tv_ok ta (0, 1, 1, []) (n_v vs 7) := t7
  have k7 : 1 ≤ v_iv (n_v vs 7) ∧ v_iv (n_v vs 7) ≤ 1 := tv_rng t7
  obtain ⟨t8, hk⟩ := List.forall_mem_cons.mp hk
  have t8 : tv_ok ta (0, 1, 1, []) (n_v vs 8) := t8
  have k8 : 1 ≤ v_iv (n_v vs 8) ∧ v_iv (n_v vs 8) ≤ 1 := tv_rng t8
  obtain ⟨t9, hk⟩ := List.forall_mem_cons.mp hk
  have t9 : tv_ok ta (0, 1, 2010, []) (n_v vs 9) := t9
  have k9 : 1 ≤ v_iv (n_v vs 9) ∧ v_iv (n_v vs 9) ≤ 2010 := tv_rng t9
  have hds : ∀ q ∈ ([(9, 4, 1, 1), (9, 1, -4294967296, 2010), (1, 4, -4294967296, 2009), (4, 1, -4294967296, 2009)] : List of_T), n_iv vs q.2.1 + q.2.2.1 ≤ n_iv vs q.1 ∧ n_iv vs q.1 ≤ n_iv vs q.2.1 + q.2.2.2 := hds
  obtain ⟨d0, hds⟩ := List.forall_mem_cons.mp hds
  have d0 : v_iv (n_v vs 4) + 1 ≤ v_iv (n_v vs 9) ∧ v_iv (n_v vs 9) ≤ v_iv (n_v vs 4) + 1 := d0
  obtain ⟨d1, hds⟩ := List.forall_mem_cons.mp hds
  have d1 : v_iv (n_v vs 1) + (-4294967296) ≤ v_iv (n_v vs 9) ∧ v_iv (n_v vs 9) ≤ v_iv (n_v vs 1) + 2010 := d1
  obtain ⟨d2, hds⟩ := List.forall_mem_cons.mp hds
  have d2 : v_iv (n_v vs 4) + (-4294967296) ≤ v_iv (n_v vs 1) ∧ v_iv (n_v vs 1) ≤ v_iv (n_v vs 4) + 2009 := d2
  obtain ⟨d3, hds⟩ := List.forall_mem_cons.mp hds
  have d3 : v_iv (n_v vs 1) + (-4294967296) ≤ v_iv (n_v vs 4) ∧ v_iv (n_v vs 4) ≤ v_iv (n_v vs 1) + 2009 := d3
  have hf : fc_ok [(1, [9, 4, 8], []), (9, [4, 2], [158]), (8, [7], [1]), (20, [2], [50, 2, 1, 158, 157, 160, 2, 12, 0, 7, 4, 3, 2, 0, 158, 0, 1, 2, 0, 157, 2, 7, 0, 3, 2, 0, 157, 0, 2010, 3, 14, 1, 10, 3, 0, 160, 5, 3, 2, 0, 157, 0, 1, 0, 0, 1, 10, 3, 0, 160, 5, 3, 2, 0, 157, 0, 1, 0, 4]), (20, [1, 2], [30, 0, 1, 0, 0, -1, 1, 158]), (24, [0, 2], []), (20, [5, 2], [30, 2010, 1, 0, 0, 1, 1, 158]), (20, [5, 2], [30, -2010, -1, 0, 0, -1, 1, 158]), (20, [7, 2], [50, 1, 1, 1158, 1160, 4, 6, 1, 2, 1, 0, 0, 1, 1, 6, 3, 1, 160, 2, 1, 158, 0, 1])] ta ws vs := hf
  obtain ⟨f0, hf⟩ := fc_un (show (1 : Nat) < 100 from by decide) hf
  have f0 : v_iv (n_v vs 9) = v_iv (n_v vs 4) + v_iv (n_v vs 8) := f0
  obtain ⟨f1, hf⟩ := fc_un (show (9 : Nat) < 100 from by decide) hf
  have f1 : n_v vs 4 = w_fd ws (v_ad (n_v vs 2)) 158 := f1
  obtain ⟨f2, hf⟩ := fc_un (show (8 : Nat) < 100 from by decide) hf
  have f2 : v_iv (n_v vs 7) ≠ 0 := f2
  obtain ⟨f3, hf⟩ := fc_un (show (20 : Nat) < 100 from by decide) hf
  have f3 : ((w_fi ws (n_v vs 2) 158 + 1) ≤ w_fi ws (n_v vs 2) 157) ∧ ((w_fi ws (n_v vs 2) 157 ≤ 2010) ∧ ((w_ei ws (w_ar ws (n_v vs 2) 160) ((w_fi ws (n_v vs 2) 157 - 1)) = 0) ∨ (w_ei ws (w_ar ws (n_v vs 2) 160) ((w_fi ws (n_v vs 2) 157 - 1)) = 4))) := f3
  obtain ⟨f4, hf⟩ := fc_un (show (20 : Nat) < 100 from by decide) hf
  have f4 : 1 * v_iv (n_v vs 1) + ((-1) * w_fi ws (n_v vs 2) 158 + 0) ≤ 0 := f4
  obtain ⟨f5, hf⟩ := fc_un (show (24 : Nat) < 100 from by decide) hf
  have f5 : n_v vs 0 = n_v vs 2 := f5
  obtain ⟨f6, hf⟩ := fc_un (show (20 : Nat) < 100 from by decide) hf
  have f6 : 1 * v_iv (n_v vs 5) + (1 * w_fi ws (n_v vs 2) 158 + 0) ≤ 2010 := f6
  obtain ⟨f7, hf⟩ := fc_un (show (20 : Nat) < 100 from by decide) hf
  have f7 : (-1) * v_iv (n_v vs 5) + ((-1) * w_fi ws (n_v vs 2) 158 + 0) ≤ (-2010) := f7
  obtain ⟨f8, hf⟩ := fc_un (show (20 : Nat) < 100 from by decide) hf
  have f8 : (v_iv (n_v vs 7) = 1) → (w_ei ws (w_ar ws (n_v vs 2) 160) (w_fi ws (n_v vs 2) 158) = 1) := f8
  have q2 : n_v vs 2 = n_v vs 0 := f5.symm
  rw [q2] at f1
  rw [q2] at f3
  rw [q2] at f4
  rw [q2] at f6
  rw [q2] at f7
  rw [q2] at f8
  have cr_0_160 : ta (w_ar ws (n_v vs 0) 160) = some 259 := tv_rg (th_fd hD hth r0 (g := GG_150) rfl (k := 160) (t := (2, 0, 0, [259])) rfl rfl)
  have g1 : v_iv (n_v vs 4) = w_fi ws (n_v vs 0) 158 := congrArg v_iv f1
  have hK_0_160 : ∀ j : Int, 0 ≤ j → j < 2010 → 0 ≤ w_ei ws (w_ar ws (n_v vs 0) 160) j ∧ w_ei ws (w_ar ws (n_v vs 0) 160) j ≤ 4 := fun j h0 h1 => th_el hD hth cr_0_160 (kd := 0) (n := 2010) (m := 2010) (lo := 0) (hi := 4) (rs := []) (L := []) rfl (by decide) (j := j.toNat) (by omega)
  have kz_0_157 : 0 ≤ w_fi ws (n_v vs 0) 157 ∧ w_fi ws (n_v vs 0) 157 ≤ 2010 := tv_rng (th_fd hD hth r0 (g := GG_150) rfl (k := 157) (t := (0, 0, 2010, [])) rfl rfl)
  have kz_0_158 : 0 ≤ w_fi ws (n_v vs 0) 158 ∧ w_fi ws (n_v vs 0) 158 ≤ 2009 := tv_rng (th_fd hD hth r0 (g := GG_150) rfl (k := 158) (t := (0, 0, 2009, [])) rfl rfl)
  have rf9 : tv_ok ta (0, 1, 2009, []) (n_v vs 9) := tv_in t9 (by first | omega | grind) (by first | omega | grind)
  refine ⟨List.forall_mem_cons.mpr ⟨rf9, (fun _ h => (by cases h))⟩, [], trivial, ?_, (fun _ h => (by cases h))⟩
  rw [List.append_nil]
  exact (fun _ h => (by cases h))
def o_Mo_both_f_4 (k : Int) : or_T := (26, 10, [(0, (2, 0, 0, [150])), (1, (0, 0, 2009, [])), (2, (2, 0, 0, [150])), (4, (0, 0, 2009, [])), (5, (0, 0, 2010, [])), (7, (0, 1, 1, [])), (8, (0, 1, 1, [])), (9, (0, 1, 2009, []))], [(20, [2], [50, 2, 0, 164, 165, 4, 7, 1, 3, 2, 0, 164, 0, 0, 0, 3, 2, 0, 165, 0, 23]), (20, [2], [30, k, 1, 1, 159]), (20, [2], [30, (-k), -1, 1, 159]), (24, [0, 2], []), (101, [2, 9], [158]), (1, [9, 4, 8], []), (9, [4, 2], [158]), (8, [7], [1]), (20, [2], [50, 2, 1, 158, 157, 160, 2, 12, 0, 7, 4, 3, 2, 0, 158, 0, 1, 2, 0, 157, 2, 7, 0, 3, 2, 0, 157, 0, 2010, 3, 14, 1, 10, 3, 0, 160, 5, 3, 2, 0, 157, 0, 1, 0, 0, 1, 10, 3, 0, 160, 5, 3, 2, 0, 157, 0, 1, 0, 4]), (20, [1, 2], [30, 0, 1, 0, 0, -1, 1, 158]), (20, [2], [50, 2, 0, 164, 165, 4, 7, 1, 3, 2, 0, 164, 0, 0, 0, 3, 2, 0, 165, 0, 23]), (20, [2], [30, k, 1, 1, 159]), (20, [2], [30, (-k), -1, 1, 159]), (20, [5, 2], [30, 2010, 1, 0, 0, 1, 1, 158]), (20, [5, 2], [30, -2010, -1, 0, 0, -1, 1, 158]), (20, [7, 2], [50, 1, 1, 1158, 1160, 4, 6, 1, 2, 1, 0, 0, 1, 1, 6, 3, 1, 160, 2, 1, 158, 0, 1])], [], [(0, 0, 2009, [])], [(20, [2], [50, 2, 1, 158, 157, 160, 2, 12, 0, 7, 4, 3, 2, 0, 158, 0, 1, 2, 0, 157, 2, 7, 0, 3, 2, 0, 157, 0, 2010, 3, 14, 1, 10, 3, 0, 160, 5, 3, 2, 0, 157, 0, 1, 0, 0, 1, 10, 3, 0, 160, 5, 3, 2, 0, 157, 0, 1, 0, 4]), (20, [2, 10], [30, 0, 1, 1, 158, -1, 0, 0]), (20, [2, 10], [30, 0, -1, 1, 158, 1, 0, 0]), (20, [2], [50, 2, 0, 164, 165, 4, 7, 1, 3, 2, 0, 164, 0, 0, 0, 3, 2, 0, 165, 0, 23]), (20, [2], [30, k, 1, 1, 159]), (20, [2], [30, (-k), -1, 1, 159]), (23, [1, 10], [0, 1, -1]), (23, [5, 10], [-2011, -1, -1])], [], [(9, 4, 1, 1), (9, 1, -4294967296, 2010), (1, 4, -4294967296, 2009), (4, 1, -4294967296, 2009)])
theorem oo_Mo_both_f_4 {kA : Nat → ClassId} (k : Int) (hk0 : 0 ≤ k) (hk1 : k ≤ 12) : or_ok kA GG (o_Mo_both_f_4 k) := by
  intro A ta ws vs hD hth hl hk hds hf
  have hl : vs.length = 10 := hl
  have hk : ∀ q ∈ ([(0, (2, 0, 0, [150])), (1, (0, 0, 2009, [])), (2, (2, 0, 0, [150])), (4, (0, 0, 2009, [])), (5, (0, 0, 2010, [])), (7, (0, 1, 1, [])), (8, (0, 1, 1, [])), (9, (0, 1, 2009, []))] : List (Nat × tv_T)), tv_ok ta q.2 (n_v vs q.1) := hk
  obtain ⟨t0, hk⟩ := List.forall_mem_cons.mp hk
  have t0 : tv_ok ta (2, 0, 0, [150]) (n_v vs 0) := t0
  have r0 : ta (v_ad (n_v vs 0)) = some 150 := tv_rg t0
  obtain ⟨t1, hk⟩ := List.forall_mem_cons.mp hk
  have t1 : tv_ok ta (0, 0, 2009, []) (n_v vs 1) := t1
  have k1 : 0 ≤ v_iv (n_v vs 1) ∧ v_iv (n_v vs 1) ≤ 2009 := tv_rng t1
  obtain ⟨t2, hk⟩ := List.forall_mem_cons.mp hk
  have t2 : tv_ok ta (2, 0, 0, [150]) (n_v vs 2) := t2
  have r2 : ta (v_ad (n_v vs 2)) = some 150 := tv_rg t2
  obtain ⟨t4, hk⟩ := List.forall_mem_cons.mp hk
  have t4 : tv_ok ta (0, 0, 2009, []) (n_v vs 4) := t4
  have k4 : 0 ≤ v_iv (n_v vs 4) ∧ v_iv (n_v vs 4) ≤ 2009 := tv_rng t4
  obtain ⟨t5, hk⟩ := List.forall_mem_cons.mp hk
  have t5 : tv_ok ta (0, 0, 2010, []) (n_v vs 5) := t5
  have k5 : 0 ≤ v_iv (n_v vs 5) ∧ v_iv (n_v vs 5) ≤ 2010 := tv_rng t5
  obtain ⟨t7, hk⟩ := List.forall_mem_cons.mp hk
  have t7 : tv_ok ta (0, 1, 1, []) (n_v vs 7) := t7
  have k7 : 1 ≤ v_iv (n_v vs 7) ∧ v_iv (n_v vs 7) ≤ 1 := tv_rng t7
  obtain ⟨t8, hk⟩ := List.forall_mem_cons.mp hk
  have t8 : tv_ok ta (0, 1, 1, []) (n_v vs 8) := t8
  have k8 : 1 ≤ v_iv (n_v vs 8) ∧ v_iv (n_v vs 8) ≤ 1 := tv_rng t8
  obtain ⟨t9, hk⟩ := List.forall_mem_cons.mp hk
  have t9 : tv_ok ta (0, 1, 2009, []) (n_v vs 9) := t9
  have k9 : 1 ≤ v_iv (n_v vs 9) ∧ v_iv (n_v vs 9) ≤ 2009 := tv_rng t9
  have hds : ∀ q ∈ ([(9, 4, 1, 1), (9, 1, -4294967296, 2010), (1, 4, -4294967296, 2009), (4, 1, -4294967296, 2009)] : List of_T), n_iv vs q.2.1 + q.2.2.1 ≤ n_iv vs q.1 ∧ n_iv vs q.1 ≤ n_iv vs q.2.1 + q.2.2.2 := hds
  obtain ⟨d0, hds⟩ := List.forall_mem_cons.mp hds
  have d0 : v_iv (n_v vs 4) + 1 ≤ v_iv (n_v vs 9) ∧ v_iv (n_v vs 9) ≤ v_iv (n_v vs 4) + 1 := d0
  obtain ⟨d1, hds⟩ := List.forall_mem_cons.mp hds
  have d1 : v_iv (n_v vs 1) + (-4294967296) ≤ v_iv (n_v vs 9) ∧ v_iv (n_v vs 9) ≤ v_iv (n_v vs 1) + 2010 := d1
  obtain ⟨d2, hds⟩ := List.forall_mem_cons.mp hds
  have d2 : v_iv (n_v vs 4) + (-4294967296) ≤ v_iv (n_v vs 1) ∧ v_iv (n_v vs 1) ≤ v_iv (n_v vs 4) + 2009 := d2
  obtain ⟨d3, hds⟩ := List.forall_mem_cons.mp hds
  have d3 : v_iv (n_v vs 1) + (-4294967296) ≤ v_iv (n_v vs 4) ∧ v_iv (n_v vs 4) ≤ v_iv (n_v vs 1) + 2009 := d3
  have hf : fc_ok [(20, [2], [50, 2, 0, 164, 165, 4, 7, 1, 3, 2, 0, 164, 0, 0, 0, 3, 2, 0, 165, 0, 23]), (20, [2], [30, k, 1, 1, 159]), (20, [2], [30, (-k), -1, 1, 159]), (24, [0, 2], []), (101, [2, 9], [158]), (1, [9, 4, 8], []), (9, [4, 2], [158]), (8, [7], [1]), (20, [2], [50, 2, 1, 158, 157, 160, 2, 12, 0, 7, 4, 3, 2, 0, 158, 0, 1, 2, 0, 157, 2, 7, 0, 3, 2, 0, 157, 0, 2010, 3, 14, 1, 10, 3, 0, 160, 5, 3, 2, 0, 157, 0, 1, 0, 0, 1, 10, 3, 0, 160, 5, 3, 2, 0, 157, 0, 1, 0, 4]), (20, [1, 2], [30, 0, 1, 0, 0, -1, 1, 158]), (20, [2], [50, 2, 0, 164, 165, 4, 7, 1, 3, 2, 0, 164, 0, 0, 0, 3, 2, 0, 165, 0, 23]), (20, [2], [30, k, 1, 1, 159]), (20, [2], [30, (-k), -1, 1, 159]), (20, [5, 2], [30, 2010, 1, 0, 0, 1, 1, 158]), (20, [5, 2], [30, -2010, -1, 0, 0, -1, 1, 158]), (20, [7, 2], [50, 1, 1, 1158, 1160, 4, 6, 1, 2, 1, 0, 0, 1, 1, 6, 3, 1, 160, 2, 1, 158, 0, 1])] ta ws vs := hf
  obtain ⟨f0, hf⟩ := fc_un (show (20 : Nat) < 100 from by decide) hf
  have f0 : (w_fi ws (n_v vs 2) 164 = 0) → (w_fi ws (n_v vs 2) 165 ≤ 23) := f0
  obtain ⟨f1, hf⟩ := fc_un (show (20 : Nat) < 100 from by decide) hf
  have f1 : 1 * w_fi ws (n_v vs 2) 159 + 0 ≤ k := f1
  obtain ⟨f2, hf⟩ := fc_un (show (20 : Nat) < 100 from by decide) hf
  have f2 : (-1) * w_fi ws (n_v vs 2) 159 + 0 ≤ ((-k)) := f2
  obtain ⟨f3, hf⟩ := fc_un (show (24 : Nat) < 100 from by decide) hf
  have f3 : n_v vs 0 = n_v vs 2 := f3
  obtain ⟨ta1, w1, le1, ⟨_, s1⟩, hf⟩ := fc_us (show ¬ (101 : Nat) < 100 from by decide) hf
  have s1 : (∀ b j, w_el ws b j = w_el w1 b j) ∧ ∀ b j, w_fd ws b j = if b = v_ad (n_v vs 2) ∧ j = 158 then n_v vs 9 else w_fd w1 b j := s1
  obtain ⟨f5, hf⟩ := fc_un (show (1 : Nat) < 100 from by decide) hf
  have f5 : v_iv (n_v vs 9) = v_iv (n_v vs 4) + v_iv (n_v vs 8) := f5
  obtain ⟨f6, hf⟩ := fc_un (show (9 : Nat) < 100 from by decide) hf
  have f6 : n_v vs 4 = w_fd w1 (v_ad (n_v vs 2)) 158 := f6
  obtain ⟨f7, hf⟩ := fc_un (show (8 : Nat) < 100 from by decide) hf
  have f7 : v_iv (n_v vs 7) ≠ 0 := f7
  obtain ⟨f8, hf⟩ := fc_un (show (20 : Nat) < 100 from by decide) hf
  have f8 : ((w_fi w1 (n_v vs 2) 158 + 1) ≤ w_fi w1 (n_v vs 2) 157) ∧ ((w_fi w1 (n_v vs 2) 157 ≤ 2010) ∧ ((w_ei w1 (w_ar w1 (n_v vs 2) 160) ((w_fi w1 (n_v vs 2) 157 - 1)) = 0) ∨ (w_ei w1 (w_ar w1 (n_v vs 2) 160) ((w_fi w1 (n_v vs 2) 157 - 1)) = 4))) := f8
  obtain ⟨f9, hf⟩ := fc_un (show (20 : Nat) < 100 from by decide) hf
  have f9 : 1 * v_iv (n_v vs 1) + ((-1) * w_fi w1 (n_v vs 2) 158 + 0) ≤ 0 := f9
  obtain ⟨f10, hf⟩ := fc_un (show (20 : Nat) < 100 from by decide) hf
  have f10 : (w_fi w1 (n_v vs 2) 164 = 0) → (w_fi w1 (n_v vs 2) 165 ≤ 23) := f10
  obtain ⟨f11, hf⟩ := fc_un (show (20 : Nat) < 100 from by decide) hf
  have f11 : 1 * w_fi w1 (n_v vs 2) 159 + 0 ≤ k := f11
  obtain ⟨f12, hf⟩ := fc_un (show (20 : Nat) < 100 from by decide) hf
  have f12 : (-1) * w_fi w1 (n_v vs 2) 159 + 0 ≤ ((-k)) := f12
  obtain ⟨f13, hf⟩ := fc_un (show (20 : Nat) < 100 from by decide) hf
  have f13 : 1 * v_iv (n_v vs 5) + (1 * w_fi w1 (n_v vs 2) 158 + 0) ≤ 2010 := f13
  obtain ⟨f14, hf⟩ := fc_un (show (20 : Nat) < 100 from by decide) hf
  have f14 : (-1) * v_iv (n_v vs 5) + ((-1) * w_fi w1 (n_v vs 2) 158 + 0) ≤ (-2010) := f14
  obtain ⟨f15, hf⟩ := fc_un (show (20 : Nat) < 100 from by decide) hf
  have f15 : (v_iv (n_v vs 7) = 1) → (w_ei w1 (w_ar w1 (n_v vs 2) 160) (w_fi w1 (n_v vs 2) 158) = 1) := f15
  have q2 : n_v vs 2 = n_v vs 0 := f3.symm
  rw [q2] at f0
  rw [q2] at f1
  rw [q2] at f2
  rw [q2] at s1
  rw [q2] at f6
  rw [q2] at f8
  rw [q2] at f9
  rw [q2] at f10
  rw [q2] at f11
  rw [q2] at f12
  rw [q2] at f13
  rw [q2] at f14
  rw [q2] at f15
  have ar_0_160_1 : w_ar w1 (n_v vs 0) 160 = w_ar ws (n_v vs 0) 160 := by show v_ad (w_fd w1 _ _) = v_ad (w_fd ws _ _); rw [s1.2, if_neg (fun e => absurd e.2 (by decide))]
  have cr_0_160 : ta (w_ar ws (n_v vs 0) 160) = some 259 := tv_rg (th_fd hD hth r0 (g := GG_150) rfl (k := 160) (t := (2, 0, 0, [259])) rfl rfl)
  have g6 : v_iv (n_v vs 4) = w_fi w1 (n_v vs 0) 158 := congrArg v_iv f6
  rw [ar_0_160_1] at f8
  rw [ar_0_160_1] at f15
  have fe_0_157_1 : w_fi ws (n_v vs 0) 157 = w_fi w1 (n_v vs 0) 157 := by show v_iv (w_fd _ _ _) = v_iv (w_fd _ _ _); rw [s1.2, if_neg (fun e => absurd e.2 (by decide))]
  have fe_0_158_1 : w_fi ws (n_v vs 0) 158 = v_iv (n_v vs 9) := by show v_iv (w_fd _ _ _) = _; rw [s1.2, if_pos ⟨rfl, rfl⟩]
  have fe_0_159_1 : w_fi ws (n_v vs 0) 159 = w_fi w1 (n_v vs 0) 159 := by show v_iv (w_fd _ _ _) = v_iv (w_fd _ _ _); rw [s1.2, if_neg (fun e => absurd e.2 (by decide))]
  have fe_0_164_1 : w_fi ws (n_v vs 0) 164 = w_fi w1 (n_v vs 0) 164 := by show v_iv (w_fd _ _ _) = v_iv (w_fd _ _ _); rw [s1.2, if_neg (fun e => absurd e.2 (by decide))]
  have fe_0_165_1 : w_fi ws (n_v vs 0) 165 = w_fi w1 (n_v vs 0) 165 := by show v_iv (w_fd _ _ _) = v_iv (w_fd _ _ _); rw [s1.2, if_neg (fun e => absurd e.2 (by decide))]
  have hE_0_160_1 : ∀ j : Int, w_ei ws (w_ar ws (n_v vs 0) 160) j = w_ei w1 (w_ar ws (n_v vs 0) 160) j := fun j => s1.1 _ _
  have hK_0_160 : ∀ j : Int, 0 ≤ j → j < 2010 → 0 ≤ w_ei ws (w_ar ws (n_v vs 0) 160) j ∧ w_ei ws (w_ar ws (n_v vs 0) 160) j ≤ 4 := fun j h0 h1 => th_el hD hth cr_0_160 (kd := 0) (n := 2010) (m := 2010) (lo := 0) (hi := 4) (rs := []) (L := []) rfl (by decide) (j := j.toNat) (by omega)
  have kz_0_157 : 0 ≤ w_fi ws (n_v vs 0) 157 ∧ w_fi ws (n_v vs 0) 157 ≤ 2010 := tv_rng (th_fd hD hth r0 (g := GG_150) rfl (k := 157) (t := (0, 0, 2010, [])) rfl rfl)
  have kz_0_158 : 0 ≤ w_fi ws (n_v vs 0) 158 ∧ w_fi ws (n_v vs 0) 158 ≤ 2009 := tv_rng (th_fd hD hth r0 (g := GG_150) rfl (k := 158) (t := (0, 0, 2009, [])) rfl rfl)
  have kz_0_159 : 0 ≤ w_fi ws (n_v vs 0) 159 ∧ w_fi ws (n_v vs 0) 159 ≤ 13 := tv_rng (th_fd hD hth r0 (g := GG_150) rfl (k := 159) (t := (0, 0, 13, [])) rfl rfl)
  have kz_0_164 : 0 ≤ w_fi ws (n_v vs 0) 164 ∧ w_fi ws (n_v vs 0) 164 ≤ 1 := tv_rng (th_fd hD hth r0 (g := GG_150) rfl (k := 164) (t := (0, 0, 1, [])) rfl rfl)
  have kz_0_165 : (-1) ≤ w_fi ws (n_v vs 0) 165 ∧ w_fi ws (n_v vs 0) 165 ≤ 47 := tv_rng (th_fd hD hth r0 (g := GG_150) rfl (k := 165) (t := (0, -1, 47, [])) rfl rfl)
  have kv0 : 0 ≤ w_fi ws (n_v vs 0) 158 ∧ w_fi ws (n_v vs 0) 158 ≤ 2009 := tv_rng (th_fd hD hth r0 (g := GG_150) rfl (k := 158) (t := (0, 0, 2009, [])) rfl rfl)
  obtain ⟨x, ex, hx⟩ := iv_ex (ta := ta) (lo := 0) (hi := 2009) (z := w_fi ws (n_v vs 0) 158) (by omega) (by omega) (by omega) (by omega)
  have ex2 : v_iv (Value.int x) = w_fi ws (n_v vs 0) 158 := ex
  have ex3 : 0 ≤ v_iv (Value.int x) ∧ v_iv (Value.int x) ≤ 2009 := tv_rng hx
  have e_1 : n_v (vs ++ [Value.int x]) 1 = n_v vs 1 := n_v_old (by rw [hl]; decide)
  have e_2 : n_v (vs ++ [Value.int x]) 2 = n_v vs 2 := n_v_old (by rw [hl]; decide)
  have e_5 : n_v (vs ++ [Value.int x]) 5 = n_v vs 5 := n_v_old (by rw [hl]; decide)
  have e_10 : n_v (vs ++ [Value.int x]) 10 = Value.int x := n_v_new hl
  have nf0 : fc_1 (20, [2], [50, 2, 1, 158, 157, 160, 2, 12, 0, 7, 4, 3, 2, 0, 158, 0, 1, 2, 0, 157, 2, 7, 0, 3, 2, 0, 157, 0, 2010, 3, 14, 1, 10, 3, 0, 160, 5, 3, 2, 0, 157, 0, 1, 0, 0, 1, 10, 3, 0, 160, 5, 3, 2, 0, 157, 0, 1, 0, 4]) ws (vs ++ [Value.int x]) := by
    refine ⟨fun n hn => ?_, ?_⟩
    · have hn : n ∈ [2] := hn
      rw [List.length_append, hl]
      simp only [List.mem_cons, List.not_mem_nil, or_false] at hn
      show n < 10 + 1; omega
    · show ((w_fi ws (n_v (vs ++ [Value.int x]) 2) 158 + 1) ≤ w_fi ws (n_v (vs ++ [Value.int x]) 2) 157) ∧ ((w_fi ws (n_v (vs ++ [Value.int x]) 2) 157 ≤ 2010) ∧ ((w_ei ws (w_ar ws (n_v (vs ++ [Value.int x]) 2) 160) ((w_fi ws (n_v (vs ++ [Value.int x]) 2) 157 - 1)) = 0) ∨ (w_ei ws (w_ar ws (n_v (vs ++ [Value.int x]) 2) 160) ((w_fi ws (n_v (vs ++ [Value.int x]) 2) 157 - 1)) = 4)))
      rw [e_2]
      rw [q2]
      first | omega | grind
  have nf1 : fc_1 (20, [2, 10], [30, 0, 1, 1, 158, -1, 0, 0]) ws (vs ++ [Value.int x]) := by
    refine ⟨fun n hn => ?_, ?_⟩
    · have hn : n ∈ [2, 10] := hn
      rw [List.length_append, hl]
      simp only [List.mem_cons, List.not_mem_nil, or_false] at hn
      show n < 10 + 1; omega
    · show 1 * w_fi ws (n_v (vs ++ [Value.int x]) 2) 158 + ((-1) * v_iv (n_v (vs ++ [Value.int x]) 10) + 0) ≤ 0
      rw [e_2]
      rw [e_10]
      rw [q2]
      omega
  have nf2 : fc_1 (20, [2, 10], [30, 0, -1, 1, 158, 1, 0, 0]) ws (vs ++ [Value.int x]) := by
    refine ⟨fun n hn => ?_, ?_⟩
    · have hn : n ∈ [2, 10] := hn
      rw [List.length_append, hl]
      simp only [List.mem_cons, List.not_mem_nil, or_false] at hn
      show n < 10 + 1; omega
    · show (-1) * w_fi ws (n_v (vs ++ [Value.int x]) 2) 158 + (1 * v_iv (n_v (vs ++ [Value.int x]) 10) + 0) ≤ 0
      rw [e_2]
      rw [e_10]
      rw [q2]
      omega
  have nf3 : fc_1 (20, [2], [50, 2, 0, 164, 165, 4, 7, 1, 3, 2, 0, 164, 0, 0, 0, 3, 2, 0, 165, 0, 23]) ws (vs ++ [Value.int x]) := by
    refine ⟨fun n hn => ?_, ?_⟩
    · have hn : n ∈ [2] := hn
      rw [List.length_append, hl]
      simp only [List.mem_cons, List.not_mem_nil, or_false] at hn
      show n < 10 + 1; omega
    · show (w_fi ws (n_v (vs ++ [Value.int x]) 2) 164 = 0) → (w_fi ws (n_v (vs ++ [Value.int x]) 2) 165 ≤ 23)
      rw [e_2]
      rw [q2]
      first | omega | grind
  have nf4 : fc_1 (20, [2], [30, k, 1, 1, 159]) ws (vs ++ [Value.int x]) := by
    refine ⟨fun n hn => ?_, ?_⟩
    · have hn : n ∈ [2] := hn
      rw [List.length_append, hl]
      simp only [List.mem_cons, List.not_mem_nil, or_false] at hn
      show n < 10 + 1; omega
    · show 1 * w_fi ws (n_v (vs ++ [Value.int x]) 2) 159 + 0 ≤ k
      rw [e_2]
      rw [q2]
      omega
  have nf5 : fc_1 (20, [2], [30, (-k), -1, 1, 159]) ws (vs ++ [Value.int x]) := by
    refine ⟨fun n hn => ?_, ?_⟩
    · have hn : n ∈ [2] := hn
      rw [List.length_append, hl]
      simp only [List.mem_cons, List.not_mem_nil, or_false] at hn
      show n < 10 + 1; omega
    · show (-1) * w_fi ws (n_v (vs ++ [Value.int x]) 2) 159 + 0 ≤ ((-k))
      rw [e_2]
      rw [q2]
      omega
  have nf6 : fc_1 (23, [1, 10], [0, 1, -1]) ws (vs ++ [Value.int x]) := by
    refine ⟨fun n hn => ?_, ?_⟩
    · have hn : n ∈ [1, 10] := hn
      rw [List.length_append, hl]
      simp only [List.mem_cons, List.not_mem_nil, or_false] at hn
      show n < 10 + 1; omega
    · show 1 * v_iv (n_v (vs ++ [Value.int x]) 1) + ((-1) * v_iv (n_v (vs ++ [Value.int x]) 10) + 0) ≤ 0
      rw [e_1]
      rw [e_10]
      omega
  have nf7 : fc_1 (23, [5, 10], [-2011, -1, -1]) ws (vs ++ [Value.int x]) := by
    refine ⟨fun n hn => ?_, ?_⟩
    · have hn : n ∈ [5, 10] := hn
      rw [List.length_append, hl]
      simp only [List.mem_cons, List.not_mem_nil, or_false] at hn
      show n < 10 + 1; omega
    · show (-1) * v_iv (n_v (vs ++ [Value.int x]) 5) + ((-1) * v_iv (n_v (vs ++ [Value.int x]) 10) + 0) ≤ (-2011)
      rw [e_5]
      rw [e_10]
      omega
  exact ⟨(fun _ h => (by cases h)), [Value.int x], ag_one hx, List.forall_mem_cons.mpr ⟨⟨show (20 : Nat) < 100 from by decide, nf0⟩, List.forall_mem_cons.mpr ⟨⟨show (20 : Nat) < 100 from by decide, nf1⟩, List.forall_mem_cons.mpr ⟨⟨show (20 : Nat) < 100 from by decide, nf2⟩, List.forall_mem_cons.mpr ⟨⟨show (20 : Nat) < 100 from by decide, nf3⟩, List.forall_mem_cons.mpr ⟨⟨show (20 : Nat) < 100 from by decide, nf4⟩, List.forall_mem_cons.mpr ⟨⟨show (20 : Nat) < 100 from by decide, nf5⟩, List.forall_mem_cons.mpr ⟨⟨show (23 : Nat) < 100 from by decide, nf6⟩, List.forall_mem_cons.mpr ⟨⟨show (23 : Nat) < 100 from by decide, nf7⟩, (fun _ h => (by cases h))⟩⟩⟩⟩⟩⟩⟩⟩, (fun _ h => (by cases h))⟩
def o_Mo_both_f_5 (k : Int) : or_T := (43, 13, [(0, (2, 0, 0, [150])), (1, (0, 0, 2009, [])), (2, (2, 0, 0, [150])), (4, (0, 0, 2009, [])), (5, (0, 0, 2010, [])), (8, (0, 1, 1, [])), (9, (0, 1, 2009, [])), (10, (0, 0, 2009, []))], [(20, [2], [50, 2, 0, 164, 165, 4, 7, 1, 3, 2, 0, 164, 0, 0, 0, 3, 2, 0, 165, 0, 23]), (23, [1, 10], [0, 1, -1]), (23, [5, 10], [-2011, -1, -1]), (20, [2], [50, 2, 0, 164, 165, 4, 7, 1, 3, 2, 0, 164, 0, 0, 0, 3, 2, 0, 165, 0, 23]), (24, [0, 2], []), (20, [2], [50, 2, 1, 158, 157, 160, 2, 12, 0, 7, 4, 3, 2, 0, 158, 0, 1, 2, 0, 157, 2, 7, 0, 3, 2, 0, 157, 0, 2010, 3, 14, 1, 10, 3, 0, 160, 5, 3, 2, 0, 157, 0, 1, 0, 0, 1, 10, 3, 0, 160, 5, 3, 2, 0, 157, 0, 1, 0, 4]), (20, [10, 2], [30, 0, 1, 0, 0, -1, 1, 158]), (20, [2], [30, k, 1, 1, 159]), (20, [2], [30, (-k), -1, 1, 159]), (102, [10], [0, 13008, 13009, 13158, 13159]), (23, [1, 10], [0, 1, -1]), (23, [5, 10], [-2011, -1, -1]), (101, [2, 9], [158]), (1, [9, 4, 8], [])], [], [(0, 0, 2010, [])], [(20, [2], [50, 2, 1, 158, 157, 160, 2, 12, 0, 7, 4, 3, 2, 0, 158, 0, 1, 2, 0, 157, 2, 7, 0, 3, 2, 0, 157, 0, 2010, 3, 14, 1, 10, 3, 0, 160, 5, 3, 2, 0, 157, 0, 1, 0, 0, 1, 10, 3, 0, 160, 5, 3, 2, 0, 157, 0, 1, 0, 4]), (20, [1, 2], [30, 0, 1, 0, 0, -1, 1, 158]), (20, [2], [50, 2, 0, 164, 165, 4, 7, 1, 3, 2, 0, 164, 0, 0, 0, 3, 2, 0, 165, 0, 23]), (20, [2], [30, k, 1, 1, 159]), (20, [2], [30, (-k), -1, 1, 159]), (20, [13, 2], [30, -2011, -1, 0, 0, -1, 1, 158]), (24, [0, 2], [])], [(13, 5, 0, 0)], [(9, 4, 1, 1), (9, 1, -4294967296, 2010), (1, 4, -4294967296, 2009), (4, 1, -4294967296, 2009)])
theorem oo_Mo_both_f_5 {kA : Nat → ClassId} (k : Int) (hk0 : 0 ≤ k) (hk1 : k ≤ 12) : or_ok kA GG (o_Mo_both_f_5 k) := by
  intro A ta ws vs hD hth hl hk hds hf
  have hl : vs.length = 13 := hl
  have hk : ∀ q ∈ ([(0, (2, 0, 0, [150])), (1, (0, 0, 2009, [])), (2, (2, 0, 0, [150])), (4, (0, 0, 2009, [])), (5, (0, 0, 2010, [])), (8, (0, 1, 1, [])), (9, (0, 1, 2009, [])), (10, (0, 0, 2009, []))] : List (Nat × tv_T)), tv_ok ta q.2 (n_v vs q.1) := hk
  obtain ⟨t0, hk⟩ := List.forall_mem_cons.mp hk
  have t0 : tv_ok ta (2, 0, 0, [150]) (n_v vs 0) := t0
  have r0 : ta (v_ad (n_v vs 0)) = some 150 := tv_rg t0
  obtain ⟨t1, hk⟩ := List.forall_mem_cons.mp hk
  have t1 : tv_ok ta (0, 0, 2009, []) (n_v vs 1) := t1
  have k1 : 0 ≤ v_iv (n_v vs 1) ∧ v_iv (n_v vs 1) ≤ 2009 := tv_rng t1
  obtain ⟨t2, hk⟩ := List.forall_mem_cons.mp hk
  have t2 : tv_ok ta (2, 0, 0, [150]) (n_v vs 2) := t2
  have r2 : ta (v_ad (n_v vs 2)) = some 150 := tv_rg t2
  obtain ⟨t4, hk⟩ := List.forall_mem_cons.mp hk
  have t4 : tv_ok ta (0, 0, 2009, []) (n_v vs 4) := t4
  have k4 : 0 ≤ v_iv (n_v vs 4) ∧ v_iv (n_v vs 4) ≤ 2009 := tv_rng t4
  obtain ⟨t5, hk⟩ := List.forall_mem_cons.mp hk
  have t5 : tv_ok ta (0, 0, 2010, []) (n_v vs 5) := t5
  have k5 : 0 ≤ v_iv (n_v vs 5) ∧ v_iv (n_v vs 5) ≤ 2010 := tv_rng t5
  obtain ⟨t8, hk⟩ := List.forall_mem_cons.mp hk
  have t8 : tv_ok ta (0, 1, 1, []) (n_v vs 8) := t8
  have k8 : 1 ≤ v_iv (n_v vs 8) ∧ v_iv (n_v vs 8) ≤ 1 := tv_rng t8
  obtain ⟨t9, hk⟩ := List.forall_mem_cons.mp hk
  have t9 : tv_ok ta (0, 1, 2009, []) (n_v vs 9) := t9
  have k9 : 1 ≤ v_iv (n_v vs 9) ∧ v_iv (n_v vs 9) ≤ 2009 := tv_rng t9
  obtain ⟨t10, hk⟩ := List.forall_mem_cons.mp hk
  have t10 : tv_ok ta (0, 0, 2009, []) (n_v vs 10) := t10
  have k10 : 0 ≤ v_iv (n_v vs 10) ∧ v_iv (n_v vs 10) ≤ 2009 := tv_rng t10
  have hds : ∀ q ∈ ([(9, 4, 1, 1), (9, 1, -4294967296, 2010), (1, 4, -4294967296, 2009), (4, 1, -4294967296, 2009)] : List of_T), n_iv vs q.2.1 + q.2.2.1 ≤ n_iv vs q.1 ∧ n_iv vs q.1 ≤ n_iv vs q.2.1 + q.2.2.2 := hds
  obtain ⟨d0, hds⟩ := List.forall_mem_cons.mp hds
  have d0 : v_iv (n_v vs 4) + 1 ≤ v_iv (n_v vs 9) ∧ v_iv (n_v vs 9) ≤ v_iv (n_v vs 4) + 1 := d0
  obtain ⟨d1, hds⟩ := List.forall_mem_cons.mp hds
  have d1 : v_iv (n_v vs 1) + (-4294967296) ≤ v_iv (n_v vs 9) ∧ v_iv (n_v vs 9) ≤ v_iv (n_v vs 1) + 2010 := d1
  obtain ⟨d2, hds⟩ := List.forall_mem_cons.mp hds
  have d2 : v_iv (n_v vs 4) + (-4294967296) ≤ v_iv (n_v vs 1) ∧ v_iv (n_v vs 1) ≤ v_iv (n_v vs 4) + 2009 := d2
  obtain ⟨d3, hds⟩ := List.forall_mem_cons.mp hds
  have d3 : v_iv (n_v vs 1) + (-4294967296) ≤ v_iv (n_v vs 4) ∧ v_iv (n_v vs 4) ≤ v_iv (n_v vs 1) + 2009 := d3
  have hf : fc_ok [(20, [2], [50, 2, 0, 164, 165, 4, 7, 1, 3, 2, 0, 164, 0, 0, 0, 3, 2, 0, 165, 0, 23]), (23, [1, 10], [0, 1, -1]), (23, [5, 10], [-2011, -1, -1]), (20, [2], [50, 2, 0, 164, 165, 4, 7, 1, 3, 2, 0, 164, 0, 0, 0, 3, 2, 0, 165, 0, 23]), (24, [0, 2], []), (20, [2], [50, 2, 1, 158, 157, 160, 2, 12, 0, 7, 4, 3, 2, 0, 158, 0, 1, 2, 0, 157, 2, 7, 0, 3, 2, 0, 157, 0, 2010, 3, 14, 1, 10, 3, 0, 160, 5, 3, 2, 0, 157, 0, 1, 0, 0, 1, 10, 3, 0, 160, 5, 3, 2, 0, 157, 0, 1, 0, 4]), (20, [10, 2], [30, 0, 1, 0, 0, -1, 1, 158]), (20, [2], [30, k, 1, 1, 159]), (20, [2], [30, (-k), -1, 1, 159]), (102, [10], [0, 13008, 13009, 13158, 13159]), (23, [1, 10], [0, 1, -1]), (23, [5, 10], [-2011, -1, -1]), (101, [2, 9], [158]), (1, [9, 4, 8], [])] ta ws vs := hf
  obtain ⟨f0, hf⟩ := fc_un (show (20 : Nat) < 100 from by decide) hf
  have f0 : (w_fi ws (n_v vs 2) 164 = 0) → (w_fi ws (n_v vs 2) 165 ≤ 23) := f0
  obtain ⟨f1, hf⟩ := fc_un (show (23 : Nat) < 100 from by decide) hf
  have f1 : 1 * v_iv (n_v vs 1) + ((-1) * v_iv (n_v vs 10) + 0) ≤ 0 := f1
  obtain ⟨f2, hf⟩ := fc_un (show (23 : Nat) < 100 from by decide) hf
  have f2 : (-1) * v_iv (n_v vs 5) + ((-1) * v_iv (n_v vs 10) + 0) ≤ (-2011) := f2
  obtain ⟨f3, hf⟩ := fc_un (show (20 : Nat) < 100 from by decide) hf
  have f3 : (w_fi ws (n_v vs 2) 164 = 0) → (w_fi ws (n_v vs 2) 165 ≤ 23) := f3
  obtain ⟨f4, hf⟩ := fc_un (show (24 : Nat) < 100 from by decide) hf
  have f4 : n_v vs 0 = n_v vs 2 := f4
  obtain ⟨f5, hf⟩ := fc_un (show (20 : Nat) < 100 from by decide) hf
  have f5 : ((w_fi ws (n_v vs 2) 158 + 1) ≤ w_fi ws (n_v vs 2) 157) ∧ ((w_fi ws (n_v vs 2) 157 ≤ 2010) ∧ ((w_ei ws (w_ar ws (n_v vs 2) 160) ((w_fi ws (n_v vs 2) 157 - 1)) = 0) ∨ (w_ei ws (w_ar ws (n_v vs 2) 160) ((w_fi ws (n_v vs 2) 157 - 1)) = 4))) := f5
  obtain ⟨f6, hf⟩ := fc_un (show (20 : Nat) < 100 from by decide) hf
  have f6 : 1 * v_iv (n_v vs 10) + ((-1) * w_fi ws (n_v vs 2) 158 + 0) ≤ 0 := f6
  obtain ⟨f7, hf⟩ := fc_un (show (20 : Nat) < 100 from by decide) hf
  have f7 : 1 * w_fi ws (n_v vs 2) 159 + 0 ≤ k := f7
  obtain ⟨f8, hf⟩ := fc_un (show (20 : Nat) < 100 from by decide) hf
  have f8 : (-1) * w_fi ws (n_v vs 2) 159 + 0 ≤ ((-k)) := f8
  obtain ⟨ta1, w1, le1, ⟨_, s1⟩, hf⟩ := fc_us (show ¬ (102 : Nat) < 100 from by decide) hf
  obtain ⟨f10, hf⟩ := fc_un (show (23 : Nat) < 100 from by decide) hf
  have f10 : 1 * v_iv (n_v vs 1) + ((-1) * v_iv (n_v vs 10) + 0) ≤ 0 := f10
  obtain ⟨f11, hf⟩ := fc_un (show (23 : Nat) < 100 from by decide) hf
  have f11 : (-1) * v_iv (n_v vs 5) + ((-1) * v_iv (n_v vs 10) + 0) ≤ (-2011) := f11
  obtain ⟨ta2, w2, le2, ⟨_, s2⟩, hf⟩ := fc_us (show ¬ (101 : Nat) < 100 from by decide) hf
  have s2 : (∀ b j, w_el w1 b j = w_el w2 b j) ∧ ∀ b j, w_fd w1 b j = if b = v_ad (n_v vs 2) ∧ j = 158 then n_v vs 9 else w_fd w2 b j := s2
  obtain ⟨f13, hf⟩ := fc_un (show (1 : Nat) < 100 from by decide) hf
  have f13 : v_iv (n_v vs 9) = v_iv (n_v vs 4) + v_iv (n_v vs 8) := f13
  have q2 : n_v vs 2 = n_v vs 0 := f4.symm
  rw [q2] at f0
  rw [q2] at f3
  rw [q2] at f5
  rw [q2] at f6
  rw [q2] at f7
  rw [q2] at f8
  rw [q2] at s2
  have cr_0_160 : ta (w_ar ws (n_v vs 0) 160) = some 259 := tv_rg (th_fd hD hth r0 (g := GG_150) rfl (k := 160) (t := (2, 0, 0, [259])) rfl rfl)
  have hK_0_160 : ∀ j : Int, 0 ≤ j → j < 2010 → 0 ≤ w_ei ws (w_ar ws (n_v vs 0) 160) j ∧ w_ei ws (w_ar ws (n_v vs 0) 160) j ≤ 4 := fun j h0 h1 => th_el hD hth cr_0_160 (kd := 0) (n := 2010) (m := 2010) (lo := 0) (hi := 4) (rs := []) (L := []) rfl (by decide) (j := j.toNat) (by omega)
  have kz_0_157 : 0 ≤ w_fi ws (n_v vs 0) 157 ∧ w_fi ws (n_v vs 0) 157 ≤ 2010 := tv_rng (th_fd hD hth r0 (g := GG_150) rfl (k := 157) (t := (0, 0, 2010, [])) rfl rfl)
  have kz_0_158 : 0 ≤ w_fi ws (n_v vs 0) 158 ∧ w_fi ws (n_v vs 0) 158 ≤ 2009 := tv_rng (th_fd hD hth r0 (g := GG_150) rfl (k := 158) (t := (0, 0, 2009, [])) rfl rfl)
  have kz_0_159 : 0 ≤ w_fi ws (n_v vs 0) 159 ∧ w_fi ws (n_v vs 0) 159 ≤ 13 := tv_rng (th_fd hD hth r0 (g := GG_150) rfl (k := 159) (t := (0, 0, 13, [])) rfl rfl)
  have kz_0_164 : 0 ≤ w_fi ws (n_v vs 0) 164 ∧ w_fi ws (n_v vs 0) 164 ≤ 1 := tv_rng (th_fd hD hth r0 (g := GG_150) rfl (k := 164) (t := (0, 0, 1, [])) rfl rfl)
  have kz_0_165 : (-1) ≤ w_fi ws (n_v vs 0) 165 ∧ w_fi ws (n_v vs 0) 165 ≤ 47 := tv_rng (th_fd hD hth r0 (g := GG_150) rfl (k := 165) (t := (0, -1, 47, [])) rfl rfl)
  obtain ⟨x, ex, hx⟩ := iv_ex (ta := ta) (lo := 0) (hi := 2010) (z := 0 + (1 * v_iv (n_v vs 5) + 0)) (by omega) (by omega) (by omega) (by omega)
  have ex2 : v_iv (Value.int x) = 0 + (1 * v_iv (n_v vs 5) + 0) := ex
  have ex3 : 0 ≤ v_iv (Value.int x) ∧ v_iv (Value.int x) ≤ 2010 := tv_rng hx
  have e_0 : n_v (vs ++ [Value.int x]) 0 = n_v vs 0 := n_v_old (by rw [hl]; decide)
  have e_1 : n_v (vs ++ [Value.int x]) 1 = n_v vs 1 := n_v_old (by rw [hl]; decide)
  have e_2 : n_v (vs ++ [Value.int x]) 2 = n_v vs 2 := n_v_old (by rw [hl]; decide)
  have e_13 : n_v (vs ++ [Value.int x]) 13 = Value.int x := n_v_new hl
  have nf0 : fc_1 (20, [2], [50, 2, 1, 158, 157, 160, 2, 12, 0, 7, 4, 3, 2, 0, 158, 0, 1, 2, 0, 157, 2, 7, 0, 3, 2, 0, 157, 0, 2010, 3, 14, 1, 10, 3, 0, 160, 5, 3, 2, 0, 157, 0, 1, 0, 0, 1, 10, 3, 0, 160, 5, 3, 2, 0, 157, 0, 1, 0, 4]) ws (vs ++ [Value.int x]) := by
    refine ⟨fun n hn => ?_, ?_⟩
    · have hn : n ∈ [2] := hn
      rw [List.length_append, hl]
      simp only [List.mem_cons, List.not_mem_nil, or_false] at hn
      show n < 13 + 1; omega
    · show ((w_fi ws (n_v (vs ++ [Value.int x]) 2) 158 + 1) ≤ w_fi ws (n_v (vs ++ [Value.int x]) 2) 157) ∧ ((w_fi ws (n_v (vs ++ [Value.int x]) 2) 157 ≤ 2010) ∧ ((w_ei ws (w_ar ws (n_v (vs ++ [Value.int x]) 2) 160) ((w_fi ws (n_v (vs ++ [Value.int x]) 2) 157 - 1)) = 0) ∨ (w_ei ws (w_ar ws (n_v (vs ++ [Value.int x]) 2) 160) ((w_fi ws (n_v (vs ++ [Value.int x]) 2) 157 - 1)) = 4)))
      rw [e_2]
      rw [q2]
      first | omega | grind
  have nf1 : fc_1 (20, [1, 2], [30, 0, 1, 0, 0, -1, 1, 158]) ws (vs ++ [Value.int x]) := by
    refine ⟨fun n hn => ?_, ?_⟩
    · have hn : n ∈ [1, 2] := hn
      rw [List.length_append, hl]
      simp only [List.mem_cons, List.not_mem_nil, or_false] at hn
      show n < 13 + 1; omega
    · show 1 * v_iv (n_v (vs ++ [Value.int x]) 1) + ((-1) * w_fi ws (n_v (vs ++ [Value.int x]) 2) 158 + 0) ≤ 0
      rw [e_1]
      rw [e_2]
      rw [q2]
      omega
  have nf2 : fc_1 (20, [2], [50, 2, 0, 164, 165, 4, 7, 1, 3, 2, 0, 164, 0, 0, 0, 3, 2, 0, 165, 0, 23]) ws (vs ++ [Value.int x]) := by
    refine ⟨fun n hn => ?_, ?_⟩
    · have hn : n ∈ [2] := hn
      rw [List.length_append, hl]
      simp only [List.mem_cons, List.not_mem_nil, or_false] at hn
      show n < 13 + 1; omega
    · show (w_fi ws (n_v (vs ++ [Value.int x]) 2) 164 = 0) → (w_fi ws (n_v (vs ++ [Value.int x]) 2) 165 ≤ 23)
      rw [e_2]
      rw [q2]
      first | omega | grind
  have nf3 : fc_1 (20, [2], [30, k, 1, 1, 159]) ws (vs ++ [Value.int x]) := by
    refine ⟨fun n hn => ?_, ?_⟩
    · have hn : n ∈ [2] := hn
      rw [List.length_append, hl]
      simp only [List.mem_cons, List.not_mem_nil, or_false] at hn
      show n < 13 + 1; omega
    · show 1 * w_fi ws (n_v (vs ++ [Value.int x]) 2) 159 + 0 ≤ k
      rw [e_2]
      rw [q2]
      omega
  have nf4 : fc_1 (20, [2], [30, (-k), -1, 1, 159]) ws (vs ++ [Value.int x]) := by
    refine ⟨fun n hn => ?_, ?_⟩
    · have hn : n ∈ [2] := hn
      rw [List.length_append, hl]
      simp only [List.mem_cons, List.not_mem_nil, or_false] at hn
      show n < 13 + 1; omega
    · show (-1) * w_fi ws (n_v (vs ++ [Value.int x]) 2) 159 + 0 ≤ ((-k))
      rw [e_2]
      rw [q2]
      omega
  have nf5 : fc_1 (20, [13, 2], [30, -2011, -1, 0, 0, -1, 1, 158]) ws (vs ++ [Value.int x]) := by
    refine ⟨fun n hn => ?_, ?_⟩
    · have hn : n ∈ [13, 2] := hn
      rw [List.length_append, hl]
      simp only [List.mem_cons, List.not_mem_nil, or_false] at hn
      show n < 13 + 1; omega
    · show (-1) * v_iv (n_v (vs ++ [Value.int x]) 13) + ((-1) * w_fi ws (n_v (vs ++ [Value.int x]) 2) 158 + 0) ≤ (-2011)
      rw [e_2]
      rw [e_13]
      rw [q2]
      omega
  have nf6 : fc_1 (24, [0, 2], []) ws (vs ++ [Value.int x]) := by
    refine ⟨fun n hn => ?_, ?_⟩
    · have hn : n ∈ [0, 2] := hn
      rw [List.length_append, hl]
      simp only [List.mem_cons, List.not_mem_nil, or_false] at hn
      show n < 13 + 1; omega
    · show n_v (vs ++ [Value.int x]) 0 = n_v (vs ++ [Value.int x]) 2
      first | rfl | simp only [e_0, e_2, q2]
  obtain ⟨x0, e0, _, _⟩ := tv_int t5 rfl
  have e1 : v_iv (n_v vs 5) = x0.toInt := by rw [e0]; rfl
  have ho : sy_ofs (vs ++ [Value.int x]) (13, 5, 0, 0) := by
    refine ⟨x, x0, by rw [List.getElem?_append_right (by rw [hl]; decide), hl]; rfl, ?_, ?_, ?_⟩
    · rw [List.getElem?_append_left (by rw [hl]; decide)]; exact n_v_some (by rw [hl]; decide) e0
    · show x0.toInt + 0 ≤ x.toInt; omega
    · show x.toInt ≤ x0.toInt + 0; omega
  exact ⟨(fun _ h => (by cases h)), [Value.int x], ag_one hx, List.forall_mem_cons.mpr ⟨⟨show (20 : Nat) < 100 from by decide, nf0⟩, List.forall_mem_cons.mpr ⟨⟨show (20 : Nat) < 100 from by decide, nf1⟩, List.forall_mem_cons.mpr ⟨⟨show (20 : Nat) < 100 from by decide, nf2⟩, List.forall_mem_cons.mpr ⟨⟨show (20 : Nat) < 100 from by decide, nf3⟩, List.forall_mem_cons.mpr ⟨⟨show (20 : Nat) < 100 from by decide, nf4⟩, List.forall_mem_cons.mpr ⟨⟨show (20 : Nat) < 100 from by decide, nf5⟩, List.forall_mem_cons.mpr ⟨⟨show (24 : Nat) < 100 from by decide, nf6⟩, (fun _ h => (by cases h))⟩⟩⟩⟩⟩⟩⟩, List.forall_mem_cons.mpr ⟨ho, (fun _ h => (by cases h))⟩⟩
def o_Mo_both_f_6 (k : Int) : or_T := (5, 7, [(0, (2, 0, 0, [150])), (1, (0, 0, 2009, [])), (2, (2, 0, 0, [150])), (6, (0, 0, 2010, []))], [(20, [2], [50, 2, 1, 158, 157, 160, 2, 12, 0, 7, 4, 3, 2, 0, 158, 0, 1, 2, 0, 157, 2, 7, 0, 3, 2, 0, 157, 0, 2010, 3, 14, 1, 10, 3, 0, 160, 5, 3, 2, 0, 157, 0, 1, 0, 0, 1, 10, 3, 0, 160, 5, 3, 2, 0, 157, 0, 1, 0, 4]), (20, [1, 2], [30, 0, 1, 0, 0, -1, 1, 158]), (20, [2], [50, 2, 0, 164, 165, 4, 7, 1, 3, 2, 0, 164, 0, 0, 0, 3, 2, 0, 165, 0, 23]), (20, [2], [30, k, 1, 1, 159]), (20, [2], [30, (-k), -1, 1, 159]), (20, [6, 2], [30, -2011, -1, 0, 0, -1, 1, 158]), (24, [0, 2], [])], [], [(0, 0, 2010, [])], [(20, [2], [50, 2, 1, 158, 157, 160, 2, 12, 0, 7, 4, 3, 2, 0, 158, 0, 1, 2, 0, 157, 2, 7, 0, 3, 2, 0, 157, 0, 2010, 3, 14, 1, 10, 3, 0, 160, 5, 3, 2, 0, 157, 0, 1, 0, 0, 1, 10, 3, 0, 160, 5, 3, 2, 0, 157, 0, 1, 0, 4]), (20, [1, 2], [30, 0, 1, 0, 0, -1, 1, 158]), (20, [2], [50, 2, 0, 164, 165, 4, 7, 1, 3, 2, 0, 164, 0, 0, 0, 3, 2, 0, 165, 0, 23]), (20, [2], [30, k, 1, 1, 159]), (20, [2], [30, (-k), -1, 1, 159]), (24, [0, 2], []), (20, [7, 2], [30, 2010, 1, 0, 0, 1, 1, 158]), (20, [7, 2], [30, -2010, -1, 0, 0, -1, 1, 158])], [(7, 6, -1000000000000, -1)], [])
theorem oo_Mo_both_f_6 {kA : Nat → ClassId} (k : Int) (hk0 : 0 ≤ k) (hk1 : k ≤ 12) : or_ok kA GG (o_Mo_both_f_6 k) := by
  intro A ta ws vs hD hth hl hk hds hf
  have hl : vs.length = 7 := hl
  have hk : ∀ q ∈ ([(0, (2, 0, 0, [150])), (1, (0, 0, 2009, [])), (2, (2, 0, 0, [150])), (6, (0, 0, 2010, []))] : List (Nat × tv_T)), tv_ok ta q.2 (n_v vs q.1) := hk
  obtain ⟨t0, hk⟩ := List.forall_mem_cons.mp hk
  have t0 : tv_ok ta (2, 0, 0, [150]) (n_v vs 0) := t0
  have r0 : ta (v_ad (n_v vs 0)) = some 150 := tv_rg t0
  obtain ⟨t1, hk⟩ := List.forall_mem_cons.mp hk
  have t1 : tv_ok ta (0, 0, 2009, []) (n_v vs 1) := t1
  have k1 : 0 ≤ v_iv (n_v vs 1) ∧ v_iv (n_v vs 1) ≤ 2009 := tv_rng t1
  obtain ⟨t2, hk⟩ := List.forall_mem_cons.mp hk
  have t2 : tv_ok ta (2, 0, 0, [150]) (n_v vs 2) := t2
  have r2 : ta (v_ad (n_v vs 2)) = some 150 := tv_rg t2
  obtain ⟨t6, hk⟩ := List.forall_mem_cons.mp hk
  have t6 : tv_ok ta (0, 0, 2010, []) (n_v vs 6) := t6
  have k6 : 0 ≤ v_iv (n_v vs 6) ∧ v_iv (n_v vs 6) ≤ 2010 := tv_rng t6
  have hf : fc_ok [(20, [2], [50, 2, 1, 158, 157, 160, 2, 12, 0, 7, 4, 3, 2, 0, 158, 0, 1, 2, 0, 157, 2, 7, 0, 3, 2, 0, 157, 0, 2010, 3, 14, 1, 10, 3, 0, 160, 5, 3, 2, 0, 157, 0, 1, 0, 0, 1, 10, 3, 0, 160, 5, 3, 2, 0, 157, 0, 1, 0, 4]), (20, [1, 2], [30, 0, 1, 0, 0, -1, 1, 158]), (20, [2], [50, 2, 0, 164, 165, 4, 7, 1, 3, 2, 0, 164, 0, 0, 0, 3, 2, 0, 165, 0, 23]), (20, [2], [30, k, 1, 1, 159]), (20, [2], [30, (-k), -1, 1, 159]), (20, [6, 2], [30, -2011, -1, 0, 0, -1, 1, 158]), (24, [0, 2], [])] ta ws vs := hf
  obtain ⟨f0, hf⟩ := fc_un (show (20 : Nat) < 100 from by decide) hf
  have f0 : ((w_fi ws (n_v vs 2) 158 + 1) ≤ w_fi ws (n_v vs 2) 157) ∧ ((w_fi ws (n_v vs 2) 157 ≤ 2010) ∧ ((w_ei ws (w_ar ws (n_v vs 2) 160) ((w_fi ws (n_v vs 2) 157 - 1)) = 0) ∨ (w_ei ws (w_ar ws (n_v vs 2) 160) ((w_fi ws (n_v vs 2) 157 - 1)) = 4))) := f0
  obtain ⟨f1, hf⟩ := fc_un (show (20 : Nat) < 100 from by decide) hf
  have f1 : 1 * v_iv (n_v vs 1) + ((-1) * w_fi ws (n_v vs 2) 158 + 0) ≤ 0 := f1
  obtain ⟨f2, hf⟩ := fc_un (show (20 : Nat) < 100 from by decide) hf
  have f2 : (w_fi ws (n_v vs 2) 164 = 0) → (w_fi ws (n_v vs 2) 165 ≤ 23) := f2
  obtain ⟨f3, hf⟩ := fc_un (show (20 : Nat) < 100 from by decide) hf
  have f3 : 1 * w_fi ws (n_v vs 2) 159 + 0 ≤ k := f3
  obtain ⟨f4, hf⟩ := fc_un (show (20 : Nat) < 100 from by decide) hf
  have f4 : (-1) * w_fi ws (n_v vs 2) 159 + 0 ≤ ((-k)) := f4
  obtain ⟨f5, hf⟩ := fc_un (show (20 : Nat) < 100 from by decide) hf
  have f5 : (-1) * v_iv (n_v vs 6) + ((-1) * w_fi ws (n_v vs 2) 158 + 0) ≤ (-2011) := f5
  obtain ⟨f6, hf⟩ := fc_un (show (24 : Nat) < 100 from by decide) hf
  have f6 : n_v vs 0 = n_v vs 2 := f6
  have q2 : n_v vs 2 = n_v vs 0 := f6.symm
  rw [q2] at f0
  rw [q2] at f1
  rw [q2] at f2
  rw [q2] at f3
  rw [q2] at f4
  rw [q2] at f5
  have cr_0_160 : ta (w_ar ws (n_v vs 0) 160) = some 259 := tv_rg (th_fd hD hth r0 (g := GG_150) rfl (k := 160) (t := (2, 0, 0, [259])) rfl rfl)
  have hK_0_160 : ∀ j : Int, 0 ≤ j → j < 2010 → 0 ≤ w_ei ws (w_ar ws (n_v vs 0) 160) j ∧ w_ei ws (w_ar ws (n_v vs 0) 160) j ≤ 4 := fun j h0 h1 => th_el hD hth cr_0_160 (kd := 0) (n := 2010) (m := 2010) (lo := 0) (hi := 4) (rs := []) (L := []) rfl (by decide) (j := j.toNat) (by omega)
  have kz_0_157 : 0 ≤ w_fi ws (n_v vs 0) 157 ∧ w_fi ws (n_v vs 0) 157 ≤ 2010 := tv_rng (th_fd hD hth r0 (g := GG_150) rfl (k := 157) (t := (0, 0, 2010, [])) rfl rfl)
  have kz_0_158 : 0 ≤ w_fi ws (n_v vs 0) 158 ∧ w_fi ws (n_v vs 0) 158 ≤ 2009 := tv_rng (th_fd hD hth r0 (g := GG_150) rfl (k := 158) (t := (0, 0, 2009, [])) rfl rfl)
  have kz_0_159 : 0 ≤ w_fi ws (n_v vs 0) 159 ∧ w_fi ws (n_v vs 0) 159 ≤ 13 := tv_rng (th_fd hD hth r0 (g := GG_150) rfl (k := 159) (t := (0, 0, 13, [])) rfl rfl)
  have kz_0_164 : 0 ≤ w_fi ws (n_v vs 0) 164 ∧ w_fi ws (n_v vs 0) 164 ≤ 1 := tv_rng (th_fd hD hth r0 (g := GG_150) rfl (k := 164) (t := (0, 0, 1, [])) rfl rfl)
  have kz_0_165 : (-1) ≤ w_fi ws (n_v vs 0) 165 ∧ w_fi ws (n_v vs 0) 165 ≤ 47 := tv_rng (th_fd hD hth r0 (g := GG_150) rfl (k := 165) (t := (0, -1, 47, [])) rfl rfl)
  have kb_0_158 : 0 ≤ w_fi ws (n_v vs 0) 158 ∧ w_fi ws (n_v vs 0) 158 ≤ 2009 := tv_rng (th_fd hD hth r0 (g := GG_150) rfl (k := 158) (t := (0, 0, 2009, [])) rfl rfl)
  obtain ⟨x, ex, hx⟩ := iv_ex (ta := ta) (lo := 0) (hi := 2010) (z := 2010 + ((-1) * w_fi ws (n_v vs 0) 158 + 0)) (by omega) (by omega) (by omega) (by omega)
  have ex2 : v_iv (Value.int x) = 2010 + ((-1) * w_fi ws (n_v vs 0) 158 + 0) := ex
  have ex3 : 0 ≤ v_iv (Value.int x) ∧ v_iv (Value.int x) ≤ 2010 := tv_rng hx
  have e_0 : n_v (vs ++ [Value.int x]) 0 = n_v vs 0 := n_v_old (by rw [hl]; decide)
  have e_1 : n_v (vs ++ [Value.int x]) 1 = n_v vs 1 := n_v_old (by rw [hl]; decide)
  have e_2 : n_v (vs ++ [Value.int x]) 2 = n_v vs 2 := n_v_old (by rw [hl]; decide)
  have e_7 : n_v (vs ++ [Value.int x]) 7 = Value.int x := n_v_new hl
  have nf0 : fc_1 (20, [2], [50, 2, 1, 158, 157, 160, 2, 12, 0, 7, 4, 3, 2, 0, 158, 0, 1, 2, 0, 157, 2, 7, 0, 3, 2, 0, 157, 0, 2010, 3, 14, 1, 10, 3, 0, 160, 5, 3, 2, 0, 157, 0, 1, 0, 0, 1, 10, 3, 0, 160, 5, 3, 2, 0, 157, 0, 1, 0, 4]) ws (vs ++ [Value.int x]) := by
    refine ⟨fun n hn => ?_, ?_⟩
    · have hn : n ∈ [2] := hn
      rw [List.length_append, hl]
      simp only [List.mem_cons, List.not_mem_nil, or_false] at hn
      show n < 7 + 1; omega
    · show ((w_fi ws (n_v (vs ++ [Value.int x]) 2) 158 + 1) ≤ w_fi ws (n_v (vs ++ [Value.int x]) 2) 157) ∧ ((w_fi ws (n_v (vs ++ [Value.int x]) 2) 157 ≤ 2010) ∧ ((w_ei ws (w_ar ws (n_v (vs ++ [Value.int x]) 2) 160) ((w_fi ws (n_v (vs ++ [Value.int x]) 2) 157 - 1)) = 0) ∨ (w_ei ws (w_ar ws (n_v (vs ++ [Value.int x]) 2) 160) ((w_fi ws (n_v (vs ++ [Value.int x]) 2) 157 - 1)) = 4)))
      rw [e_2]
      rw [q2]
      first | omega | grind
  have nf1 : fc_1 (20, [1, 2], [30, 0, 1, 0, 0, -1, 1, 158]) ws (vs ++ [Value.int x]) := by
    refine ⟨fun n hn => ?_, ?_⟩
    · have hn : n ∈ [1, 2] := hn
      rw [List.length_append, hl]
      simp only [List.mem_cons, List.not_mem_nil, or_false] at hn
      show n < 7 + 1; omega
    · show 1 * v_iv (n_v (vs ++ [Value.int x]) 1) + ((-1) * w_fi ws (n_v (vs ++ [Value.int x]) 2) 158 + 0) ≤ 0
      rw [e_1]
      rw [e_2]
      rw [q2]
      omega
  have nf2 : fc_1 (20, [2], [50, 2, 0, 164, 165, 4, 7, 1, 3, 2, 0, 164, 0, 0, 0, 3, 2, 0, 165, 0, 23]) ws (vs ++ [Value.int x]) := by
    refine ⟨fun n hn => ?_, ?_⟩
    · have hn : n ∈ [2] := hn
      rw [List.length_append, hl]
      simp only [List.mem_cons, List.not_mem_nil, or_false] at hn
      show n < 7 + 1; omega
    · show (w_fi ws (n_v (vs ++ [Value.int x]) 2) 164 = 0) → (w_fi ws (n_v (vs ++ [Value.int x]) 2) 165 ≤ 23)
      rw [e_2]
      rw [q2]
      first | omega | grind
  have nf3 : fc_1 (20, [2], [30, k, 1, 1, 159]) ws (vs ++ [Value.int x]) := by
    refine ⟨fun n hn => ?_, ?_⟩
    · have hn : n ∈ [2] := hn
      rw [List.length_append, hl]
      simp only [List.mem_cons, List.not_mem_nil, or_false] at hn
      show n < 7 + 1; omega
    · show 1 * w_fi ws (n_v (vs ++ [Value.int x]) 2) 159 + 0 ≤ k
      rw [e_2]
      rw [q2]
      omega
  have nf4 : fc_1 (20, [2], [30, (-k), -1, 1, 159]) ws (vs ++ [Value.int x]) := by
    refine ⟨fun n hn => ?_, ?_⟩
    · have hn : n ∈ [2] := hn
      rw [List.length_append, hl]
      simp only [List.mem_cons, List.not_mem_nil, or_false] at hn
      show n < 7 + 1; omega
    · show (-1) * w_fi ws (n_v (vs ++ [Value.int x]) 2) 159 + 0 ≤ ((-k))
      rw [e_2]
      rw [q2]
      omega
  have nf5 : fc_1 (24, [0, 2], []) ws (vs ++ [Value.int x]) := by
    refine ⟨fun n hn => ?_, ?_⟩
    · have hn : n ∈ [0, 2] := hn
      rw [List.length_append, hl]
      simp only [List.mem_cons, List.not_mem_nil, or_false] at hn
      show n < 7 + 1; omega
    · show n_v (vs ++ [Value.int x]) 0 = n_v (vs ++ [Value.int x]) 2
      first | rfl | simp only [e_0, e_2, q2]
  have nf6 : fc_1 (20, [7, 2], [30, 2010, 1, 0, 0, 1, 1, 158]) ws (vs ++ [Value.int x]) := by
    refine ⟨fun n hn => ?_, ?_⟩
    · have hn : n ∈ [7, 2] := hn
      rw [List.length_append, hl]
      simp only [List.mem_cons, List.not_mem_nil, or_false] at hn
      show n < 7 + 1; omega
    · show 1 * v_iv (n_v (vs ++ [Value.int x]) 7) + (1 * w_fi ws (n_v (vs ++ [Value.int x]) 2) 158 + 0) ≤ 2010
      rw [e_2]
      rw [e_7]
      rw [q2]
      omega
  have nf7 : fc_1 (20, [7, 2], [30, -2010, -1, 0, 0, -1, 1, 158]) ws (vs ++ [Value.int x]) := by
    refine ⟨fun n hn => ?_, ?_⟩
    · have hn : n ∈ [7, 2] := hn
      rw [List.length_append, hl]
      simp only [List.mem_cons, List.not_mem_nil, or_false] at hn
      show n < 7 + 1; omega
    · show (-1) * v_iv (n_v (vs ++ [Value.int x]) 7) + ((-1) * w_fi ws (n_v (vs ++ [Value.int x]) 2) 158 + 0) ≤ (-2010)
      rw [e_2]
      rw [e_7]
      rw [q2]
      omega
  obtain ⟨x0, e0, _, _⟩ := tv_int t6 rfl
  have e1 : v_iv (n_v vs 6) = x0.toInt := by rw [e0]; rfl
  have ho : sy_ofs (vs ++ [Value.int x]) (7, 6, -1000000000000, -1) := by
    refine ⟨x, x0, by rw [List.getElem?_append_right (by rw [hl]; decide), hl]; rfl, ?_, ?_, ?_⟩
    · rw [List.getElem?_append_left (by rw [hl]; decide)]; exact n_v_some (by rw [hl]; decide) e0
    · show x0.toInt + (-1000000000000) ≤ x.toInt; omega
    · show x.toInt ≤ x0.toInt + (-1); omega
  exact ⟨(fun _ h => (by cases h)), [Value.int x], ag_one hx, List.forall_mem_cons.mpr ⟨⟨show (20 : Nat) < 100 from by decide, nf0⟩, List.forall_mem_cons.mpr ⟨⟨show (20 : Nat) < 100 from by decide, nf1⟩, List.forall_mem_cons.mpr ⟨⟨show (20 : Nat) < 100 from by decide, nf2⟩, List.forall_mem_cons.mpr ⟨⟨show (20 : Nat) < 100 from by decide, nf3⟩, List.forall_mem_cons.mpr ⟨⟨show (20 : Nat) < 100 from by decide, nf4⟩, List.forall_mem_cons.mpr ⟨⟨show (24 : Nat) < 100 from by decide, nf5⟩, List.forall_mem_cons.mpr ⟨⟨show (20 : Nat) < 100 from by decide, nf6⟩, List.forall_mem_cons.mpr ⟨⟨show (20 : Nat) < 100 from by decide, nf7⟩, (fun _ h => (by cases h))⟩⟩⟩⟩⟩⟩⟩⟩, List.forall_mem_cons.mpr ⟨ho, (fun _ h => (by cases h))⟩⟩
def o_Mo_oneTest_f_0 (k : Int) : or_T := (85, 7, [(0, (2, 0, 0, [150])), (1, (0, 0, 2009, [])), (4, (0, 0, 0, [])), (6, (0, 0, 0, []))], [(8, [6], [0]), (20, [6, 0], [50, 1, 1, 1158, 1160, 4, 6, 1, 2, 1, 0, 0, 1, 1, 6, 3, 1, 160, 2, 1, 158, 0, 3]), (8, [4], [0]), (20, [0], [50, 2, 1, 158, 157, 160, 2, 12, 0, 7, 4, 3, 2, 0, 158, 0, 1, 2, 0, 157, 2, 7, 0, 3, 2, 0, 157, 0, 2010, 3, 14, 1, 10, 3, 0, 160, 5, 3, 2, 0, 157, 0, 1, 0, 0, 1, 10, 3, 0, 160, 5, 3, 2, 0, 157, 0, 1, 0, 4]), (20, [0, 1], [30, 0, 1, 1, 158, -1, 0, 0]), (20, [0, 1], [30, 0, -1, 1, 158, 1, 0, 0]), (20, [0], [50, 2, 0, 164, 165, 4, 7, 1, 3, 2, 0, 164, 0, 0, 0, 3, 2, 0, 165, 0, 23]), (20, [0], [30, k, 1, 1, 159]), (20, [0], [30, (-k), -1, 1, 159]), (20, [4, 0], [50, 1, 1, 1158, 1160, 4, 6, 1, 2, 1, 0, 0, 1, 1, 6, 3, 1, 160, 2, 1, 158, 0, 1])], [], [(0, 0, 2009, [])], [(20, [0], [50, 2, 1, 158, 157, 160, 2, 12, 0, 7, 4, 3, 2, 0, 158, 0, 1, 2, 0, 157, 2, 7, 0, 3, 2, 0, 157, 0, 2010, 3, 14, 1, 10, 3, 0, 160, 5, 3, 2, 0, 157, 0, 1, 0, 0, 1, 10, 3, 0, 160, 5, 3, 2, 0, 157, 0, 1, 0, 4]), (20, [0, 7], [30, 0, 1, 1, 158, -1, 0, 0]), (20, [0, 7], [30, 0, -1, 1, 158, 1, 0, 0]), (20, [0], [50, 2, 0, 164, 165, 4, 7, 1, 3, 2, 0, 164, 0, 0, 0, 3, 2, 0, 165, 0, 23]), (20, [0], [30, k, 1, 1, 159]), (20, [0], [30, (-k), -1, 1, 159]), (23, [1, 7], [0, 1, -1])], [], [])
theorem oo_Mo_oneTest_f_0 {kA : Nat → ClassId} (k : Int) (hk0 : 0 ≤ k) (hk1 : k ≤ 12) : or_ok kA GG (o_Mo_oneTest_f_0 k) := by
  intro A ta ws vs hD hth hl hk hds hf
  have hl : vs.length = 7 := hl
  have hk : ∀ q ∈ ([(0, (2, 0, 0, [150])), (1, (0, 0, 2009, [])), (4, (0, 0, 0, [])), (6, (0, 0, 0, []))] : List (Nat × tv_T)), tv_ok ta q.2 (n_v vs q.1) := hk
  obtain ⟨t0, hk⟩ := List.forall_mem_cons.mp hk
  have t0 : tv_ok ta (2, 0, 0, [150]) (n_v vs 0) := t0
  have r0 : ta (v_ad (n_v vs 0)) = some 150 := tv_rg t0
  obtain ⟨t1, hk⟩ := List.forall_mem_cons.mp hk
  have t1 : tv_ok ta (0, 0, 2009, []) (n_v vs 1) := t1
  have k1 : 0 ≤ v_iv (n_v vs 1) ∧ v_iv (n_v vs 1) ≤ 2009 := tv_rng t1
  obtain ⟨t4, hk⟩ := List.forall_mem_cons.mp hk
  have t4 : tv_ok ta (0, 0, 0, []) (n_v vs 4) := t4
  have k4 : 0 ≤ v_iv (n_v vs 4) ∧ v_iv (n_v vs 4) ≤ 0 := tv_rng t4
  obtain ⟨t6, hk⟩ := List.forall_mem_cons.mp hk
  have t6 : tv_ok ta (0, 0, 0, []) (n_v vs 6) := t6
  have k6 : 0 ≤ v_iv (n_v vs 6) ∧ v_iv (n_v vs 6) ≤ 0 := tv_rng t6
  have hf : fc_ok [(8, [6], [0]), (20, [6, 0], [50, 1, 1, 1158, 1160, 4, 6, 1, 2, 1, 0, 0, 1, 1, 6, 3, 1, 160, 2, 1, 158, 0, 3]), (8, [4], [0]), (20, [0], [50, 2, 1, 158, 157, 160, 2, 12, 0, 7, 4, 3, 2, 0, 158, 0, 1, 2, 0, 157, 2, 7, 0, 3, 2, 0, 157, 0, 2010, 3, 14, 1, 10, 3, 0, 160, 5, 3, 2, 0, 157, 0, 1, 0, 0, 1, 10, 3, 0, 160, 5, 3, 2, 0, 157, 0, 1, 0, 4]), (20, [0, 1], [30, 0, 1, 1, 158, -1, 0, 0]), (20, [0, 1], [30, 0, -1, 1, 158, 1, 0, 0]), (20, [0], [50, 2, 0, 164, 165, 4, 7, 1, 3, 2, 0, 164, 0, 0, 0, 3, 2, 0, 165, 0, 23]), (20, [0], [30, k, 1, 1, 159]), (20, [0], [30, (-k), -1, 1, 159]), (20, [4, 0], [50, 1, 1, 1158, 1160, 4, 6, 1, 2, 1, 0, 0, 1, 1, 6, 3, 1, 160, 2, 1, 158, 0, 1])] ta ws vs := hf
  obtain ⟨f0, hf⟩ := fc_un (show (8 : Nat) < 100 from by decide) hf
  have f0 : v_iv (n_v vs 6) = 0 := f0
  obtain ⟨f1, hf⟩ := fc_un (show (20 : Nat) < 100 from by decide) hf
  have f1 : (v_iv (n_v vs 6) = 1) → (w_ei ws (w_ar ws (n_v vs 0) 160) (w_fi ws (n_v vs 0) 158) = 3) := f1
  obtain ⟨f2, hf⟩ := fc_un (show (8 : Nat) < 100 from by decide) hf
  have f2 : v_iv (n_v vs 4) = 0 := f2
  obtain ⟨f3, hf⟩ := fc_un (show (20 : Nat) < 100 from by decide) hf
  have f3 : ((w_fi ws (n_v vs 0) 158 + 1) ≤ w_fi ws (n_v vs 0) 157) ∧ ((w_fi ws (n_v vs 0) 157 ≤ 2010) ∧ ((w_ei ws (w_ar ws (n_v vs 0) 160) ((w_fi ws (n_v vs 0) 157 - 1)) = 0) ∨ (w_ei ws (w_ar ws (n_v vs 0) 160) ((w_fi ws (n_v vs 0) 157 - 1)) = 4))) := f3
  obtain ⟨f4, hf⟩ := fc_un (show (20 : Nat) < 100 from by decide) hf
  have f4 : 1 * w_fi ws (n_v vs 0) 158 + ((-1) * v_iv (n_v vs 1) + 0) ≤ 0 := f4
  obtain ⟨f5, hf⟩ := fc_un (show (20 : Nat) < 100 from by decide) hf
  have f5 : (-1) * w_fi ws (n_v vs 0) 158 + (1 * v_iv (n_v vs 1) + 0) ≤ 0 := f5
  obtain ⟨f6, hf⟩ := fc_un (show (20 : Nat) < 100 from by decide) hf
  have f6 : (w_fi ws (n_v vs 0) 164 = 0) → (w_fi ws (n_v vs 0) 165 ≤ 23) := f6
  obtain ⟨f7, hf⟩ := fc_un (show (20 : Nat) < 100 from by decide) hf
  have f7 : 1 * w_fi ws (n_v vs 0) 159 + 0 ≤ k := f7
  obtain ⟨f8, hf⟩ := fc_un (show (20 : Nat) < 100 from by decide) hf
  have f8 : (-1) * w_fi ws (n_v vs 0) 159 + 0 ≤ ((-k)) := f8
  obtain ⟨f9, hf⟩ := fc_un (show (20 : Nat) < 100 from by decide) hf
  have f9 : (v_iv (n_v vs 4) = 1) → (w_ei ws (w_ar ws (n_v vs 0) 160) (w_fi ws (n_v vs 0) 158) = 1) := f9
  have cr_0_160 : ta (w_ar ws (n_v vs 0) 160) = some 259 := tv_rg (th_fd hD hth r0 (g := GG_150) rfl (k := 160) (t := (2, 0, 0, [259])) rfl rfl)
  have hK_0_160 : ∀ j : Int, 0 ≤ j → j < 2010 → 0 ≤ w_ei ws (w_ar ws (n_v vs 0) 160) j ∧ w_ei ws (w_ar ws (n_v vs 0) 160) j ≤ 4 := fun j h0 h1 => th_el hD hth cr_0_160 (kd := 0) (n := 2010) (m := 2010) (lo := 0) (hi := 4) (rs := []) (L := []) rfl (by decide) (j := j.toNat) (by omega)
  have kz_0_157 : 0 ≤ w_fi ws (n_v vs 0) 157 ∧ w_fi ws (n_v vs 0) 157 ≤ 2010 := tv_rng (th_fd hD hth r0 (g := GG_150) rfl (k := 157) (t := (0, 0, 2010, [])) rfl rfl)
  have kz_0_158 : 0 ≤ w_fi ws (n_v vs 0) 158 ∧ w_fi ws (n_v vs 0) 158 ≤ 2009 := tv_rng (th_fd hD hth r0 (g := GG_150) rfl (k := 158) (t := (0, 0, 2009, [])) rfl rfl)
  have kz_0_159 : 0 ≤ w_fi ws (n_v vs 0) 159 ∧ w_fi ws (n_v vs 0) 159 ≤ 13 := tv_rng (th_fd hD hth r0 (g := GG_150) rfl (k := 159) (t := (0, 0, 13, [])) rfl rfl)
  have kz_0_164 : 0 ≤ w_fi ws (n_v vs 0) 164 ∧ w_fi ws (n_v vs 0) 164 ≤ 1 := tv_rng (th_fd hD hth r0 (g := GG_150) rfl (k := 164) (t := (0, 0, 1, [])) rfl rfl)
  have kz_0_165 : (-1) ≤ w_fi ws (n_v vs 0) 165 ∧ w_fi ws (n_v vs 0) 165 ≤ 47 := tv_rng (th_fd hD hth r0 (g := GG_150) rfl (k := 165) (t := (0, -1, 47, [])) rfl rfl)
  have kv0 : 0 ≤ w_fi ws (n_v vs 0) 158 ∧ w_fi ws (n_v vs 0) 158 ≤ 2009 := tv_rng (th_fd hD hth r0 (g := GG_150) rfl (k := 158) (t := (0, 0, 2009, [])) rfl rfl)
  obtain ⟨x, ex, hx⟩ := iv_ex (ta := ta) (lo := 0) (hi := 2009) (z := w_fi ws (n_v vs 0) 158) (by omega) (by omega) (by omega) (by omega)
  have ex2 : v_iv (Value.int x) = w_fi ws (n_v vs 0) 158 := ex
  have ex3 : 0 ≤ v_iv (Value.int x) ∧ v_iv (Value.int x) ≤ 2009 := tv_rng hx
  have e_0 : n_v (vs ++ [Value.int x]) 0 = n_v vs 0 := n_v_old (by rw [hl]; decide)
  have e_1 : n_v (vs ++ [Value.int x]) 1 = n_v vs 1 := n_v_old (by rw [hl]; decide)
  have e_7 : n_v (vs ++ [Value.int x]) 7 = Value.int x := n_v_new hl
  have nf0 : fc_1 (20, [0], [50, 2, 1, 158, 157, 160, 2, 12, 0, 7, 4, 3, 2, 0, 158, 0, 1, 2, 0, 157, 2, 7, 0, 3, 2, 0, 157, 0, 2010, 3, 14, 1, 10, 3, 0, 160, 5, 3, 2, 0, 157, 0, 1, 0, 0, 1, 10, 3, 0, 160, 5, 3, 2, 0, 157, 0, 1, 0, 4]) ws (vs ++ [Value.int x]) := by
    refine ⟨fun n hn => ?_, ?_⟩
    · have hn : n ∈ [0] := hn
      rw [List.length_append, hl]
      simp only [List.mem_cons, List.not_mem_nil, or_false] at hn
      show n < 7 + 1; omega
    · show ((w_fi ws (n_v (vs ++ [Value.int x]) 0) 158 + 1) ≤ w_fi ws (n_v (vs ++ [Value.int x]) 0) 157) ∧ ((w_fi ws (n_v (vs ++ [Value.int x]) 0) 157 ≤ 2010) ∧ ((w_ei ws (w_ar ws (n_v (vs ++ [Value.int x]) 0) 160) ((w_fi ws (n_v (vs ++ [Value.int x]) 0) 157 - 1)) = 0) ∨ (w_ei ws (w_ar ws (n_v (vs ++ [Value.int x]) 0) 160) ((w_fi ws (n_v (vs ++ [Value.int x]) 0) 157 - 1)) = 4)))
      rw [e_0]
      first | omega | grind
  have nf1 : fc_1 (20, [0, 7], [30, 0, 1, 1, 158, -1, 0, 0]) ws (vs ++ [Value.int x]) := by
    refine ⟨fun n hn => ?_, ?_⟩
    · have hn : n ∈ [0, 7] := hn
      rw [List.length_append, hl]
      simp only [List.mem_cons, List.not_mem_nil, or_false] at hn
      show n < 7 + 1; omega
    · show 1 * w_fi ws (n_v (vs ++ [Value.int x]) 0) 158 + ((-1) * v_iv (n_v (vs ++ [Value.int x]) 7) + 0) ≤ 0
      rw [e_0]
      rw [e_7]
      omega
  have nf2 : fc_1 (20, [0, 7], [30, 0, -1, 1, 158, 1, 0, 0]) ws (vs ++ [Value.int x]) := by
    refine ⟨fun n hn => ?_, ?_⟩
    · have hn : n ∈ [0, 7] := hn
      rw [List.length_append, hl]
      simp only [List.mem_cons, List.not_mem_nil, or_false] at hn
      show n < 7 + 1; omega
    · show (-1) * w_fi ws (n_v (vs ++ [Value.int x]) 0) 158 + (1 * v_iv (n_v (vs ++ [Value.int x]) 7) + 0) ≤ 0
      rw [e_0]
      rw [e_7]
      omega
  have nf3 : fc_1 (20, [0], [50, 2, 0, 164, 165, 4, 7, 1, 3, 2, 0, 164, 0, 0, 0, 3, 2, 0, 165, 0, 23]) ws (vs ++ [Value.int x]) := by
    refine ⟨fun n hn => ?_, ?_⟩
    · have hn : n ∈ [0] := hn
      rw [List.length_append, hl]
      simp only [List.mem_cons, List.not_mem_nil, or_false] at hn
      show n < 7 + 1; omega
    · show (w_fi ws (n_v (vs ++ [Value.int x]) 0) 164 = 0) → (w_fi ws (n_v (vs ++ [Value.int x]) 0) 165 ≤ 23)
      rw [e_0]
      first | omega | grind
  have nf4 : fc_1 (20, [0], [30, k, 1, 1, 159]) ws (vs ++ [Value.int x]) := by
    refine ⟨fun n hn => ?_, ?_⟩
    · have hn : n ∈ [0] := hn
      rw [List.length_append, hl]
      simp only [List.mem_cons, List.not_mem_nil, or_false] at hn
      show n < 7 + 1; omega
    · show 1 * w_fi ws (n_v (vs ++ [Value.int x]) 0) 159 + 0 ≤ k
      rw [e_0]
      omega
  have nf5 : fc_1 (20, [0], [30, (-k), -1, 1, 159]) ws (vs ++ [Value.int x]) := by
    refine ⟨fun n hn => ?_, ?_⟩
    · have hn : n ∈ [0] := hn
      rw [List.length_append, hl]
      simp only [List.mem_cons, List.not_mem_nil, or_false] at hn
      show n < 7 + 1; omega
    · show (-1) * w_fi ws (n_v (vs ++ [Value.int x]) 0) 159 + 0 ≤ ((-k))
      rw [e_0]
      omega
  have nf6 : fc_1 (23, [1, 7], [0, 1, -1]) ws (vs ++ [Value.int x]) := by
    refine ⟨fun n hn => ?_, ?_⟩
    · have hn : n ∈ [1, 7] := hn
      rw [List.length_append, hl]
      simp only [List.mem_cons, List.not_mem_nil, or_false] at hn
      show n < 7 + 1; omega
    · show 1 * v_iv (n_v (vs ++ [Value.int x]) 1) + ((-1) * v_iv (n_v (vs ++ [Value.int x]) 7) + 0) ≤ 0
      rw [e_1]
      rw [e_7]
      omega
  exact ⟨(fun _ h => (by cases h)), [Value.int x], ag_one hx, List.forall_mem_cons.mpr ⟨⟨show (20 : Nat) < 100 from by decide, nf0⟩, List.forall_mem_cons.mpr ⟨⟨show (20 : Nat) < 100 from by decide, nf1⟩, List.forall_mem_cons.mpr ⟨⟨show (20 : Nat) < 100 from by decide, nf2⟩, List.forall_mem_cons.mpr ⟨⟨show (20 : Nat) < 100 from by decide, nf3⟩, List.forall_mem_cons.mpr ⟨⟨show (20 : Nat) < 100 from by decide, nf4⟩, List.forall_mem_cons.mpr ⟨⟨show (20 : Nat) < 100 from by decide, nf5⟩, List.forall_mem_cons.mpr ⟨⟨show (23 : Nat) < 100 from by decide, nf6⟩, (fun _ h => (by cases h))⟩⟩⟩⟩⟩⟩⟩, (fun _ h => (by cases h))⟩
def o_Mo_oneTest_f_1 (k : Int) : or_T := (167, 23, [(0, (2, 0, 0, [150])), (1, (0, 0, 2009, [])), (7, (0, 0, 2009, [])), (10, (0, 0, 0, [])), (12, (0, 0, 0, [])), (14, (0, 0, 0, [])), (18, (0, 0, 2009, [])), (20, (0, 0, 0, [])), (21, (0, 1, 1, [])), (22, (0, 1, 2010, []))], [(1, [22, 18, 21], []), (9, [18, 0], [158]), (8, [20], [5]), (9, [20, 0], [8]), (20, [14, 0], [50, 1, 1, 1158, 1160, 4, 6, 1, 2, 1, 0, 0, 1, 1, 6, 3, 1, 160, 2, 1, 158, 0, 3]), (20, [12, 0], [50, 1, 1, 1158, 1160, 4, 6, 1, 2, 1, 0, 0, 1, 1, 6, 3, 1, 160, 2, 1, 158, 0, 3]), (20, [10, 0], [50, 1, 1, 1158, 1160, 4, 6, 1, 2, 1, 0, 0, 1, 1, 6, 3, 1, 160, 2, 1, 158, 0, 3]), (20, [0], [50, 2, 0, 164, 165, 4, 7, 1, 3, 2, 0, 164, 0, 0, 0, 3, 2, 0, 165, 0, 23]), (23, [1, 7], [0, 1, -1]), (20, [0], [50, 2, 0, 164, 165, 4, 7, 1, 3, 2, 0, 164, 0, 0, 0, 3, 2, 0, 165, 0, 23]), (20, [0], [50, 2, 1, 158, 157, 160, 2, 12, 0, 7, 4, 3, 2, 0, 158, 0, 1, 2, 0, 157, 2, 7, 0, 3, 2, 0, 157, 0, 2010, 3, 14, 1, 10, 3, 0, 160, 5, 3, 2, 0, 157, 0, 1, 0, 0, 1, 10, 3, 0, 160, 5, 3, 2, 0, 157, 0, 1, 0, 4]), (20, [7, 0], [30, 0, 1, 0, 0, -1, 1, 158]), (20, [0], [30, k, 1, 1, 159]), (20, [0], [30, (-k), -1, 1, 159]), (20, [0], [30, -1, -1, 1, 8]), (102, [19], [0, 13008, 13009]), (8, [14], [0]), (8, [12], [0]), (8, [10], [0]), (23, [1, 7], [0, 1, -1]), (102, [7], [0, 13008, 13009, 13158, 13159]), (23, [1, 7], [0, 1, -1])], [(22, (0, 1, 2009, []))], [], [], [], [(22, 18, 1, 1)])
theorem oo_Mo_oneTest_f_1 {kA : Nat → ClassId} (k : Int) (hk0 : 0 ≤ k) (hk1 : k ≤ 12) : or_ok kA GG (o_Mo_oneTest_f_1 k) := by
  intro A ta ws vs hD hth hl hk hds hf
  have hl : vs.length = 23 := hl
  have hk : ∀ q ∈ ([(0, (2, 0, 0, [150])), (1, (0, 0, 2009, [])), (7, (0, 0, 2009, [])), (10, (0, 0, 0, [])), (12, (0, 0, 0, [])), (14, (0, 0, 0, [])), (18, (0, 0, 2009, [])), (20, (0, 0, 0, [])), (21, (0, 1, 1, [])), (22, (0, 1, 2010, []))] : List (Nat × tv_T)), tv_ok ta q.2 (n_v vs q.1) := hk
  obtain ⟨t0, hk⟩ := List.forall_mem_cons.mp hk
  have t0 : tv_ok ta (2, 0, 0, [150]) (n_v vs 0) := t0
  have r0 : ta (v_ad (n_v vs 0)) = some 150 := tv_rg t0
  obtain ⟨t1, hk⟩ := List.forall_mem_cons.mp hk
  have t1 : tv_ok ta (0, 0, 2009, []) (n_v vs 1) := t1
  have k1 : 0 ≤ v_iv (n_v vs 1) ∧ v_iv (n_v vs 1) ≤ 2009 := tv_rng t1
  obtain ⟨t7, hk⟩ := List.forall_mem_cons.mp hk
  have t7 : tv_ok ta (0, 0, 2009, []) (n_v vs 7) := t7
  have k7 : 0 ≤ v_iv (n_v vs 7) ∧ v_iv (n_v vs 7) ≤ 2009 := tv_rng t7
  obtain ⟨t10, hk⟩ := List.forall_mem_cons.mp hk
  have t10 : tv_ok ta (0, 0, 0, []) (n_v vs 10) := t10
  have k10 : 0 ≤ v_iv (n_v vs 10) ∧ v_iv (n_v vs 10) ≤ 0 := tv_rng t10
  obtain ⟨t12, hk⟩ := List.forall_mem_cons.mp hk
  have t12 : tv_ok ta (0, 0, 0, []) (n_v vs 12) := t12
  have k12 : 0 ≤ v_iv (n_v vs 12) ∧ v_iv (n_v vs 12) ≤ 0 := tv_rng t12
  obtain ⟨t14, hk⟩ := List.forall_mem_cons.mp hk
  have t14 : tv_ok ta (0, 0, 0, []) (n_v vs 14) := t14
  have k14 : 0 ≤ v_iv (n_v vs 14) ∧ v_iv (n_v vs 14) ≤ 0 := tv_rng t14
  obtain ⟨t18, hk⟩ := List.forall_mem_cons.mp hk
  have t18 : tv_ok ta (0, 0, 2009, []) (n_v vs 18) := t18
  have k18 : 0 ≤ v_iv (n_v vs 18) ∧ v_iv (n_v vs 18) ≤ 2009 := tv_rng t18
  obtain ⟨t20, hk⟩ := List.forall_mem_cons.mp hk
  have t20 : tv_ok ta (0, 0, 0, []) (n_v vs 20) := t20
  have k20 : 0 ≤ v_iv (n_v vs 20) ∧ v_iv (n_v vs 20) ≤ 0 := tv_rng t20
  obtain ⟨t21, hk⟩ := List.forall_mem_cons.mp hk
  have t21 : tv_ok ta (0, 1, 1, []) (n_v vs 21) := t21
  have k21 : 1 ≤ v_iv (n_v vs 21) ∧ v_iv (n_v vs 21) ≤ 1 := tv_rng t21
  obtain ⟨t22, hk⟩ := List.forall_mem_cons.mp hk
  have t22 : tv_ok ta (0, 1, 2010, []) (n_v vs 22) := t22
  have k22 : 1 ≤ v_iv (n_v vs 22) ∧ v_iv (n_v vs 22) ≤ 2010 := tv_rng t22
  have hds : ∀ q ∈ ([(22, 18, 1, 1)] : List of_T), n_iv vs q.2.1 + q.2.2.1 ≤ n_iv vs q.1 ∧ n_iv vs q.1 ≤ n_iv vs q.2.1 + q.2.2.2 := hds
  obtain ⟨d0, hds⟩ := List.forall_mem_cons.mp hds
  have d0 : v_iv (n_v vs 18) + 1 ≤ v_iv (n_v vs 22) ∧ v_iv (n_v vs 22) ≤ v_iv (n_v vs 18) + 1 := d0
  have hf : fc_ok [(1, [22, 18, 21], []), (9, [18, 0], [158]), (8, [20], [5]), (9, [20, 0], [8]), (20, [14, 0], [50, 1, 1, 1158, 1160, 4, 6, 1, 2, 1, 0, 0, 1, 1, 6, 3, 1, 160, 2, 1, 158, 0, 3]), (20, [12, 0], [50, 1, 1, 1158, 1160, 4, 6, 1, 2, 1, 0, 0, 1, 1, 6, 3, 1, 160, 2, 1, 158, 0, 3]), (20, [10, 0], [50, 1, 1, 1158, 1160, 4, 6, 1, 2, 1, 0, 0, 1, 1, 6, 3, 1, 160, 2, 1, 158, 0, 3]), (20, [0], [50, 2, 0, 164, 165, 4, 7, 1, 3, 2, 0, 164, 0, 0, 0, 3, 2, 0, 165, 0, 23]), (23, [1, 7], [0, 1, -1]), (20, [0], [50, 2, 0, 164, 165, 4, 7, 1, 3, 2, 0, 164, 0, 0, 0, 3, 2, 0, 165, 0, 23]), (20, [0], [50, 2, 1, 158, 157, 160, 2, 12, 0, 7, 4, 3, 2, 0, 158, 0, 1, 2, 0, 157, 2, 7, 0, 3, 2, 0, 157, 0, 2010, 3, 14, 1, 10, 3, 0, 160, 5, 3, 2, 0, 157, 0, 1, 0, 0, 1, 10, 3, 0, 160, 5, 3, 2, 0, 157, 0, 1, 0, 4]), (20, [7, 0], [30, 0, 1, 0, 0, -1, 1, 158]), (20, [0], [30, k, 1, 1, 159]), (20, [0], [30, (-k), -1, 1, 159]), (20, [0], [30, -1, -1, 1, 8]), (102, [19], [0, 13008, 13009]), (8, [14], [0]), (8, [12], [0]), (8, [10], [0]), (23, [1, 7], [0, 1, -1]), (102, [7], [0, 13008, 13009, 13158, 13159]), (23, [1, 7], [0, 1, -1])] ta ws vs := hf
  obtain ⟨f0, hf⟩ := fc_un (show (1 : Nat) < 100 from by decide) hf
  have f0 : v_iv (n_v vs 22) = v_iv (n_v vs 18) + v_iv (n_v vs 21) := f0
  obtain ⟨f1, hf⟩ := fc_un (show (9 : Nat) < 100 from by decide) hf
  have f1 : n_v vs 18 = w_fd ws (v_ad (n_v vs 0)) 158 := f1
  obtain ⟨f2, hf⟩ := fc_un (show (8 : Nat) < 100 from by decide) hf
  have f2 : v_iv (n_v vs 20) ≤ 0 := f2
  obtain ⟨f3, hf⟩ := fc_un (show (9 : Nat) < 100 from by decide) hf
  have f3 : n_v vs 20 = w_fd ws (v_ad (n_v vs 0)) 8 := f3
  obtain ⟨f4, hf⟩ := fc_un (show (20 : Nat) < 100 from by decide) hf
  have f4 : (v_iv (n_v vs 14) = 1) → (w_ei ws (w_ar ws (n_v vs 0) 160) (w_fi ws (n_v vs 0) 158) = 3) := f4
  obtain ⟨f5, hf⟩ := fc_un (show (20 : Nat) < 100 from by decide) hf
  have f5 : (v_iv (n_v vs 12) = 1) → (w_ei ws (w_ar ws (n_v vs 0) 160) (w_fi ws (n_v vs 0) 158) = 3) := f5
  obtain ⟨f6, hf⟩ := fc_un (show (20 : Nat) < 100 from by decide) hf
  have f6 : (v_iv (n_v vs 10) = 1) → (w_ei ws (w_ar ws (n_v vs 0) 160) (w_fi ws (n_v vs 0) 158) = 3) := f6
  obtain ⟨f7, hf⟩ := fc_un (show (20 : Nat) < 100 from by decide) hf
  have f7 : (w_fi ws (n_v vs 0) 164 = 0) → (w_fi ws (n_v vs 0) 165 ≤ 23) := f7
  obtain ⟨f8, hf⟩ := fc_un (show (23 : Nat) < 100 from by decide) hf
  have f8 : 1 * v_iv (n_v vs 1) + ((-1) * v_iv (n_v vs 7) + 0) ≤ 0 := f8
  obtain ⟨f9, hf⟩ := fc_un (show (20 : Nat) < 100 from by decide) hf
  have f9 : (w_fi ws (n_v vs 0) 164 = 0) → (w_fi ws (n_v vs 0) 165 ≤ 23) := f9
  obtain ⟨f10, hf⟩ := fc_un (show (20 : Nat) < 100 from by decide) hf
  have f10 : ((w_fi ws (n_v vs 0) 158 + 1) ≤ w_fi ws (n_v vs 0) 157) ∧ ((w_fi ws (n_v vs 0) 157 ≤ 2010) ∧ ((w_ei ws (w_ar ws (n_v vs 0) 160) ((w_fi ws (n_v vs 0) 157 - 1)) = 0) ∨ (w_ei ws (w_ar ws (n_v vs 0) 160) ((w_fi ws (n_v vs 0) 157 - 1)) = 4))) := f10
  obtain ⟨f11, hf⟩ := fc_un (show (20 : Nat) < 100 from by decide) hf
  have f11 : 1 * v_iv (n_v vs 7) + ((-1) * w_fi ws (n_v vs 0) 158 + 0) ≤ 0 := f11
  obtain ⟨f12, hf⟩ := fc_un (show (20 : Nat) < 100 from by decide) hf
  have f12 : 1 * w_fi ws (n_v vs 0) 159 + 0 ≤ k := f12
  obtain ⟨f13, hf⟩ := fc_un (show (20 : Nat) < 100 from by decide) hf
  have f13 : (-1) * w_fi ws (n_v vs 0) 159 + 0 ≤ ((-k)) := f13
  obtain ⟨f14, hf⟩ := fc_un (show (20 : Nat) < 100 from by decide) hf
  have f14 : (-1) * w_fi ws (n_v vs 0) 8 + 0 ≤ (-1) := f14
  obtain ⟨ta1, w1, le1, ⟨_, s1⟩, hf⟩ := fc_us (show ¬ (102 : Nat) < 100 from by decide) hf
  obtain ⟨f16, hf⟩ := fc_un (show (8 : Nat) < 100 from by decide) hf
  have f16 : v_iv (n_v vs 14) = 0 := f16
  obtain ⟨f17, hf⟩ := fc_un (show (8 : Nat) < 100 from by decide) hf
  have f17 : v_iv (n_v vs 12) = 0 := f17
  obtain ⟨f18, hf⟩ := fc_un (show (8 : Nat) < 100 from by decide) hf
  have f18 : v_iv (n_v vs 10) = 0 := f18
  obtain ⟨f19, hf⟩ := fc_un (show (23 : Nat) < 100 from by decide) hf
  have f19 : 1 * v_iv (n_v vs 1) + ((-1) * v_iv (n_v vs 7) + 0) ≤ 0 := f19
  obtain ⟨ta2, w2, le2, ⟨_, s2⟩, hf⟩ := fc_us (show ¬ (102 : Nat) < 100 from by decide) hf
  obtain ⟨f21, hf⟩ := fc_un (show (23 : Nat) < 100 from by decide) hf
  have f21 : 1 * v_iv (n_v vs 1) + ((-1) * v_iv (n_v vs 7) + 0) ≤ 0 := f21
  have cr_0_160 : ta (w_ar ws (n_v vs 0) 160) = some 259 := tv_rg (th_fd hD hth r0 (g := GG_150) rfl (k := 160) (t := (2, 0, 0, [259])) rfl rfl)
  have g1 : v_iv (n_v vs 18) = w_fi ws (n_v vs 0) 158 := congrArg v_iv f1
  have g3 : v_iv (n_v vs 20) = w_fi ws (n_v vs 0) 8 := congrArg v_iv f3
  have hK_0_160 : ∀ j : Int, 0 ≤ j → j < 2010 → 0 ≤ w_ei ws (w_ar ws (n_v vs 0) 160) j ∧ w_ei ws (w_ar ws (n_v vs 0) 160) j ≤ 4 := fun j h0 h1 => th_el hD hth cr_0_160 (kd := 0) (n := 2010) (m := 2010) (lo := 0) (hi := 4) (rs := []) (L := []) rfl (by decide) (j := j.toNat) (by omega)
  have kz_0_8 : 0 ≤ w_fi ws (n_v vs 0) 8 ∧ w_fi ws (n_v vs 0) 8 ≤ 5 := tv_rng (th_fd hD hth r0 (g := GG_150) rfl (k := 8) (t := (0, 0, 5, [])) rfl rfl)
  have kz_0_157 : 0 ≤ w_fi ws (n_v vs 0) 157 ∧ w_fi ws (n_v vs 0) 157 ≤ 2010 := tv_rng (th_fd hD hth r0 (g := GG_150) rfl (k := 157) (t := (0, 0, 2010, [])) rfl rfl)
  have kz_0_158 : 0 ≤ w_fi ws (n_v vs 0) 158 ∧ w_fi ws (n_v vs 0) 158 ≤ 2009 := tv_rng (th_fd hD hth r0 (g := GG_150) rfl (k := 158) (t := (0, 0, 2009, [])) rfl rfl)
  have kz_0_159 : 0 ≤ w_fi ws (n_v vs 0) 159 ∧ w_fi ws (n_v vs 0) 159 ≤ 13 := tv_rng (th_fd hD hth r0 (g := GG_150) rfl (k := 159) (t := (0, 0, 13, [])) rfl rfl)
  have kz_0_164 : 0 ≤ w_fi ws (n_v vs 0) 164 ∧ w_fi ws (n_v vs 0) 164 ≤ 1 := tv_rng (th_fd hD hth r0 (g := GG_150) rfl (k := 164) (t := (0, 0, 1, [])) rfl rfl)
  have kz_0_165 : (-1) ≤ w_fi ws (n_v vs 0) 165 ∧ w_fi ws (n_v vs 0) 165 ≤ 47 := tv_rng (th_fd hD hth r0 (g := GG_150) rfl (k := 165) (t := (0, -1, 47, [])) rfl rfl)
  have rf22 : tv_ok ta (0, 1, 2009, []) (n_v vs 22) := tv_in t22 (by first | omega | grind) (by first | omega | grind)
  refine ⟨List.forall_mem_cons.mpr ⟨rf22, (fun _ h => (by cases h))⟩, [], trivial, ?_, (fun _ h => (by cases h))⟩
  rw [List.append_nil]
  exact (fun _ h => (by cases h))
def o_Mo_oneTest_f_2 (k : Int) : or_T := (171, 23, [(0, (2, 0, 0, [150])), (1, (0, 0, 2009, [])), (7, (0, 0, 2009, [])), (10, (0, 0, 0, [])), (12, (0, 0, 0, [])), (14, (0, 0, 0, [])), (18, (0, 0, 2009, [])), (20, (0, 0, 0, [])), (21, (0, 1, 1, [])), (22, (0, 1, 2009, []))], [(20, [0], [50, 2, 0, 164, 165, 4, 7, 1, 3, 2, 0, 164, 0, 0, 0, 3, 2, 0, 165, 0, 23]), (23, [1, 7], [0, 1, -1]), (20, [0], [50, 2, 0, 164, 165, 4, 7, 1, 3, 2, 0, 164, 0, 0, 0, 3, 2, 0, 165, 0, 23]), (20, [0], [30, k, 1, 1, 159]), (20, [0], [30, (-k), -1, 1, 159]), (20, [0], [30, -1, -1, 1, 8]), (101, [0, 22], [158]), (1, [22, 18, 21], []), (9, [18, 0], [158]), (8, [20], [5]), (9, [20, 0], [8]), (20, [14, 0], [50, 1, 1, 1158, 1160, 4, 6, 1, 2, 1, 0, 0, 1, 1, 6, 3, 1, 160, 2, 1, 158, 0, 3]), (20, [12, 0], [50, 1, 1, 1158, 1160, 4, 6, 1, 2, 1, 0, 0, 1, 1, 6, 3, 1, 160, 2, 1, 158, 0, 3]), (20, [10, 0], [50, 1, 1, 1158, 1160, 4, 6, 1, 2, 1, 0, 0, 1, 1, 6, 3, 1, 160, 2, 1, 158, 0, 3]), (20, [0], [50, 2, 0, 164, 165, 4, 7, 1, 3, 2, 0, 164, 0, 0, 0, 3, 2, 0, 165, 0, 23]), (23, [1, 7], [0, 1, -1]), (20, [0], [50, 2, 0, 164, 165, 4, 7, 1, 3, 2, 0, 164, 0, 0, 0, 3, 2, 0, 165, 0, 23]), (20, [0], [50, 2, 1, 158, 157, 160, 2, 12, 0, 7, 4, 3, 2, 0, 158, 0, 1, 2, 0, 157, 2, 7, 0, 3, 2, 0, 157, 0, 2010, 3, 14, 1, 10, 3, 0, 160, 5, 3, 2, 0, 157, 0, 1, 0, 0, 1, 10, 3, 0, 160, 5, 3, 2, 0, 157, 0, 1, 0, 4]), (20, [7, 0], [30, 0, 1, 0, 0, -1, 1, 158]), (20, [0], [30, k, 1, 1, 159]), (20, [0], [30, (-k), -1, 1, 159]), (20, [0], [30, -1, -1, 1, 8]), (102, [19], [0, 13008, 13009]), (8, [14], [0]), (8, [12], [0]), (8, [10], [0]), (23, [1, 7], [0, 1, -1]), (102, [7], [0, 13008, 13009, 13158, 13159]), (23, [1, 7], [0, 1, -1])], [], [(0, 0, 2009, [])], [(20, [0], [50, 2, 1, 158, 157, 160, 2, 12, 0, 7, 4, 3, 2, 0, 158, 0, 1, 2, 0, 157, 2, 7, 0, 3, 2, 0, 157, 0, 2010, 3, 14, 1, 10, 3, 0, 160, 5, 3, 2, 0, 157, 0, 1, 0, 0, 1, 10, 3, 0, 160, 5, 3, 2, 0, 157, 0, 1, 0, 4]), (20, [0, 23], [30, 0, 1, 1, 158, -1, 0, 0]), (20, [0, 23], [30, 0, -1, 1, 158, 1, 0, 0]), (20, [0], [50, 2, 0, 164, 165, 4, 7, 1, 3, 2, 0, 164, 0, 0, 0, 3, 2, 0, 165, 0, 23]), (20, [0], [30, k, 1, 1, 159]), (20, [0], [30, (-k), -1, 1, 159]), (23, [1, 23], [0, 1, -1])], [], [(22, 18, 1, 1)])
theorem oo_Mo_oneTest_f_2 {kA : Nat → ClassId} (k : Int) (hk0 : 0 ≤ k) (hk1 : k ≤ 12) : or_ok kA GG (o_Mo_oneTest_f_2 k) := by
  intro A ta ws vs hD hth hl hk hds hf
  have hl : vs.length = 23 := hl
  have hk : ∀ q ∈ ([(0, (2, 0, 0, [150])), (1, (0, 0, 2009, [])), (7, (0, 0, 2009, [])), (10, (0, 0, 0, [])), (12, (0, 0, 0, [])), (14, (0, 0, 0, [])), (18, (0, 0, 2009, [])), (20, (0, 0, 0, [])), (21, (0, 1, 1, [])), (22, (0, 1, 2009, []))] : List (Nat × tv_T)), tv_ok ta q.2 (n_v vs q.1) := hk
  obtain ⟨t0, hk⟩ := List.forall_mem_cons.mp hk
  have t0 : tv_ok ta (2, 0, 0, [150]) (n_v vs 0) := t0
  have r0 : ta (v_ad (n_v vs 0)) = some 150 := tv_rg t0
  obtain ⟨t1, hk⟩ := List.forall_mem_cons.mp hk
  have t1 : tv_ok ta (0, 0, 2009, []) (n_v vs 1) := t1
  have k1 : 0 ≤ v_iv (n_v vs 1) ∧ v_iv (n_v vs 1) ≤ 2009 := tv_rng t1
  obtain ⟨t7, hk⟩ := List.forall_mem_cons.mp hk
  have t7 : tv_ok ta (0, 0, 2009, []) (n_v vs 7) := t7
  have k7 : 0 ≤ v_iv (n_v vs 7) ∧ v_iv (n_v vs 7) ≤ 2009 := tv_rng t7
  obtain ⟨t10, hk⟩ := List.forall_mem_cons.mp hk
  have t10 : tv_ok ta (0, 0, 0, []) (n_v vs 10) := t10
  have k10 : 0 ≤ v_iv (n_v vs 10) ∧ v_iv (n_v vs 10) ≤ 0 := tv_rng t10
  obtain ⟨t12, hk⟩ := List.forall_mem_cons.mp hk
  have t12 : tv_ok ta (0, 0, 0, []) (n_v vs 12) := t12
  have k12 : 0 ≤ v_iv (n_v vs 12) ∧ v_iv (n_v vs 12) ≤ 0 := tv_rng t12
  obtain ⟨t14, hk⟩ := List.forall_mem_cons.mp hk
  have t14 : tv_ok ta (0, 0, 0, []) (n_v vs 14) := t14
  have k14 : 0 ≤ v_iv (n_v vs 14) ∧ v_iv (n_v vs 14) ≤ 0 := tv_rng t14
  obtain ⟨t18, hk⟩ := List.forall_mem_cons.mp hk
  have t18 : tv_ok ta (0, 0, 2009, []) (n_v vs 18) := t18
  have k18 : 0 ≤ v_iv (n_v vs 18) ∧ v_iv (n_v vs 18) ≤ 2009 := tv_rng t18
  obtain ⟨t20, hk⟩ := List.forall_mem_cons.mp hk
  have t20 : tv_ok ta (0, 0, 0, []) (n_v vs 20) := t20
  have k20 : 0 ≤ v_iv (n_v vs 20) ∧ v_iv (n_v vs 20) ≤ 0 := tv_rng t20
  obtain ⟨t21, hk⟩ := List.forall_mem_cons.mp hk
  have t21 : tv_ok ta (0, 1, 1, []) (n_v vs 21) := t21
  have k21 : 1 ≤ v_iv (n_v vs 21) ∧ v_iv (n_v vs 21) ≤ 1 := tv_rng t21
  obtain ⟨t22, hk⟩ := List.forall_mem_cons.mp hk
  have t22 : tv_ok ta (0, 1, 2009, []) (n_v vs 22) := t22
  have k22 : 1 ≤ v_iv (n_v vs 22) ∧ v_iv (n_v vs 22) ≤ 2009 := tv_rng t22
  have hds : ∀ q ∈ ([(22, 18, 1, 1)] : List of_T), n_iv vs q.2.1 + q.2.2.1 ≤ n_iv vs q.1 ∧ n_iv vs q.1 ≤ n_iv vs q.2.1 + q.2.2.2 := hds
  obtain ⟨d0, hds⟩ := List.forall_mem_cons.mp hds
  have d0 : v_iv (n_v vs 18) + 1 ≤ v_iv (n_v vs 22) ∧ v_iv (n_v vs 22) ≤ v_iv (n_v vs 18) + 1 := d0
  have hf : fc_ok [(20, [0], [50, 2, 0, 164, 165, 4, 7, 1, 3, 2, 0, 164, 0, 0, 0, 3, 2, 0, 165, 0, 23]), (23, [1, 7], [0, 1, -1]), (20, [0], [50, 2, 0, 164, 165, 4, 7, 1, 3, 2, 0, 164, 0, 0, 0, 3, 2, 0, 165, 0, 23]), (20, [0], [30, k, 1, 1, 159]), (20, [0], [30, (-k), -1, 1, 159]), (20, [0], [30, -1, -1, 1, 8]), (101, [0, 22], [158]), (1, [22, 18, 21], []), (9, [18, 0], [158]), (8, [20], [5]), (9, [20, 0], [8]), (20, [14, 0], [50, 1, 1, 1158, 1160, 4, 6, 1, 2, 1, 0, 0, 1, 1, 6, 3, 1, 160, 2, 1, 158, 0, 3]), (20, [12, 0], [50, 1, 1, 1158, 1160, 4, 6, 1, 2, 1, 0, 0, 1, 1, 6, 3, 1, 160, 2, 1, 158, 0, 3]), (20, [10, 0], [50, 1, 1, 1158, 1160, 4, 6, 1, 2, 1, 0, 0, 1, 1, 6, 3, 1, 160, 2, 1, 158, 0, 3]), (20, [0], [50, 2, 0, 164, 165, 4, 7, 1, 3, 2, 0, 164, 0, 0, 0, 3, 2, 0, 165, 0, 23]), (23, [1, 7], [0, 1, -1]), (20, [0], [50, 2, 0, 164, 165, 4, 7, 1, 3, 2, 0, 164, 0, 0, 0, 3, 2, 0, 165, 0, 23]), (20, [0], [50, 2, 1, 158, 157, 160, 2, 12, 0, 7, 4, 3, 2, 0, 158, 0, 1, 2, 0, 157, 2, 7, 0, 3, 2, 0, 157, 0, 2010, 3, 14, 1, 10, 3, 0, 160, 5, 3, 2, 0, 157, 0, 1, 0, 0, 1, 10, 3, 0, 160, 5, 3, 2, 0, 157, 0, 1, 0, 4]), (20, [7, 0], [30, 0, 1, 0, 0, -1, 1, 158]), (20, [0], [30, k, 1, 1, 159]), (20, [0], [30, (-k), -1, 1, 159]), (20, [0], [30, -1, -1, 1, 8]), (102, [19], [0, 13008, 13009]), (8, [14], [0]), (8, [12], [0]), (8, [10], [0]), (23, [1, 7], [0, 1, -1]), (102, [7], [0, 13008, 13009, 13158, 13159]), (23, [1, 7], [0, 1, -1])] ta ws vs := hf
  obtain ⟨f0, hf⟩ := fc_un (show (20 : Nat) < 100 from by decide) hf
  have f0 : (w_fi ws (n_v vs 0) 164 = 0) → (w_fi ws (n_v vs 0) 165 ≤ 23) := f0
  obtain ⟨f1, hf⟩ := fc_un (show (23 : Nat) < 100 from by decide) hf
  have f1 : 1 * v_iv (n_v vs 1) + ((-1) * v_iv (n_v vs 7) + 0) ≤ 0 := f1
  obtain ⟨f2, hf⟩ := fc_un (show (20 : Nat) < 100 from by decide) hf
  have f2 : (w_fi ws (n_v vs 0) 164 = 0) → (w_fi ws (n_v vs 0) 165 ≤ 23) := f2
  obtain ⟨f3, hf⟩ := fc_un (show (20 : Nat) < 100 from by decide) hf
  have f3 : 1 * w_fi ws (n_v vs 0) 159 + 0 ≤ k := f3
  obtain ⟨f4, hf⟩ := fc_un (show (20 : Nat) < 100 from by decide) hf
  have f4 : (-1) * w_fi ws (n_v vs 0) 159 + 0 ≤ ((-k)) := f4
  obtain ⟨f5, hf⟩ := fc_un (show (20 : Nat) < 100 from by decide) hf
  have f5 : (-1) * w_fi ws (n_v vs 0) 8 + 0 ≤ (-1) := f5
  obtain ⟨ta1, w1, le1, ⟨_, s1⟩, hf⟩ := fc_us (show ¬ (101 : Nat) < 100 from by decide) hf
  have s1 : (∀ b j, w_el ws b j = w_el w1 b j) ∧ ∀ b j, w_fd ws b j = if b = v_ad (n_v vs 0) ∧ j = 158 then n_v vs 22 else w_fd w1 b j := s1
  obtain ⟨f7, hf⟩ := fc_un (show (1 : Nat) < 100 from by decide) hf
  have f7 : v_iv (n_v vs 22) = v_iv (n_v vs 18) + v_iv (n_v vs 21) := f7
  obtain ⟨f8, hf⟩ := fc_un (show (9 : Nat) < 100 from by decide) hf
  have f8 : n_v vs 18 = w_fd w1 (v_ad (n_v vs 0)) 158 := f8
  obtain ⟨f9, hf⟩ := fc_un (show (8 : Nat) < 100 from by decide) hf
  have f9 : v_iv (n_v vs 20) ≤ 0 := f9
  obtain ⟨f10, hf⟩ := fc_un (show (9 : Nat) < 100 from by decide) hf
  have f10 : n_v vs 20 = w_fd w1 (v_ad (n_v vs 0)) 8 := f10
  obtain ⟨f11, hf⟩ := fc_un (show (20 : Nat) < 100 from by decide) hf
  have f11 : (v_iv (n_v vs 14) = 1) → (w_ei w1 (w_ar w1 (n_v vs 0) 160) (w_fi w1 (n_v vs 0) 158) = 3) := f11
  obtain ⟨f12, hf⟩ := fc_un (show (20 : Nat) < 100 from by decide) hf
  have f12 : (v_iv (n_v vs 12) = 1) → (w_ei w1 (w_ar w1 (n_v vs 0) 160) (w_fi w1 (n_v vs 0) 158) = 3) := f12
  obtain ⟨f13, hf⟩ := fc_un (show (20 : Nat) < 100 from by decide) hf
  have f13 : (v_iv (n_v vs 10) = 1) → (w_ei w1 (w_ar w1 (n_v vs 0) 160) (w_fi w1 (n_v vs 0) 158) = 3) := f13
  obtain ⟨f14, hf⟩ := fc_un (show (20 : Nat) < 100 from by decide) hf
  have f14 : (w_fi w1 (n_v vs 0) 164 = 0) → (w_fi w1 (n_v vs 0) 165 ≤ 23) := f14
  obtain ⟨f15, hf⟩ := fc_un (show (23 : Nat) < 100 from by decide) hf
  have f15 : 1 * v_iv (n_v vs 1) + ((-1) * v_iv (n_v vs 7) + 0) ≤ 0 := f15
  obtain ⟨f16, hf⟩ := fc_un (show (20 : Nat) < 100 from by decide) hf
  have f16 : (w_fi w1 (n_v vs 0) 164 = 0) → (w_fi w1 (n_v vs 0) 165 ≤ 23) := f16
  obtain ⟨f17, hf⟩ := fc_un (show (20 : Nat) < 100 from by decide) hf
  have f17 : ((w_fi w1 (n_v vs 0) 158 + 1) ≤ w_fi w1 (n_v vs 0) 157) ∧ ((w_fi w1 (n_v vs 0) 157 ≤ 2010) ∧ ((w_ei w1 (w_ar w1 (n_v vs 0) 160) ((w_fi w1 (n_v vs 0) 157 - 1)) = 0) ∨ (w_ei w1 (w_ar w1 (n_v vs 0) 160) ((w_fi w1 (n_v vs 0) 157 - 1)) = 4))) := f17
  obtain ⟨f18, hf⟩ := fc_un (show (20 : Nat) < 100 from by decide) hf
  have f18 : 1 * v_iv (n_v vs 7) + ((-1) * w_fi w1 (n_v vs 0) 158 + 0) ≤ 0 := f18
  obtain ⟨f19, hf⟩ := fc_un (show (20 : Nat) < 100 from by decide) hf
  have f19 : 1 * w_fi w1 (n_v vs 0) 159 + 0 ≤ k := f19
  obtain ⟨f20, hf⟩ := fc_un (show (20 : Nat) < 100 from by decide) hf
  have f20 : (-1) * w_fi w1 (n_v vs 0) 159 + 0 ≤ ((-k)) := f20
  obtain ⟨f21, hf⟩ := fc_un (show (20 : Nat) < 100 from by decide) hf
  have f21 : (-1) * w_fi w1 (n_v vs 0) 8 + 0 ≤ (-1) := f21
  obtain ⟨ta2, w2, le2, ⟨_, s2⟩, hf⟩ := fc_us (show ¬ (102 : Nat) < 100 from by decide) hf
  obtain ⟨f23, hf⟩ := fc_un (show (8 : Nat) < 100 from by decide) hf
  have f23 : v_iv (n_v vs 14) = 0 := f23
  obtain ⟨f24, hf⟩ := fc_un (show (8 : Nat) < 100 from by decide) hf
  have f24 : v_iv (n_v vs 12) = 0 := f24
  obtain ⟨f25, hf⟩ := fc_un (show (8 : Nat) < 100 from by decide) hf
  have f25 : v_iv (n_v vs 10) = 0 := f25
  obtain ⟨f26, hf⟩ := fc_un (show (23 : Nat) < 100 from by decide) hf
  have f26 : 1 * v_iv (n_v vs 1) + ((-1) * v_iv (n_v vs 7) + 0) ≤ 0 := f26
  obtain ⟨ta3, w3, le3, ⟨_, s3⟩, hf⟩ := fc_us (show ¬ (102 : Nat) < 100 from by decide) hf
  obtain ⟨f28, hf⟩ := fc_un (show (23 : Nat) < 100 from by decide) hf
  have f28 : 1 * v_iv (n_v vs 1) + ((-1) * v_iv (n_v vs 7) + 0) ≤ 0 := f28
  have ar_0_160_1 : w_ar w1 (n_v vs 0) 160 = w_ar ws (n_v vs 0) 160 := by show v_ad (w_fd w1 _ _) = v_ad (w_fd ws _ _); rw [s1.2, if_neg (fun e => absurd e.2 (by decide))]
  have cr_0_160 : ta (w_ar ws (n_v vs 0) 160) = some 259 := tv_rg (th_fd hD hth r0 (g := GG_150) rfl (k := 160) (t := (2, 0, 0, [259])) rfl rfl)
  have g8 : v_iv (n_v vs 18) = w_fi w1 (n_v vs 0) 158 := congrArg v_iv f8
  have g10 : v_iv (n_v vs 20) = w_fi w1 (n_v vs 0) 8 := congrArg v_iv f10
  rw [ar_0_160_1] at f11
  rw [ar_0_160_1] at f12
  rw [ar_0_160_1] at f13
  rw [ar_0_160_1] at f17
  have fe_0_8_1 : w_fi ws (n_v vs 0) 8 = w_fi w1 (n_v vs 0) 8 := by show v_iv (w_fd _ _ _) = v_iv (w_fd _ _ _); rw [s1.2, if_neg (fun e => absurd e.2 (by decide))]
  have fe_0_157_1 : w_fi ws (n_v vs 0) 157 = w_fi w1 (n_v vs 0) 157 := by show v_iv (w_fd _ _ _) = v_iv (w_fd _ _ _); rw [s1.2, if_neg (fun e => absurd e.2 (by decide))]
  have fe_0_158_1 : w_fi ws (n_v vs 0) 158 = v_iv (n_v vs 22) := by show v_iv (w_fd _ _ _) = _; rw [s1.2, if_pos ⟨rfl, rfl⟩]
  have fe_0_159_1 : w_fi ws (n_v vs 0) 159 = w_fi w1 (n_v vs 0) 159 := by show v_iv (w_fd _ _ _) = v_iv (w_fd _ _ _); rw [s1.2, if_neg (fun e => absurd e.2 (by decide))]
  have fe_0_164_1 : w_fi ws (n_v vs 0) 164 = w_fi w1 (n_v vs 0) 164 := by show v_iv (w_fd _ _ _) = v_iv (w_fd _ _ _); rw [s1.2, if_neg (fun e => absurd e.2 (by decide))]
  have fe_0_165_1 : w_fi ws (n_v vs 0) 165 = w_fi w1 (n_v vs 0) 165 := by show v_iv (w_fd _ _ _) = v_iv (w_fd _ _ _); rw [s1.2, if_neg (fun e => absurd e.2 (by decide))]
  have hE_0_160_1 : ∀ j : Int, w_ei ws (w_ar ws (n_v vs 0) 160) j = w_ei w1 (w_ar ws (n_v vs 0) 160) j := fun j => s1.1 _ _
  have hK_0_160 : ∀ j : Int, 0 ≤ j → j < 2010 → 0 ≤ w_ei ws (w_ar ws (n_v vs 0) 160) j ∧ w_ei ws (w_ar ws (n_v vs 0) 160) j ≤ 4 := fun j h0 h1 => th_el hD hth cr_0_160 (kd := 0) (n := 2010) (m := 2010) (lo := 0) (hi := 4) (rs := []) (L := []) rfl (by decide) (j := j.toNat) (by omega)
  have kz_0_8 : 0 ≤ w_fi ws (n_v vs 0) 8 ∧ w_fi ws (n_v vs 0) 8 ≤ 5 := tv_rng (th_fd hD hth r0 (g := GG_150) rfl (k := 8) (t := (0, 0, 5, [])) rfl rfl)
  have kz_0_157 : 0 ≤ w_fi ws (n_v vs 0) 157 ∧ w_fi ws (n_v vs 0) 157 ≤ 2010 := tv_rng (th_fd hD hth r0 (g := GG_150) rfl (k := 157) (t := (0, 0, 2010, [])) rfl rfl)
  have kz_0_158 : 0 ≤ w_fi ws (n_v vs 0) 158 ∧ w_fi ws (n_v vs 0) 158 ≤ 2009 := tv_rng (th_fd hD hth r0 (g := GG_150) rfl (k := 158) (t := (0, 0, 2009, [])) rfl rfl)
  have kz_0_159 : 0 ≤ w_fi ws (n_v vs 0) 159 ∧ w_fi ws (n_v vs 0) 159 ≤ 13 := tv_rng (th_fd hD hth r0 (g := GG_150) rfl (k := 159) (t := (0, 0, 13, [])) rfl rfl)
  have kz_0_164 : 0 ≤ w_fi ws (n_v vs 0) 164 ∧ w_fi ws (n_v vs 0) 164 ≤ 1 := tv_rng (th_fd hD hth r0 (g := GG_150) rfl (k := 164) (t := (0, 0, 1, [])) rfl rfl)
  have kz_0_165 : (-1) ≤ w_fi ws (n_v vs 0) 165 ∧ w_fi ws (n_v vs 0) 165 ≤ 47 := tv_rng (th_fd hD hth r0 (g := GG_150) rfl (k := 165) (t := (0, -1, 47, [])) rfl rfl)
  have kv0 : 0 ≤ w_fi ws (n_v vs 0) 158 ∧ w_fi ws (n_v vs 0) 158 ≤ 2009 := tv_rng (th_fd hD hth r0 (g := GG_150) rfl (k := 158) (t := (0, 0, 2009, [])) rfl rfl)
  obtain ⟨x, ex, hx⟩ := iv_ex (ta := ta) (lo := 0) (hi := 2009) (z := w_fi ws (n_v vs 0) 158) (by omega) (by omega) (by omega) (by omega)
  have ex2 : v_iv (Value.int x) = w_fi ws (n_v vs 0) 158 := ex
  have ex3 : 0 ≤ v_iv (Value.int x) ∧ v_iv (Value.int x) ≤ 2009 := tv_rng hx
  have e_0 : n_v (vs ++ [Value.int x]) 0 = n_v vs 0 := n_v_old (by rw [hl]; decide)
  have e_1 : n_v (vs ++ [Value.int x]) 1 = n_v vs 1 := n_v_old (by rw [hl]; decide)
  have e_23 : n_v (vs ++ [Value.int x]) 23 = Value.int x := n_v_new hl
  have nf0 : fc_1 (20, [0], [50, 2, 1, 158, 157, 160, 2, 12, 0, 7, 4, 3, 2, 0, 158, 0, 1, 2, 0, 157, 2, 7, 0, 3, 2, 0, 157, 0, 2010, 3, 14, 1, 10, 3, 0, 160, 5, 3, 2, 0, 157, 0, 1, 0, 0, 1, 10, 3, 0, 160, 5, 3, 2, 0, 157, 0, 1, 0, 4]) ws (vs ++ [Value.int x]) := by
    refine ⟨fun n hn => ?_, ?_⟩
    · have hn : n ∈ [0] := hn
      rw [List.length_append, hl]
      simp only [List.mem_cons, List.not_mem_nil, or_false] at hn
      show n < 23 + 1; omega
    · show ((w_fi ws (n_v (vs ++ [Value.int x]) 0) 158 + 1) ≤ w_fi ws (n_v (vs ++ [Value.int x]) 0) 157) ∧ ((w_fi ws (n_v (vs ++ [Value.int x]) 0) 157 ≤ 2010) ∧ ((w_ei ws (w_ar ws (n_v (vs ++ [Value.int x]) 0) 160) ((w_fi ws (n_v (vs ++ [Value.int x]) 0) 157 - 1)) = 0) ∨ (w_ei ws (w_ar ws (n_v (vs ++ [Value.int x]) 0) 160) ((w_fi ws (n_v (vs ++ [Value.int x]) 0) 157 - 1)) = 4)))
      rw [e_0]
      first | omega | grind
  have nf1 : fc_1 (20, [0, 23], [30, 0, 1, 1, 158, -1, 0, 0]) ws (vs ++ [Value.int x]) := by
    refine ⟨fun n hn => ?_, ?_⟩
    · have hn : n ∈ [0, 23] := hn
      rw [List.length_append, hl]
      simp only [List.mem_cons, List.not_mem_nil, or_false] at hn
      show n < 23 + 1; omega
    · show 1 * w_fi ws (n_v (vs ++ [Value.int x]) 0) 158 + ((-1) * v_iv (n_v (vs ++ [Value.int x]) 23) + 0) ≤ 0
      rw [e_0]
      rw [e_23]
      omega
  have nf2 : fc_1 (20, [0, 23], [30, 0, -1, 1, 158, 1, 0, 0]) ws (vs ++ [Value.int x]) := by
    refine ⟨fun n hn => ?_, ?_⟩
    · have hn : n ∈ [0, 23] := hn
      rw [List.length_append, hl]
      simp only [List.mem_cons, List.not_mem_nil, or_false] at hn
      show n < 23 + 1; omega
    · show (-1) * w_fi ws (n_v (vs ++ [Value.int x]) 0) 158 + (1 * v_iv (n_v (vs ++ [Value.int x]) 23) + 0) ≤ 0
      rw [e_0]
      rw [e_23]
      omega
  have nf3 : fc_1 (20, [0], [50, 2, 0, 164, 165, 4, 7, 1, 3, 2, 0, 164, 0, 0, 0, 3, 2, 0, 165, 0, 23]) ws (vs ++ [Value.int x]) := by
    refine ⟨fun n hn => ?_, ?_⟩
    · have hn : n ∈ [0] := hn
      rw [List.length_append, hl]
      simp only [List.mem_cons, List.not_mem_nil, or_false] at hn
      show n < 23 + 1; omega
    · show (w_fi ws (n_v (vs ++ [Value.int x]) 0) 164 = 0) → (w_fi ws (n_v (vs ++ [Value.int x]) 0) 165 ≤ 23)
      rw [e_0]
      first | omega | grind
  have nf4 : fc_1 (20, [0], [30, k, 1, 1, 159]) ws (vs ++ [Value.int x]) := by
    refine ⟨fun n hn => ?_, ?_⟩
    · have hn : n ∈ [0] := hn
      rw [List.length_append, hl]
      simp only [List.mem_cons, List.not_mem_nil, or_false] at hn
      show n < 23 + 1; omega
    · show 1 * w_fi ws (n_v (vs ++ [Value.int x]) 0) 159 + 0 ≤ k
      rw [e_0]
      omega
  have nf5 : fc_1 (20, [0], [30, (-k), -1, 1, 159]) ws (vs ++ [Value.int x]) := by
    refine ⟨fun n hn => ?_, ?_⟩
    · have hn : n ∈ [0] := hn
      rw [List.length_append, hl]
      simp only [List.mem_cons, List.not_mem_nil, or_false] at hn
      show n < 23 + 1; omega
    · show (-1) * w_fi ws (n_v (vs ++ [Value.int x]) 0) 159 + 0 ≤ ((-k))
      rw [e_0]
      omega
  have nf6 : fc_1 (23, [1, 23], [0, 1, -1]) ws (vs ++ [Value.int x]) := by
    refine ⟨fun n hn => ?_, ?_⟩
    · have hn : n ∈ [1, 23] := hn
      rw [List.length_append, hl]
      simp only [List.mem_cons, List.not_mem_nil, or_false] at hn
      show n < 23 + 1; omega
    · show 1 * v_iv (n_v (vs ++ [Value.int x]) 1) + ((-1) * v_iv (n_v (vs ++ [Value.int x]) 23) + 0) ≤ 0
      rw [e_1]
      rw [e_23]
      omega
  exact ⟨(fun _ h => (by cases h)), [Value.int x], ag_one hx, List.forall_mem_cons.mpr ⟨⟨show (20 : Nat) < 100 from by decide, nf0⟩, List.forall_mem_cons.mpr ⟨⟨show (20 : Nat) < 100 from by decide, nf1⟩, List.forall_mem_cons.mpr ⟨⟨show (20 : Nat) < 100 from by decide, nf2⟩, List.forall_mem_cons.mpr ⟨⟨show (20 : Nat) < 100 from by decide, nf3⟩, List.forall_mem_cons.mpr ⟨⟨show (20 : Nat) < 100 from by decide, nf4⟩, List.forall_mem_cons.mpr ⟨⟨show (20 : Nat) < 100 from by decide, nf5⟩, List.forall_mem_cons.mpr ⟨⟨show (23 : Nat) < 100 from by decide, nf6⟩, (fun _ h => (by cases h))⟩⟩⟩⟩⟩⟩⟩, (fun _ h => (by cases h))⟩
def o_Mo_oneTest_f_3 (k : Int) : or_T := (230, 28, [(0, (2, 0, 0, [150])), (1, (0, 0, 2009, [])), (7, (0, 0, 2009, [])), (18, (0, 0, 2009, [])), (21, (0, 1, 1, [])), (22, (0, 1, 2009, [])), (23, (0, 0, 2009, []))], [(20, [0], [50, 2, 0, 164, 165, 4, 7, 1, 3, 2, 0, 164, 0, 0, 0, 3, 2, 0, 165, 0, 23]), (23, [1, 23], [0, 1, -1]), (20, [0], [50, 2, 0, 164, 165, 4, 7, 1, 3, 2, 0, 164, 0, 0, 0, 3, 2, 0, 165, 0, 23]), (23, [1, 7], [0, 1, -1]), (20, [0], [50, 2, 0, 164, 165, 4, 7, 1, 3, 2, 0, 164, 0, 0, 0, 3, 2, 0, 165, 0, 23]), (20, [0], [50, 2, 1, 158, 157, 160, 2, 12, 0, 7, 4, 3, 2, 0, 158, 0, 1, 2, 0, 157, 2, 7, 0, 3, 2, 0, 157, 0, 2010, 3, 14, 1, 10, 3, 0, 160, 5, 3, 2, 0, 157, 0, 1, 0, 0, 1, 10, 3, 0, 160, 5, 3, 2, 0, 157, 0, 1, 0, 4]), (20, [23, 0], [30, 0, 1, 0, 0, -1, 1, 158]), (20, [0], [30, k, 1, 1, 159]), (20, [0], [30, (-k), -1, 1, 159]), (102, [23], [0, 13008, 13009, 13158, 13159]), (23, [1, 23], [0, 1, -1]), (23, [1, 7], [0, 1, -1]), (101, [0, 22], [158]), (1, [22, 18, 21], []), (23, [1, 7], [0, 1, -1]), (102, [19], [0, 13008, 13009]), (23, [1, 7], [0, 1, -1]), (102, [7], [0, 13008, 13009, 13158, 13159]), (23, [1, 7], [0, 1, -1])], [], [], [(20, [1, 0], [30, 0, 1, 0, 0, -1, 1, 158])], [], [(22, 18, 1, 1)])
theorem oo_Mo_oneTest_f_3 {kA : Nat → ClassId} (k : Int) (hk0 : 0 ≤ k) (hk1 : k ≤ 12) : or_ok kA GG (o_Mo_oneTest_f_3 k) := by
  intro A ta ws vs hD hth hl hk hds hf
  have hl : vs.length = 28 := hl
  have hk : ∀ q ∈ ([(0, (2, 0, 0, [150])), (1, (0, 0, 2009, [])), (7, (0, 0, 2009, [])), (18, (0, 0, 2009, [])), (21, (0, 1, 1, [])), (22, (0, 1, 2009, [])), (23, (0, 0, 2009, []))] : List (Nat × tv_T)), tv_ok ta q.2 (n_v vs q.1) := hk
  obtain ⟨t0, hk⟩ := List.forall_mem_cons.mp hk
  have t0 : tv_ok ta (2, 0, 0, [150]) (n_v vs 0) := t0
  have r0 : ta (v_ad (n_v vs 0)) = some 150 := tv_rg t0
  obtain ⟨t1, hk⟩ := List.forall_mem_cons.mp hk
  have t1 : tv_ok ta (0, 0, 2009, []) (n_v vs 1) := t1
  have k1 : 0 ≤ v_iv (n_v vs 1) ∧ v_iv (n_v vs 1) ≤ 2009 := tv_rng t1
  obtain ⟨t7, hk⟩ := List.forall_mem_cons.mp hk
  have t7 : tv_ok ta (0, 0, 2009, []) (n_v vs 7) := t7
  have k7 : 0 ≤ v_iv (n_v vs 7) ∧ v_iv (n_v vs 7) ≤ 2009 := tv_rng t7
  obtain ⟨t18, hk⟩ := List.forall_mem_cons.mp hk
  have t18 : tv_ok ta (0, 0, 2009, []) (n_v vs 18) := t18
  have k18 : 0 ≤ v_iv (n_v vs 18) ∧ v_iv (n_v vs 18) ≤ 2009 := tv_rng t18
  obtain ⟨t21, hk⟩ := List.forall_mem_cons.mp hk
  have t21 : tv_ok ta (0, 1, 1, []) (n_v vs 21) := t21
  have k21 : 1 ≤ v_iv (n_v vs 21) ∧ v_iv (n_v vs 21) ≤ 1 := tv_rng t21
  obtain ⟨t22, hk⟩ := List.forall_mem_cons.mp hk
  have t22 : tv_ok ta (0, 1, 2009, []) (n_v vs 22) := t22
  have k22 : 1 ≤ v_iv (n_v vs 22) ∧ v_iv (n_v vs 22) ≤ 2009 := tv_rng t22
  obtain ⟨t23, hk⟩ := List.forall_mem_cons.mp hk
  have t23 : tv_ok ta (0, 0, 2009, []) (n_v vs 23) := t23
  have k23 : 0 ≤ v_iv (n_v vs 23) ∧ v_iv (n_v vs 23) ≤ 2009 := tv_rng t23
  have hds : ∀ q ∈ ([(22, 18, 1, 1)] : List of_T), n_iv vs q.2.1 + q.2.2.1 ≤ n_iv vs q.1 ∧ n_iv vs q.1 ≤ n_iv vs q.2.1 + q.2.2.2 := hds
  obtain ⟨d0, hds⟩ := List.forall_mem_cons.mp hds
  have d0 : v_iv (n_v vs 18) + 1 ≤ v_iv (n_v vs 22) ∧ v_iv (n_v vs 22) ≤ v_iv (n_v vs 18) + 1 := d0
  have hf : fc_ok [(20, [0], [50, 2, 0, 164, 165, 4, 7, 1, 3, 2, 0, 164, 0, 0, 0, 3, 2, 0, 165, 0, 23]), (23, [1, 23], [0, 1, -1]), (20, [0], [50, 2, 0, 164, 165, 4, 7, 1, 3, 2, 0, 164, 0, 0, 0, 3, 2, 0, 165, 0, 23]), (23, [1, 7], [0, 1, -1]), (20, [0], [50, 2, 0, 164, 165, 4, 7, 1, 3, 2, 0, 164, 0, 0, 0, 3, 2, 0, 165, 0, 23]), (20, [0], [50, 2, 1, 158, 157, 160, 2, 12, 0, 7, 4, 3, 2, 0, 158, 0, 1, 2, 0, 157, 2, 7, 0, 3, 2, 0, 157, 0, 2010, 3, 14, 1, 10, 3, 0, 160, 5, 3, 2, 0, 157, 0, 1, 0, 0, 1, 10, 3, 0, 160, 5, 3, 2, 0, 157, 0, 1, 0, 4]), (20, [23, 0], [30, 0, 1, 0, 0, -1, 1, 158]), (20, [0], [30, k, 1, 1, 159]), (20, [0], [30, (-k), -1, 1, 159]), (102, [23], [0, 13008, 13009, 13158, 13159]), (23, [1, 23], [0, 1, -1]), (23, [1, 7], [0, 1, -1]), (101, [0, 22], [158]), (1, [22, 18, 21], []), (23, [1, 7], [0, 1, -1]), (102, [19], [0, 13008, 13009]), (23, [1, 7], [0, 1, -1]), (102, [7], [0, 13008, 13009, 13158, 13159]), (23, [1, 7], [0, 1, -1])] ta ws vs := hf
  obtain ⟨f0, hf⟩ := fc_un (show (20 : Nat) < 100 from by decide) hf
  have f0 : (w_fi ws (n_v vs 0) 164 = 0) → (w_fi ws (n_v vs 0) 165 ≤ 23) := f0
  obtain ⟨f1, hf⟩ := fc_un (show (23 : Nat) < 100 from by decide) hf
  have f1 : 1 * v_iv (n_v vs 1) + ((-1) * v_iv (n_v vs 23) + 0) ≤ 0 := f1
  obtain ⟨f2, hf⟩ := fc_un (show (20 : Nat) < 100 from by decide) hf
  have f2 : (w_fi ws (n_v vs 0) 164 = 0) → (w_fi ws (n_v vs 0) 165 ≤ 23) := f2
  obtain ⟨f3, hf⟩ := fc_un (show (23 : Nat) < 100 from by decide) hf
  have f3 : 1 * v_iv (n_v vs 1) + ((-1) * v_iv (n_v vs 7) + 0) ≤ 0 := f3
  obtain ⟨f4, hf⟩ := fc_un (show (20 : Nat) < 100 from by decide) hf
  have f4 : (w_fi ws (n_v vs 0) 164 = 0) → (w_fi ws (n_v vs 0) 165 ≤ 23) := f4
  obtain ⟨f5, hf⟩ := fc_un (show (20 : Nat) < 100 from by decide) hf
  have f5 : ((w_fi ws (n_v vs 0) 158 + 1) ≤ w_fi ws (n_v vs 0) 157) ∧ ((w_fi ws (n_v vs 0) 157 ≤ 2010) ∧ ((w_ei ws (w_ar ws (n_v vs 0) 160) ((w_fi ws (n_v vs 0) 157 - 1)) = 0) ∨ (w_ei ws (w_ar ws (n_v vs 0) 160) ((w_fi ws (n_v vs 0) 157 - 1)) = 4))) := f5
  obtain ⟨f6, hf⟩ := fc_un (show (20 : Nat) < 100 from by decide) hf
  have f6 : 1 * v_iv (n_v vs 23) + ((-1) * w_fi ws (n_v vs 0) 158 + 0) ≤ 0 := f6
  obtain ⟨f7, hf⟩ := fc_un (show (20 : Nat) < 100 from by decide) hf
  have f7 : 1 * w_fi ws (n_v vs 0) 159 + 0 ≤ k := f7
  obtain ⟨f8, hf⟩ := fc_un (show (20 : Nat) < 100 from by decide) hf
  have f8 : (-1) * w_fi ws (n_v vs 0) 159 + 0 ≤ ((-k)) := f8
  obtain ⟨ta1, w1, le1, ⟨_, s1⟩, hf⟩ := fc_us (show ¬ (102 : Nat) < 100 from by decide) hf
  obtain ⟨f10, hf⟩ := fc_un (show (23 : Nat) < 100 from by decide) hf
  have f10 : 1 * v_iv (n_v vs 1) + ((-1) * v_iv (n_v vs 23) + 0) ≤ 0 := f10
  obtain ⟨f11, hf⟩ := fc_un (show (23 : Nat) < 100 from by decide) hf
  have f11 : 1 * v_iv (n_v vs 1) + ((-1) * v_iv (n_v vs 7) + 0) ≤ 0 := f11
  obtain ⟨ta2, w2, le2, ⟨_, s2⟩, hf⟩ := fc_us (show ¬ (101 : Nat) < 100 from by decide) hf
  have s2 : (∀ b j, w_el w1 b j = w_el w2 b j) ∧ ∀ b j, w_fd w1 b j = if b = v_ad (n_v vs 0) ∧ j = 158 then n_v vs 22 else w_fd w2 b j := s2
  obtain ⟨f13, hf⟩ := fc_un (show (1 : Nat) < 100 from by decide) hf
  have f13 : v_iv (n_v vs 22) = v_iv (n_v vs 18) + v_iv (n_v vs 21) := f13
  obtain ⟨f14, hf⟩ := fc_un (show (23 : Nat) < 100 from by decide) hf
  have f14 : 1 * v_iv (n_v vs 1) + ((-1) * v_iv (n_v vs 7) + 0) ≤ 0 := f14
  obtain ⟨ta3, w3, le3, ⟨_, s3⟩, hf⟩ := fc_us (show ¬ (102 : Nat) < 100 from by decide) hf
  obtain ⟨f16, hf⟩ := fc_un (show (23 : Nat) < 100 from by decide) hf
  have f16 : 1 * v_iv (n_v vs 1) + ((-1) * v_iv (n_v vs 7) + 0) ≤ 0 := f16
  obtain ⟨ta4, w4, le4, ⟨_, s4⟩, hf⟩ := fc_us (show ¬ (102 : Nat) < 100 from by decide) hf
  obtain ⟨f18, hf⟩ := fc_un (show (23 : Nat) < 100 from by decide) hf
  have f18 : 1 * v_iv (n_v vs 1) + ((-1) * v_iv (n_v vs 7) + 0) ≤ 0 := f18
  have cr_0_160 : ta (w_ar ws (n_v vs 0) 160) = some 259 := tv_rg (th_fd hD hth r0 (g := GG_150) rfl (k := 160) (t := (2, 0, 0, [259])) rfl rfl)
  have hK_0_160 : ∀ j : Int, 0 ≤ j → j < 2010 → 0 ≤ w_ei ws (w_ar ws (n_v vs 0) 160) j ∧ w_ei ws (w_ar ws (n_v vs 0) 160) j ≤ 4 := fun j h0 h1 => th_el hD hth cr_0_160 (kd := 0) (n := 2010) (m := 2010) (lo := 0) (hi := 4) (rs := []) (L := []) rfl (by decide) (j := j.toNat) (by omega)
  have kz_0_157 : 0 ≤ w_fi ws (n_v vs 0) 157 ∧ w_fi ws (n_v vs 0) 157 ≤ 2010 := tv_rng (th_fd hD hth r0 (g := GG_150) rfl (k := 157) (t := (0, 0, 2010, [])) rfl rfl)
  have kz_0_158 : 0 ≤ w_fi ws (n_v vs 0) 158 ∧ w_fi ws (n_v vs 0) 158 ≤ 2009 := tv_rng (th_fd hD hth r0 (g := GG_150) rfl (k := 158) (t := (0, 0, 2009, [])) rfl rfl)
  have kz_0_159 : 0 ≤ w_fi ws (n_v vs 0) 159 ∧ w_fi ws (n_v vs 0) 159 ≤ 13 := tv_rng (th_fd hD hth r0 (g := GG_150) rfl (k := 159) (t := (0, 0, 13, [])) rfl rfl)
  have kz_0_164 : 0 ≤ w_fi ws (n_v vs 0) 164 ∧ w_fi ws (n_v vs 0) 164 ≤ 1 := tv_rng (th_fd hD hth r0 (g := GG_150) rfl (k := 164) (t := (0, 0, 1, [])) rfl rfl)
  have kz_0_165 : (-1) ≤ w_fi ws (n_v vs 0) 165 ∧ w_fi ws (n_v vs 0) 165 ≤ 47 := tv_rng (th_fd hD hth r0 (g := GG_150) rfl (k := 165) (t := (0, -1, 47, [])) rfl rfl)
  have nf0 : fc_1 (20, [1, 0], [30, 0, 1, 0, 0, -1, 1, 158]) ws (vs) := by
    refine ⟨fun n hn => ?_, ?_⟩
    · have hn : n ∈ [1, 0] := hn
      rw [hl]
      simp only [List.mem_cons, List.not_mem_nil, or_false] at hn
      show n < 28; omega
    · show 1 * v_iv (n_v vs 1) + ((-1) * w_fi ws (n_v vs 0) 158 + 0) ≤ 0
      omega
  refine ⟨(fun _ h => (by cases h)), [], trivial, ?_, (fun _ h => (by cases h))⟩
  rw [List.append_nil]
  exact List.forall_mem_cons.mpr ⟨⟨show (20 : Nat) < 100 from by decide, nf0⟩, (fun _ h => (by cases h))⟩
def o_Mo_oneTest_f_4 (k : Int) : or_T := (159, 22, [(0, (2, 0, 0, [150])), (1, (0, 0, 2009, [])), (7, (0, 0, 2009, [])), (10, (0, 0, 0, [])), (12, (0, 0, 0, [])), (14, (0, 0, 0, [])), (20, (0, 1, 5, []))], [(8, [20], [4]), (9, [20, 0], [8]), (20, [14, 0], [50, 1, 1, 1158, 1160, 4, 6, 1, 2, 1, 0, 0, 1, 1, 6, 3, 1, 160, 2, 1, 158, 0, 3]), (20, [12, 0], [50, 1, 1, 1158, 1160, 4, 6, 1, 2, 1, 0, 0, 1, 1, 6, 3, 1, 160, 2, 1, 158, 0, 3]), (20, [10, 0], [50, 1, 1, 1158, 1160, 4, 6, 1, 2, 1, 0, 0, 1, 1, 6, 3, 1, 160, 2, 1, 158, 0, 3]), (20, [0], [50, 2, 0, 164, 165, 4, 7, 1, 3, 2, 0, 164, 0, 0, 0, 3, 2, 0, 165, 0, 23]), (23, [1, 7], [0, 1, -1]), (20, [0], [50, 2, 0, 164, 165, 4, 7, 1, 3, 2, 0, 164, 0, 0, 0, 3, 2, 0, 165, 0, 23]), (20, [0], [50, 2, 1, 158, 157, 160, 2, 12, 0, 7, 4, 3, 2, 0, 158, 0, 1, 2, 0, 157, 2, 7, 0, 3, 2, 0, 157, 0, 2010, 3, 14, 1, 10, 3, 0, 160, 5, 3, 2, 0, 157, 0, 1, 0, 0, 1, 10, 3, 0, 160, 5, 3, 2, 0, 157, 0, 1, 0, 4]), (20, [7, 0], [30, 0, 1, 0, 0, -1, 1, 158]), (20, [0], [30, k, 1, 1, 159]), (20, [0], [30, (-k), -1, 1, 159]), (20, [0], [30, -1, -1, 1, 8]), (102, [19], [0, 13008, 13009]), (8, [14], [0]), (8, [12], [0]), (8, [10], [0]), (23, [1, 7], [0, 1, -1]), (102, [7], [0, 13008, 13009, 13158, 13159]), (23, [1, 7], [0, 1, -1])], [], [], [(20, [1, 0], [30, 0, 1, 0, 0, -1, 1, 158])], [], [])
theorem oo_Mo_oneTest_f_4 {kA : Nat → ClassId} (k : Int) (hk0 : 0 ≤ k) (hk1 : k ≤ 12) : or_ok kA GG (o_Mo_oneTest_f_4 k) := by
  intro A ta ws vs hD hth hl hk hds hf
  have hl : vs.length = 22 := hl
  have hk : ∀ q ∈ ([(0, (2, 0, 0, [150])), (1, (0, 0, 2009, [])), (7, (0, 0, 2009, [])), (10, (0, 0, 0, [])), (12, (0, 0, 0, [])), (14, (0, 0, 0, [])), (20, (0, 1, 5, []))] : List (Nat × tv_T)), tv_ok ta q.2 (n_v vs q.1) := hk
  obtain ⟨t0, hk⟩ := List.forall_mem_cons.mp hk
  have t0 : tv_ok ta (2, 0, 0, [150]) (n_v vs 0) := t0
  have r0 : ta (v_ad (n_v vs 0)) = some 150 := tv_rg t0
  obtain ⟨t1, hk⟩ := List.forall_mem_cons.mp hk
  have t1 : tv_ok ta (0, 0, 2009, []) (n_v vs 1) := t1
  have k1 : 0 ≤ v_iv (n_v vs 1) ∧ v_iv (n_v vs 1) ≤ 2009 := tv_rng t1
  obtain ⟨t7, hk⟩ := List.forall_mem_cons.mp hk
  have t7 : tv_ok ta (0, 0, 2009, []) (n_v vs 7) := t7
  have k7 : 0 ≤ v_iv (n_v vs 7) ∧ v_iv (n_v vs 7) ≤ 2009 := tv_rng t7
  obtain ⟨t10, hk⟩ := List.forall_mem_cons.mp hk
  have t10 : tv_ok ta (0, 0, 0, []) (n_v vs 10) := t10
  have k10 : 0 ≤ v_iv (n_v vs 10) ∧ v_iv (n_v vs 10) ≤ 0 := tv_rng t10
  obtain ⟨t12, hk⟩ := List.forall_mem_cons.mp hk
  have t12 : tv_ok ta (0, 0, 0, []) (n_v vs 12) := t12
  have k12 : 0 ≤ v_iv (n_v vs 12) ∧ v_iv (n_v vs 12) ≤ 0 := tv_rng t12
  obtain ⟨t14, hk⟩ := List.forall_mem_cons.mp hk
  have t14 : tv_ok ta (0, 0, 0, []) (n_v vs 14) := t14
  have k14 : 0 ≤ v_iv (n_v vs 14) ∧ v_iv (n_v vs 14) ≤ 0 := tv_rng t14
  obtain ⟨t20, hk⟩ := List.forall_mem_cons.mp hk
  have t20 : tv_ok ta (0, 1, 5, []) (n_v vs 20) := t20
  have k20 : 1 ≤ v_iv (n_v vs 20) ∧ v_iv (n_v vs 20) ≤ 5 := tv_rng t20
  have hf : fc_ok [(8, [20], [4]), (9, [20, 0], [8]), (20, [14, 0], [50, 1, 1, 1158, 1160, 4, 6, 1, 2, 1, 0, 0, 1, 1, 6, 3, 1, 160, 2, 1, 158, 0, 3]), (20, [12, 0], [50, 1, 1, 1158, 1160, 4, 6, 1, 2, 1, 0, 0, 1, 1, 6, 3, 1, 160, 2, 1, 158, 0, 3]), (20, [10, 0], [50, 1, 1, 1158, 1160, 4, 6, 1, 2, 1, 0, 0, 1, 1, 6, 3, 1, 160, 2, 1, 158, 0, 3]), (20, [0], [50, 2, 0, 164, 165, 4, 7, 1, 3, 2, 0, 164, 0, 0, 0, 3, 2, 0, 165, 0, 23]), (23, [1, 7], [0, 1, -1]), (20, [0], [50, 2, 0, 164, 165, 4, 7, 1, 3, 2, 0, 164, 0, 0, 0, 3, 2, 0, 165, 0, 23]), (20, [0], [50, 2, 1, 158, 157, 160, 2, 12, 0, 7, 4, 3, 2, 0, 158, 0, 1, 2, 0, 157, 2, 7, 0, 3, 2, 0, 157, 0, 2010, 3, 14, 1, 10, 3, 0, 160, 5, 3, 2, 0, 157, 0, 1, 0, 0, 1, 10, 3, 0, 160, 5, 3, 2, 0, 157, 0, 1, 0, 4]), (20, [7, 0], [30, 0, 1, 0, 0, -1, 1, 158]), (20, [0], [30, k, 1, 1, 159]), (20, [0], [30, (-k), -1, 1, 159]), (20, [0], [30, -1, -1, 1, 8]), (102, [19], [0, 13008, 13009]), (8, [14], [0]), (8, [12], [0]), (8, [10], [0]), (23, [1, 7], [0, 1, -1]), (102, [7], [0, 13008, 13009, 13158, 13159]), (23, [1, 7], [0, 1, -1])] ta ws vs := hf
  obtain ⟨f0, hf⟩ := fc_un (show (8 : Nat) < 100 from by decide) hf
  have f0 : 0 < v_iv (n_v vs 20) := f0
  obtain ⟨f1, hf⟩ := fc_un (show (9 : Nat) < 100 from by decide) hf
  have f1 : n_v vs 20 = w_fd ws (v_ad (n_v vs 0)) 8 := f1
  obtain ⟨f2, hf⟩ := fc_un (show (20 : Nat) < 100 from by decide) hf
  have f2 : (v_iv (n_v vs 14) = 1) → (w_ei ws (w_ar ws (n_v vs 0) 160) (w_fi ws (n_v vs 0) 158) = 3) := f2
  obtain ⟨f3, hf⟩ := fc_un (show (20 : Nat) < 100 from by decide) hf
  have f3 : (v_iv (n_v vs 12) = 1) → (w_ei ws (w_ar ws (n_v vs 0) 160) (w_fi ws (n_v vs 0) 158) = 3) := f3
  obtain ⟨f4, hf⟩ := fc_un (show (20 : Nat) < 100 from by decide) hf
  have f4 : (v_iv (n_v vs 10) = 1) → (w_ei ws (w_ar ws (n_v vs 0) 160) (w_fi ws (n_v vs 0) 158) = 3) := f4
  obtain ⟨f5, hf⟩ := fc_un (show (20 : Nat) < 100 from by decide) hf
  have f5 : (w_fi ws (n_v vs 0) 164 = 0) → (w_fi ws (n_v vs 0) 165 ≤ 23) := f5
  obtain ⟨f6, hf⟩ := fc_un (show (23 : Nat) < 100 from by decide) hf
  have f6 : 1 * v_iv (n_v vs 1) + ((-1) * v_iv (n_v vs 7) + 0) ≤ 0 := f6
  obtain ⟨f7, hf⟩ := fc_un (show (20 : Nat) < 100 from by decide) hf
  have f7 : (w_fi ws (n_v vs 0) 164 = 0) → (w_fi ws (n_v vs 0) 165 ≤ 23) := f7
  obtain ⟨f8, hf⟩ := fc_un (show (20 : Nat) < 100 from by decide) hf
  have f8 : ((w_fi ws (n_v vs 0) 158 + 1) ≤ w_fi ws (n_v vs 0) 157) ∧ ((w_fi ws (n_v vs 0) 157 ≤ 2010) ∧ ((w_ei ws (w_ar ws (n_v vs 0) 160) ((w_fi ws (n_v vs 0) 157 - 1)) = 0) ∨ (w_ei ws (w_ar ws (n_v vs 0) 160) ((w_fi ws (n_v vs 0) 157 - 1)) = 4))) := f8
  obtain ⟨f9, hf⟩ := fc_un (show (20 : Nat) < 100 from by decide) hf
  have f9 : 1 * v_iv (n_v vs 7) + ((-1) * w_fi ws (n_v vs 0) 158 + 0) ≤ 0 := f9
  obtain ⟨f10, hf⟩ := fc_un (show (20 : Nat) < 100 from by decide) hf
  have f10 : 1 * w_fi ws (n_v vs 0) 159 + 0 ≤ k := f10
  obtain ⟨f11, hf⟩ := fc_un (show (20 : Nat) < 100 from by decide) hf
  have f11 : (-1) * w_fi ws (n_v vs 0) 159 + 0 ≤ ((-k)) := f11
  obtain ⟨f12, hf⟩ := fc_un (show (20 : Nat) < 100 from by decide) hf
  have f12 : (-1) * w_fi ws (n_v vs 0) 8 + 0 ≤ (-1) := f12
  obtain ⟨ta1, w1, le1, ⟨_, s1⟩, hf⟩ := fc_us (show ¬ (102 : Nat) < 100 from by decide) hf
  obtain ⟨f14, hf⟩ := fc_un (show (8 : Nat) < 100 from by decide) hf
  have f14 : v_iv (n_v vs 14) = 0 := f14
  obtain ⟨f15, hf⟩ := fc_un (show (8 : Nat) < 100 from by decide) hf
  have f15 : v_iv (n_v vs 12) = 0 := f15
  obtain ⟨f16, hf⟩ := fc_un (show (8 : Nat) < 100 from by decide) hf
  have f16 : v_iv (n_v vs 10) = 0 := f16
  obtain ⟨f17, hf⟩ := fc_un (show (23 : Nat) < 100 from by decide) hf
  have f17 : 1 * v_iv (n_v vs 1) + ((-1) * v_iv (n_v vs 7) + 0) ≤ 0 := f17
  obtain ⟨ta2, w2, le2, ⟨_, s2⟩, hf⟩ := fc_us (show ¬ (102 : Nat) < 100 from by decide) hf
  obtain ⟨f19, hf⟩ := fc_un (show (23 : Nat) < 100 from by decide) hf
  have f19 : 1 * v_iv (n_v vs 1) + ((-1) * v_iv (n_v vs 7) + 0) ≤ 0 := f19
  have cr_0_160 : ta (w_ar ws (n_v vs 0) 160) = some 259 := tv_rg (th_fd hD hth r0 (g := GG_150) rfl (k := 160) (t := (2, 0, 0, [259])) rfl rfl)
  have g1 : v_iv (n_v vs 20) = w_fi ws (n_v vs 0) 8 := congrArg v_iv f1
  have hK_0_160 : ∀ j : Int, 0 ≤ j → j < 2010 → 0 ≤ w_ei ws (w_ar ws (n_v vs 0) 160) j ∧ w_ei ws (w_ar ws (n_v vs 0) 160) j ≤ 4 := fun j h0 h1 => th_el hD hth cr_0_160 (kd := 0) (n := 2010) (m := 2010) (lo := 0) (hi := 4) (rs := []) (L := []) rfl (by decide) (j := j.toNat) (by omega)
  have kz_0_8 : 0 ≤ w_fi ws (n_v vs 0) 8 ∧ w_fi ws (n_v vs 0) 8 ≤ 5 := tv_rng (th_fd hD hth r0 (g := GG_150) rfl (k := 8) (t := (0, 0, 5, [])) rfl rfl)
  have kz_0_157 : 0 ≤ w_fi ws (n_v vs 0) 157 ∧ w_fi ws (n_v vs 0) 157 ≤ 2010 := tv_rng (th_fd hD hth r0 (g := GG_150) rfl (k := 157) (t := (0, 0, 2010, [])) rfl rfl)
  have kz_0_158 : 0 ≤ w_fi ws (n_v vs 0) 158 ∧ w_fi ws (n_v vs 0) 158 ≤ 2009 := tv_rng (th_fd hD hth r0 (g := GG_150) rfl (k := 158) (t := (0, 0, 2009, [])) rfl rfl)
  have kz_0_159 : 0 ≤ w_fi ws (n_v vs 0) 159 ∧ w_fi ws (n_v vs 0) 159 ≤ 13 := tv_rng (th_fd hD hth r0 (g := GG_150) rfl (k := 159) (t := (0, 0, 13, [])) rfl rfl)
  have kz_0_164 : 0 ≤ w_fi ws (n_v vs 0) 164 ∧ w_fi ws (n_v vs 0) 164 ≤ 1 := tv_rng (th_fd hD hth r0 (g := GG_150) rfl (k := 164) (t := (0, 0, 1, [])) rfl rfl)
  have kz_0_165 : (-1) ≤ w_fi ws (n_v vs 0) 165 ∧ w_fi ws (n_v vs 0) 165 ≤ 47 := tv_rng (th_fd hD hth r0 (g := GG_150) rfl (k := 165) (t := (0, -1, 47, [])) rfl rfl)
  have nf0 : fc_1 (20, [1, 0], [30, 0, 1, 0, 0, -1, 1, 158]) ws (vs) := by
    refine ⟨fun n hn => ?_, ?_⟩
    · have hn : n ∈ [1, 0] := hn
      rw [hl]
      simp only [List.mem_cons, List.not_mem_nil, or_false] at hn
      show n < 22; omega
    · show 1 * v_iv (n_v vs 1) + ((-1) * w_fi ws (n_v vs 0) 158 + 0) ≤ 0
      omega
  refine ⟨(fun _ h => (by cases h)), [], trivial, ?_, (fun _ h => (by cases h))⟩
  rw [List.append_nil]
  exact List.forall_mem_cons.mpr ⟨⟨show (20 : Nat) < 100 from by decide, nf0⟩, (fun _ h => (by cases h))⟩
def o_Mo_oneTest_f_5 (k : Int) : or_T := (167, 20, [(0, (2, 0, 0, [150])), (1, (0, 0, 2009, [])), (7, (0, 0, 2009, [])), (10, (0, 0, 0, [])), (12, (0, 0, 0, [])), (14, (0, 1, 1, [])), (17, (0, 0, 2009, [])), (18, (0, 1, 1, [])), (19, (0, 1, 2010, []))], [(1, [19, 17, 18], []), (9, [17, 0], [158]), (8, [14], [1]), (20, [14, 0], [50, 1, 1, 1158, 1160, 4, 6, 1, 2, 1, 0, 0, 1, 1, 6, 3, 1, 160, 2, 1, 158, 0, 3]), (8, [12], [0]), (20, [12, 0], [50, 1, 1, 1158, 1160, 4, 6, 1, 2, 1, 0, 0, 1, 1, 6, 3, 1, 160, 2, 1, 158, 0, 3]), (8, [10], [0]), (20, [10, 0], [50, 1, 1, 1158, 1160, 4, 6, 1, 2, 1, 0, 0, 1, 1, 6, 3, 1, 160, 2, 1, 158, 0, 3]), (20, [0], [50, 2, 0, 164, 165, 4, 7, 1, 3, 2, 0, 164, 0, 0, 0, 3, 2, 0, 165, 0, 23]), (23, [1, 7], [0, 1, -1]), (20, [0], [50, 2, 0, 164, 165, 4, 7, 1, 3, 2, 0, 164, 0, 0, 0, 3, 2, 0, 165, 0, 23]), (20, [0], [50, 2, 1, 158, 157, 160, 2, 12, 0, 7, 4, 3, 2, 0, 158, 0, 1, 2, 0, 157, 2, 7, 0, 3, 2, 0, 157, 0, 2010, 3, 14, 1, 10, 3, 0, 160, 5, 3, 2, 0, 157, 0, 1, 0, 0, 1, 10, 3, 0, 160, 5, 3, 2, 0, 157, 0, 1, 0, 4]), (20, [7, 0], [30, 0, 1, 0, 0, -1, 1, 158]), (20, [0], [30, k, 1, 1, 159]), (20, [0], [30, (-k), -1, 1, 159]), (102, [7], [0, 13008, 13009, 13158, 13159]), (23, [1, 7], [0, 1, -1])], [(19, (0, 1, 2009, []))], [], [], [], [(19, 17, 1, 1)])
theorem oo_Mo_oneTest_f_5 {kA : Nat → ClassId} (k : Int) (hk0 : 0 ≤ k) (hk1 : k ≤ 12) : or_ok kA GG (o_Mo_oneTest_f_5 k) := by
  intro A ta ws vs hD hth hl hk hds hf
  have hl : vs.length = 20 := hl
  have hk : ∀ q ∈ ([(0, (2, 0, 0, [150])), (1, (0, 0, 2009, [])), (7, (0, 0, 2009, [])), (10, (0, 0, 0, [])), (12, (0, 0, 0, [])), (14, (0, 1, 1, [])), (17, (0, 0, 2009, [])), (18, (0, 1, 1, [])), (19, (0, 1, 2010, []))] : List (Nat × tv_T)), tv_ok ta q.2 (n_v vs q.1) := hk
  obtain ⟨t0, hk⟩ := List.forall_mem_cons.mp hk
  have t0 : tv_ok ta (2, 0, 0, [150]) (n_v vs 0) := t0
  have r0 : ta (v_ad (n_v vs 0)) = some 150 := tv_rg t0
  obtain ⟨t1, hk⟩ := List.forall_mem_cons.mp hk
  have t1 : tv_ok ta (0, 0, 2009, []) (n_v vs 1) := t1
  have k1 : 0 ≤ v_iv (n_v vs 1) ∧ v_iv (n_v vs 1) ≤ 2009 := tv_rng t1
  obtain ⟨t7, hk⟩ := List.forall_mem_cons.mp hk
  have t7 : tv_ok ta (0, 0, 2009, []) (n_v vs 7) := t7
  have k7 : 0 ≤ v_iv (n_v vs 7) ∧ v_iv (n_v vs 7) ≤ 2009 := tv_rng t7
  obtain ⟨t10, hk⟩ := List.forall_mem_cons.mp hk
  have t10 : tv_ok ta (0, 0, 0, []) (n_v vs 10) := t10
  have k10 : 0 ≤ v_iv (n_v vs 10) ∧ v_iv (n_v vs 10) ≤ 0 := tv_rng t10
  obtain ⟨t12, hk⟩ := List.forall_mem_cons.mp hk
  have t12 : tv_ok ta (0, 0, 0, []) (n_v vs 12) := t12
  have k12 : 0 ≤ v_iv (n_v vs 12) ∧ v_iv (n_v vs 12) ≤ 0 := tv_rng t12
  obtain ⟨t14, hk⟩ := List.forall_mem_cons.mp hk
  have t14 : tv_ok ta (0, 1, 1, []) (n_v vs 14) := t14
  have k14 : 1 ≤ v_iv (n_v vs 14) ∧ v_iv (n_v vs 14) ≤ 1 := tv_rng t14
  obtain ⟨t17, hk⟩ := List.forall_mem_cons.mp hk
  have t17 : tv_ok ta (0, 0, 2009, []) (n_v vs 17) := t17
  have k17 : 0 ≤ v_iv (n_v vs 17) ∧ v_iv (n_v vs 17) ≤ 2009 := tv_rng t17
  obtain ⟨t18, hk⟩ := List.forall_mem_cons.mp hk
  have t18 : tv_ok ta (0, 1, 1, []) (n_v vs 18) := t18
  have k18 : 1 ≤ v_iv (n_v vs 18) ∧ v_iv (n_v vs 18) ≤ 1 := tv_rng t18
  obtain ⟨t19, hk⟩ := List.forall_mem_cons.mp hk
  have t19 : tv_ok ta (0, 1, 2010, []) (n_v vs 19) := t19
  have k19 : 1 ≤ v_iv (n_v vs 19) ∧ v_iv (n_v vs 19) ≤ 2010 := tv_rng t19
  have hds : ∀ q ∈ ([(19, 17, 1, 1)] : List of_T), n_iv vs q.2.1 + q.2.2.1 ≤ n_iv vs q.1 ∧ n_iv vs q.1 ≤ n_iv vs q.2.1 + q.2.2.2 := hds
  obtain ⟨d0, hds⟩ := List.forall_mem_cons.mp hds
  have d0 : v_iv (n_v vs 17) + 1 ≤ v_iv (n_v vs 19) ∧ v_iv (n_v vs 19) ≤ v_iv (n_v vs 17) + 1 := d0
  have hf : fc_ok [(1, [19, 17, 18], []), (9, [17, 0], [158]), (8, [14], [1]), (20, [14, 0], [50, 1, 1, 1158, 1160, 4, 6, 1, 2, 1, 0, 0, 1, 1, 6, 3, 1, 160, 2, 1, 158, 0, 3]), (8, [12], [0]), (20, [12, 0], [50, 1, 1, 1158, 1160, 4, 6, 1, 2, 1, 0, 0, 1, 1, 6, 3, 1, 160, 2, 1, 158, 0, 3]), (8, [10], [0]), (20, [10, 0], [50, 1, 1, 1158, 1160, 4, 6, 1, 2, 1, 0, 0, 1, 1, 6, 3, 1, 160, 2, 1, 158, 0, 3]), (20, [0], [50, 2, 0, 164, 165, 4, 7, 1, 3, 2, 0, 164, 0, 0, 0, 3, 2, 0, 165, 0, 23]), (23, [1, 7], [0, 1, -1]), (20, [0], [50, 2, 0, 164, 165, 4, 7, 1, 3, 2, 0, 164, 0, 0, 0, 3, 2, 0, 165, 0, 23]), (20, [0], [50, 2, 1, 158, 157, 160, 2, 12, 0, 7, 4, 3, 2, 0, 158, 0, 1, 2, 0, 157, 2, 7, 0, 3, 2, 0, 157, 0, 2010, 3, 14, 1, 10, 3, 0, 160, 5, 3, 2, 0, 157, 0, 1, 0, 0, 1, 10, 3, 0, 160, 5, 3, 2, 0, 157, 0, 1, 0, 4]), (20, [7, 0], [30, 0, 1, 0, 0, -1, 1, 158]), (20, [0], [30, k, 1, 1, 159]), (20, [0], [30, (-k), -1, 1, 159]), (102, [7], [0, 13008, 13009, 13158, 13159]), (23, [1, 7], [0, 1, -1])] ta ws vs := hf
  obtain ⟨f0, hf⟩ := fc_un (show (1 : Nat) < 100 from by decide) hf
  have f0 : v_iv (n_v vs 19) = v_iv (n_v vs 17) + v_iv (n_v vs 18) := f0
  obtain ⟨f1, hf⟩ := fc_un (show (9 : Nat) < 100 from by decide) hf
  have f1 : n_v vs 17 = w_fd ws (v_ad (n_v vs 0)) 158 := f1
  obtain ⟨f2, hf⟩ := fc_un (show (8 : Nat) < 100 from by decide) hf
  have f2 : v_iv (n_v vs 14) ≠ 0 := f2
  obtain ⟨f3, hf⟩ := fc_un (show (20 : Nat) < 100 from by decide) hf
  have f3 : (v_iv (n_v vs 14) = 1) → (w_ei ws (w_ar ws (n_v vs 0) 160) (w_fi ws (n_v vs 0) 158) = 3) := f3
  obtain ⟨f4, hf⟩ := fc_un (show (8 : Nat) < 100 from by decide) hf
  have f4 : v_iv (n_v vs 12) = 0 := f4
  obtain ⟨f5, hf⟩ := fc_un (show (20 : Nat) < 100 from by decide) hf
  have f5 : (v_iv (n_v vs 12) = 1) → (w_ei ws (w_ar ws (n_v vs 0) 160) (w_fi ws (n_v vs 0) 158) = 3) := f5
  obtain ⟨f6, hf⟩ := fc_un (show (8 : Nat) < 100 from by decide) hf
  have f6 : v_iv (n_v vs 10) = 0 := f6
  obtain ⟨f7, hf⟩ := fc_un (show (20 : Nat) < 100 from by decide) hf
  have f7 : (v_iv (n_v vs 10) = 1) → (w_ei ws (w_ar ws (n_v vs 0) 160) (w_fi ws (n_v vs 0) 158) = 3) := f7
  obtain ⟨f8, hf⟩ := fc_un (show (20 : Nat) < 100 from by decide) hf
  have f8 : (w_fi ws (n_v vs 0) 164 = 0) → (w_fi ws (n_v vs 0) 165 ≤ 23) := f8
  obtain ⟨f9, hf⟩ := fc_un (show (23 : Nat) < 100 from by decide) hf
  have f9 : 1 * v_iv (n_v vs 1) + ((-1) * v_iv (n_v vs 7) + 0) ≤ 0 := f9
  obtain ⟨f10, hf⟩ := fc_un (show (20 : Nat) < 100 from by decide) hf
  have f10 : (w_fi ws (n_v vs 0) 164 = 0) → (w_fi ws (n_v vs 0) 165 ≤ 23) := f10
  obtain ⟨f11, hf⟩ := fc_un (show (20 : Nat) < 100 from by decide) hf
  have f11 : ((w_fi ws (n_v vs 0) 158 + 1) ≤ w_fi ws (n_v vs 0) 157) ∧ ((w_fi ws (n_v vs 0) 157 ≤ 2010) ∧ ((w_ei ws (w_ar ws (n_v vs 0) 160) ((w_fi ws (n_v vs 0) 157 - 1)) = 0) ∨ (w_ei ws (w_ar ws (n_v vs 0) 160) ((w_fi ws (n_v vs 0) 157 - 1)) = 4))) := f11
  obtain ⟨f12, hf⟩ := fc_un (show (20 : Nat) < 100 from by decide) hf
  have f12 : 1 * v_iv (n_v vs 7) + ((-1) * w_fi ws (n_v vs 0) 158 + 0) ≤ 0 := f12
  obtain ⟨f13, hf⟩ := fc_un (show (20 : Nat) < 100 from by decide) hf
  have f13 : 1 * w_fi ws (n_v vs 0) 159 + 0 ≤ k := f13
  obtain ⟨f14, hf⟩ := fc_un (show (20 : Nat) < 100 from by decide) hf
  have f14 : (-1) * w_fi ws (n_v vs 0) 159 + 0 ≤ ((-k)) := f14
  obtain ⟨ta1, w1, le1, ⟨_, s1⟩, hf⟩ := fc_us (show ¬ (102 : Nat) < 100 from by decide) hf
  obtain ⟨f16, hf⟩ := fc_un (show (23 : Nat) < 100 from by decide) hf
  have f16 : 1 * v_iv (n_v vs 1) + ((-1) * v_iv (n_v vs 7) + 0) ≤ 0 := f16
  have cr_0_160 : ta (w_ar ws (n_v vs 0) 160) = some 259 := tv_rg (th_fd hD hth r0 (g := GG_150) rfl (k := 160) (t := (2, 0, 0, [259])) rfl rfl)
  have g1 : v_iv (n_v vs 17) = w_fi ws (n_v vs 0) 158 := congrArg v_iv f1
  have hK_0_160 : ∀ j : Int, 0 ≤ j → j < 2010 → 0 ≤ w_ei ws (w_ar ws (n_v vs 0) 160) j ∧ w_ei ws (w_ar ws (n_v vs 0) 160) j ≤ 4 := fun j h0 h1 => th_el hD hth cr_0_160 (kd := 0) (n := 2010) (m := 2010) (lo := 0) (hi := 4) (rs := []) (L := []) rfl (by decide) (j := j.toNat) (by omega)
  have kz_0_157 : 0 ≤ w_fi ws (n_v vs 0) 157 ∧ w_fi ws (n_v vs 0) 157 ≤ 2010 := tv_rng (th_fd hD hth r0 (g := GG_150) rfl (k := 157) (t := (0, 0, 2010, [])) rfl rfl)
  have kz_0_158 : 0 ≤ w_fi ws (n_v vs 0) 158 ∧ w_fi ws (n_v vs 0) 158 ≤ 2009 := tv_rng (th_fd hD hth r0 (g := GG_150) rfl (k := 158) (t := (0, 0, 2009, [])) rfl rfl)
  have kz_0_159 : 0 ≤ w_fi ws (n_v vs 0) 159 ∧ w_fi ws (n_v vs 0) 159 ≤ 13 := tv_rng (th_fd hD hth r0 (g := GG_150) rfl (k := 159) (t := (0, 0, 13, [])) rfl rfl)
  have kz_0_164 : 0 ≤ w_fi ws (n_v vs 0) 164 ∧ w_fi ws (n_v vs 0) 164 ≤ 1 := tv_rng (th_fd hD hth r0 (g := GG_150) rfl (k := 164) (t := (0, 0, 1, [])) rfl rfl)
  have kz_0_165 : (-1) ≤ w_fi ws (n_v vs 0) 165 ∧ w_fi ws (n_v vs 0) 165 ≤ 47 := tv_rng (th_fd hD hth r0 (g := GG_150) rfl (k := 165) (t := (0, -1, 47, [])) rfl rfl)
  have rf19 : tv_ok ta (0, 1, 2009, []) (n_v vs 19) := tv_in t19 (by first | omega | grind) (by first | omega | grind)
  refine ⟨List.forall_mem_cons.mpr ⟨rf19, (fun _ h => (by cases h))⟩, [], trivial, ?_, (fun _ h => (by cases h))⟩
  rw [List.append_nil]
  exact (fun _ h => (by cases h))
def o_Mo_oneTest_f_6 (k : Int) : or_T := (171, 20, [(0, (2, 0, 0, [150])), (1, (0, 0, 2009, [])), (7, (0, 0, 2009, [])), (10, (0, 0, 0, [])), (12, (0, 0, 0, [])), (14, (0, 1, 1, [])), (17, (0, 0, 2009, [])), (18, (0, 1, 1, [])), (19, (0, 1, 2009, []))], [(20, [0], [50, 2, 0, 164, 165, 4, 7, 1, 3, 2, 0, 164, 0, 0, 0, 3, 2, 0, 165, 0, 23]), (23, [1, 7], [0, 1, -1]), (20, [0], [50, 2, 0, 164, 165, 4, 7, 1, 3, 2, 0, 164, 0, 0, 0, 3, 2, 0, 165, 0, 23]), (20, [0], [30, k, 1, 1, 159]), (20, [0], [30, (-k), -1, 1, 159]), (101, [0, 19], [158]), (1, [19, 17, 18], []), (9, [17, 0], [158]), (8, [14], [1]), (20, [14, 0], [50, 1, 1, 1158, 1160, 4, 6, 1, 2, 1, 0, 0, 1, 1, 6, 3, 1, 160, 2, 1, 158, 0, 3]), (8, [12], [0]), (20, [12, 0], [50, 1, 1, 1158, 1160, 4, 6, 1, 2, 1, 0, 0, 1, 1, 6, 3, 1, 160, 2, 1, 158, 0, 3]), (8, [10], [0]), (20, [10, 0], [50, 1, 1, 1158, 1160, 4, 6, 1, 2, 1, 0, 0, 1, 1, 6, 3, 1, 160, 2, 1, 158, 0, 3]), (20, [0], [50, 2, 0, 164, 165, 4, 7, 1, 3, 2, 0, 164, 0, 0, 0, 3, 2, 0, 165, 0, 23]), (23, [1, 7], [0, 1, -1]), (20, [0], [50, 2, 0, 164, 165, 4, 7, 1, 3, 2, 0, 164, 0, 0, 0, 3, 2, 0, 165, 0, 23]), (20, [0], [50, 2, 1, 158, 157, 160, 2, 12, 0, 7, 4, 3, 2, 0, 158, 0, 1, 2, 0, 157, 2, 7, 0, 3, 2, 0, 157, 0, 2010, 3, 14, 1, 10, 3, 0, 160, 5, 3, 2, 0, 157, 0, 1, 0, 0, 1, 10, 3, 0, 160, 5, 3, 2, 0, 157, 0, 1, 0, 4]), (20, [7, 0], [30, 0, 1, 0, 0, -1, 1, 158]), (20, [0], [30, k, 1, 1, 159]), (20, [0], [30, (-k), -1, 1, 159]), (102, [7], [0, 13008, 13009, 13158, 13159]), (23, [1, 7], [0, 1, -1])], [], [(0, 0, 2009, [])], [(20, [0], [50, 2, 1, 158, 157, 160, 2, 12, 0, 7, 4, 3, 2, 0, 158, 0, 1, 2, 0, 157, 2, 7, 0, 3, 2, 0, 157, 0, 2010, 3, 14, 1, 10, 3, 0, 160, 5, 3, 2, 0, 157, 0, 1, 0, 0, 1, 10, 3, 0, 160, 5, 3, 2, 0, 157, 0, 1, 0, 4]), (20, [0, 20], [30, 0, 1, 1, 158, -1, 0, 0]), (20, [0, 20], [30, 0, -1, 1, 158, 1, 0, 0]), (20, [0], [50, 2, 0, 164, 165, 4, 7, 1, 3, 2, 0, 164, 0, 0, 0, 3, 2, 0, 165, 0, 23]), (20, [0], [30, k, 1, 1, 159]), (20, [0], [30, (-k), -1, 1, 159]), (23, [1, 20], [0, 1, -1])], [], [(19, 17, 1, 1)])
theorem oo_Mo_oneTest_f_6 {kA : Nat → ClassId} (k : Int) (hk0 : 0 ≤ k) (hk1 : k ≤ 12) : or_ok kA GG (o_Mo_oneTest_f_6 k) := by
  intro A ta ws vs hD hth hl hk hds hf
  have hl : vs.length = 20 := hl
  have hk : ∀ q ∈ ([(0, (2, 0, 0, [150])), (1, (0, 0, 2009, [])), (7, (0, 0, 2009, [])), (10, (0, 0, 0, [])), (12, (0, 0, 0, [])), (14, (0, 1, 1, [])), (17, (0, 0, 2009, [])), (18, (0, 1, 1, [])), (19, (0, 1, 2009, []))] : List (Nat × tv_T)), tv_ok ta q.2 (n_v vs q.1) := hk
  obtain ⟨t0, hk⟩ := List.forall_mem_cons.mp hk
  have t0 : tv_ok ta (2, 0, 0, [150]) (n_v vs 0) := t0
  have r0 : ta (v_ad (n_v vs 0)) = some 150 := tv_rg t0
  obtain ⟨t1, hk⟩ := List.forall_mem_cons.mp hk
  have t1 : tv_ok ta (0, 0, 2009, []) (n_v vs 1) := t1
  have k1 : 0 ≤ v_iv (n_v vs 1) ∧ v_iv (n_v vs 1) ≤ 2009 := tv_rng t1
  obtain ⟨t7, hk⟩ := List.forall_mem_cons.mp hk
  have t7 : tv_ok ta (0, 0, 2009, []) (n_v vs 7) := t7
  have k7 : 0 ≤ v_iv (n_v vs 7) ∧ v_iv (n_v vs 7) ≤ 2009 := tv_rng t7
  obtain ⟨t10, hk⟩ := List.forall_mem_cons.mp hk
  have t10 : tv_ok ta (0, 0, 0, []) (n_v vs 10) := t10
  have k10 : 0 ≤ v_iv (n_v vs 10) ∧ v_iv (n_v vs 10) ≤ 0 := tv_rng t10
  obtain ⟨t12, hk⟩ := List.forall_mem_cons.mp hk
  have t12 : tv_ok ta (0, 0, 0, []) (n_v vs 12) := t12
  have k12 : 0 ≤ v_iv (n_v vs 12) ∧ v_iv (n_v vs 12) ≤ 0 := tv_rng t12
  obtain ⟨t14, hk⟩ := List.forall_mem_cons.mp hk
  have t14 : tv_ok ta (0, 1, 1, []) (n_v vs 14) := t14
  have k14 : 1 ≤ v_iv (n_v vs 14) ∧ v_iv (n_v vs 14) ≤ 1 := tv_rng t14
  obtain ⟨t17, hk⟩ := List.forall_mem_cons.mp hk
  have t17 : tv_ok ta (0, 0, 2009, []) (n_v vs 17) := t17
  have k17 : 0 ≤ v_iv (n_v vs 17) ∧ v_iv (n_v vs 17) ≤ 2009 := tv_rng t17
  obtain ⟨t18, hk⟩ := List.forall_mem_cons.mp hk
  have t18 : tv_ok ta (0, 1, 1, []) (n_v vs 18) := t18
  have k18 : 1 ≤ v_iv (n_v vs 18) ∧ v_iv (n_v vs 18) ≤ 1 := tv_rng t18
  obtain ⟨t19, hk⟩ := List.forall_mem_cons.mp hk
  have t19 : tv_ok ta (0, 1, 2009, []) (n_v vs 19) := t19
  have k19 : 1 ≤ v_iv (n_v vs 19) ∧ v_iv (n_v vs 19) ≤ 2009 := tv_rng t19
  have hds : ∀ q ∈ ([(19, 17, 1, 1)] : List of_T), n_iv vs q.2.1 + q.2.2.1 ≤ n_iv vs q.1 ∧ n_iv vs q.1 ≤ n_iv vs q.2.1 + q.2.2.2 := hds
  obtain ⟨d0, hds⟩ := List.forall_mem_cons.mp hds
  have d0 : v_iv (n_v vs 17) + 1 ≤ v_iv (n_v vs 19) ∧ v_iv (n_v vs 19) ≤ v_iv (n_v vs 17) + 1 := d0
  have hf : fc_ok [(20, [0], [50, 2, 0, 164, 165, 4, 7, 1, 3, 2, 0, 164, 0, 0, 0, 3, 2, 0, 165, 0, 23]), (23, [1, 7], [0, 1, -1]), (20, [0], [50, 2, 0, 164, 165, 4, 7, 1, 3, 2, 0, 164, 0, 0, 0, 3, 2, 0, 165, 0, 23]), (20, [0], [30, k, 1, 1, 159]), (20, [0], [30, (-k), -1, 1, 159]), (101, [0, 19], [158]), (1, [19, 17, 18], []), (9, [17, 0], [158]), (8, [14], [1]), (20, [14, 0], [50, 1, 1, 1158, 1160, 4, 6, 1, 2, 1, 0, 0, 1, 1, 6, 3, 1, 160, 2, 1, 158, 0, 3]), (8, [12], [0]), (20, [12, 0], [50, 1, 1, 1158, 1160, 4, 6, 1, 2, 1, 0, 0, 1, 1, 6, 3, 1, 160, 2, 1, 158, 0, 3]), (8, [10], [0]), (20, [10, 0], [50, 1, 1, 1158, 1160, 4, 6, 1, 2, 1, 0, 0, 1, 1, 6, 3, 1, 160, 2, 1, 158, 0, 3]), (20, [0], [50, 2, 0, 164, 165, 4, 7, 1, 3, 2, 0, 164, 0, 0, 0, 3, 2, 0, 165, 0, 23]), (23, [1, 7], [0, 1, -1]), (20, [0], [50, 2, 0, 164, 165, 4, 7, 1, 3, 2, 0, 164, 0, 0, 0, 3, 2, 0, 165, 0, 23]), (20, [0], [50, 2, 1, 158, 157, 160, 2, 12, 0, 7, 4, 3, 2, 0, 158, 0, 1, 2, 0, 157, 2, 7, 0, 3, 2, 0, 157, 0, 2010, 3, 14, 1, 10, 3, 0, 160, 5, 3, 2, 0, 157, 0, 1, 0, 0, 1, 10, 3, 0, 160, 5, 3, 2, 0, 157, 0, 1, 0, 4]), (20, [7, 0], [30, 0, 1, 0, 0, -1, 1, 158]), (20, [0], [30, k, 1, 1, 159]), (20, [0], [30, (-k), -1, 1, 159]), (102, [7], [0, 13008, 13009, 13158, 13159]), (23, [1, 7], [0, 1, -1])] ta ws vs := hf
  obtain ⟨f0, hf⟩ := fc_un (show (20 : Nat) < 100 from by decide) hf
  have f0 : (w_fi ws (n_v vs 0) 164 = 0) → (w_fi ws (n_v vs 0) 165 ≤ 23) := f0
  obtain ⟨f1, hf⟩ := fc_un (show (23 : Nat) < 100 from by decide) hf
  have f1 : 1 * v_iv (n_v vs 1) + ((-1) * v_iv (n_v vs 7) + 0) ≤ 0 := f1
  obtain ⟨f2, hf⟩ := fc_un (show (20 : Nat) < 100 from by decide) hf
  have f2 : (w_fi ws (n_v vs 0) 164 = 0) → (w_fi ws (n_v vs 0) 165 ≤ 23) := f2
  obtain ⟨f3, hf⟩ := fc_un (show (20 : Nat) < 100 from by decide) hf
  have f3 : 1 * w_fi ws (n_v vs 0) 159 + 0 ≤ k := f3
  obtain ⟨f4, hf⟩ := fc_un (show (20 : Nat) < 100 from by decide) hf
  have f4 : (-1) * w_fi ws (n_v vs 0) 159 + 0 ≤ ((-k)) := f4
  obtain ⟨ta1, w1, le1, ⟨_, s1⟩, hf⟩ := fc_us (show ¬ (101 : Nat) < 100 from by decide) hf
  have s1 : (∀ b j, w_el ws b j = w_el w1 b j) ∧ ∀ b j, w_fd ws b j = if b = v_ad (n_v vs 0) ∧ j = 158 then n_v vs 19 else w_fd w1 b j := s1
  obtain ⟨f6, hf⟩ := fc_un (show (1 : Nat) < 100 from by decide) hf
  have f6 : v_iv (n_v vs 19) = v_iv (n_v vs 17) + v_iv (n_v vs 18) := f6
  obtain ⟨f7, hf⟩ := fc_un (show (9 : Nat) < 100 from by decide) hf
  have f7 : n_v vs 17 = w_fd w1 (v_ad (n_v vs 0)) 158 := f7
  obtain ⟨f8, hf⟩ := fc_un (show (8 : Nat) < 100 from by decide) hf
  have f8 : v_iv (n_v vs 14) ≠ 0 := f8
  obtain ⟨f9, hf⟩ := fc_un (show (20 : Nat) < 100 from by decide) hf
  have f9 : (v_iv (n_v vs 14) = 1) → (w_ei w1 (w_ar w1 (n_v vs 0) 160) (w_fi w1 (n_v vs 0) 158) = 3) := f9
  obtain ⟨f10, hf⟩ := fc_un (show (8 : Nat) < 100 from by decide) hf
  have f10 : v_iv (n_v vs 12) = 0 := f10
  obtain ⟨f11, hf⟩ := fc_un (show (20 : Nat) < 100 from by decide) hf
  have f11 : (v_iv (n_v vs 12) = 1) → (w_ei w1 (w_ar w1 (n_v vs 0) 160) (w_fi w1 (n_v vs 0) 158) = 3) := f11
  obtain ⟨f12, hf⟩ := fc_un (show (8 : Nat) < 100 from by decide) hf
  have f12 : v_iv (n_v vs 10) = 0 := f12
  obtain ⟨f13, hf⟩ := fc_un (show (20 : Nat) < 100 from by decide) hf
  have f13 : (v_iv (n_v vs 10) = 1) → (w_ei w1 (w_ar w1 (n_v vs 0) 160) (w_fi w1 (n_v vs 0) 158) = 3) := f13
  obtain ⟨f14, hf⟩ := fc_un (show (20 : Nat) < 100 from by decide) hf
  have f14 : (w_fi w1 (n_v vs 0) 164 = 0) → (w_fi w1 (n_v vs 0) 165 ≤ 23) := f14
  obtain ⟨f15, hf⟩ := fc_un (show (23 : Nat) < 100 from by decide) hf
  have f15 : 1 * v_iv (n_v vs 1) + ((-1) * v_iv (n_v vs 7) + 0) ≤ 0 := f15
  obtain ⟨f16, hf⟩ := fc_un (show (20 : Nat) < 100 from by decide) hf
  have f16 : (w_fi w1 (n_v vs 0) 164 = 0) → (w_fi w1 (n_v vs 0) 165 ≤ 23) := f16
  obtain ⟨f17, hf⟩ := fc_un (show (20 : Nat) < 100 from by decide) hf
  have f17 : ((w_fi w1 (n_v vs 0) 158 + 1) ≤ w_fi w1 (n_v vs 0) 157) ∧ ((w_fi w1 (n_v vs 0) 157 ≤ 2010) ∧ ((w_ei w1 (w_ar w1 (n_v vs 0) 160) ((w_fi w1 (n_v vs 0) 157 - 1)) = 0) ∨ (w_ei w1 (w_ar w1 (n_v vs 0) 160) ((w_fi w1 (n_v vs 0) 157 - 1)) = 4))) := f17
  obtain ⟨f18, hf⟩ := fc_un (show (20 : Nat) < 100 from by decide) hf
  have f18 : 1 * v_iv (n_v vs 7) + ((-1) * w_fi w1 (n_v vs 0) 158 + 0) ≤ 0 := f18
  obtain ⟨f19, hf⟩ := fc_un (show (20 : Nat) < 100 from by decide) hf
  have f19 : 1 * w_fi w1 (n_v vs 0) 159 + 0 ≤ k := f19
  obtain ⟨f20, hf⟩ := fc_un (show (20 : Nat) < 100 from by decide) hf
  have f20 : (-1) * w_fi w1 (n_v vs 0) 159 + 0 ≤ ((-k)) := f20
  obtain ⟨ta2, w2, le2, ⟨_, s2⟩, hf⟩ := fc_us (show ¬ (102 : Nat) < 100 from by decide) hf
  obtain ⟨f22, hf⟩ := fc_un (show (23 : Nat) < 100 from by decide) hf
  have f22 : 1 * v_iv (n_v vs 1) + ((-1) * v_iv (n_v vs 7) + 0) ≤ 0 := f22
  have ar_0_160_1 : w_ar w1 (n_v vs 0) 160 = w_ar ws (n_v vs 0) 160 := by show v_ad (w_fd w1 _ _) = v_ad (w_fd ws _ _); rw [s1.2, if_neg (fun e => absurd e.2 (by decide))]
  have cr_0_160 : ta (w_ar ws (n_v vs 0) 160) = some 259 := tv_rg (th_fd hD hth r0 (g := GG_150) rfl (k := 160) (t := (2, 0, 0, [259])) rfl rfl)
  have g7 : v_iv (n_v vs 17) = w_fi w1 (n_v vs 0) 158 := congrArg v_iv f7
  rw [ar_0_160_1] at f9
  rw [ar_0_160_1] at f11
  rw [ar_0_160_1] at f13
  rw [ar_0_160_1] at f17
  have fe_0_157_1 : w_fi ws (n_v vs 0) 157 = w_fi w1 (n_v vs 0) 157 := by show v_iv (w_fd _ _ _) = v_iv (w_fd _ _ _); rw [s1.2, if_neg (fun e => absurd e.2 (by decide))]
  have fe_0_158_1 : w_fi ws (n_v vs 0) 158 = v_iv (n_v vs 19) := by show v_iv (w_fd _ _ _) = _; rw [s1.2, if_pos ⟨rfl, rfl⟩]
  have fe_0_159_1 : w_fi ws (n_v vs 0) 159 = w_fi w1 (n_v vs 0) 159 := by show v_iv (w_fd _ _ _) = v_iv (w_fd _ _ _); rw [s1.2, if_neg (fun e => absurd e.2 (by decide))]
  have fe_0_164_1 : w_fi ws (n_v vs 0) 164 = w_fi w1 (n_v vs 0) 164 := by show v_iv (w_fd _ _ _) = v_iv (w_fd _ _ _); rw [s1.2, if_neg (fun e => absurd e.2 (by decide))]
  have fe_0_165_1 : w_fi ws (n_v vs 0) 165 = w_fi w1 (n_v vs 0) 165 := by show v_iv (w_fd _ _ _) = v_iv (w_fd _ _ _); rw [s1.2, if_neg (fun e => absurd e.2 (by decide))]
  have hE_0_160_1 : ∀ j : Int, w_ei ws (w_ar ws (n_v vs 0) 160) j = w_ei w1 (w_ar ws (n_v vs 0) 160) j := fun j => s1.1 _ _
  have hK_0_160 : ∀ j : Int, 0 ≤ j → j < 2010 → 0 ≤ w_ei ws (w_ar ws (n_v vs 0) 160) j ∧ w_ei ws (w_ar ws (n_v vs 0) 160) j ≤ 4 := fun j h0 h1 => th_el hD hth cr_0_160 (kd := 0) (n := 2010) (m := 2010) (lo := 0) (hi := 4) (rs := []) (L := []) rfl (by decide) (j := j.toNat) (by omega)
  have kz_0_157 : 0 ≤ w_fi ws (n_v vs 0) 157 ∧ w_fi ws (n_v vs 0) 157 ≤ 2010 := tv_rng (th_fd hD hth r0 (g := GG_150) rfl (k := 157) (t := (0, 0, 2010, [])) rfl rfl)
  have kz_0_158 : 0 ≤ w_fi ws (n_v vs 0) 158 ∧ w_fi ws (n_v vs 0) 158 ≤ 2009 := tv_rng (th_fd hD hth r0 (g := GG_150) rfl (k := 158) (t := (0, 0, 2009, [])) rfl rfl)
  have kz_0_159 : 0 ≤ w_fi ws (n_v vs 0) 159 ∧ w_fi ws (n_v vs 0) 159 ≤ 13 := tv_rng (th_fd hD hth r0 (g := GG_150) rfl (k := 159) (t := (0, 0, 13, [])) rfl rfl)
  have kz_0_164 : 0 ≤ w_fi ws (n_v vs 0) 164 ∧ w_fi ws (n_v vs 0) 164 ≤ 1 := tv_rng (th_fd hD hth r0 (g := GG_150) rfl (k := 164) (t := (0, 0, 1, [])) rfl rfl)
  have kz_0_165 : (-1) ≤ w_fi ws (n_v vs 0) 165 ∧ w_fi ws (n_v vs 0) 165 ≤ 47 := tv_rng (th_fd hD hth r0 (g := GG_150) rfl (k := 165) (t := (0, -1, 47, [])) rfl rfl)
  have kv0 : 0 ≤ w_fi ws (n_v vs 0) 158 ∧ w_fi ws (n_v vs 0) 158 ≤ 2009 := tv_rng (th_fd hD hth r0 (g := GG_150) rfl (k := 158) (t := (0, 0, 2009, [])) rfl rfl)
  obtain ⟨x, ex, hx⟩ := iv_ex (ta := ta) (lo := 0) (hi := 2009) (z := w_fi ws (n_v vs 0) 158) (by omega) (by omega) (by omega) (by omega)
  have ex2 : v_iv (Value.int x) = w_fi ws (n_v vs 0) 158 := ex
  have ex3 : 0 ≤ v_iv (Value.int x) ∧ v_iv (Value.int x) ≤ 2009 := tv_rng hx
  have e_0 : n_v (vs ++ [Value.int x]) 0 = n_v vs 0 := n_v_old (by rw [hl]; decide)
  have e_1 : n_v (vs ++ [Value.int x]) 1 = n_v vs 1 := n_v_old (by rw [hl]; decide)
  have e_20 : n_v (vs ++ [Value.int x]) 20 = Value.int x := n_v_new hl
  have nf0 : fc_1 (20, [0], [50, 2, 1, 158, 157, 160, 2, 12, 0, 7, 4, 3, 2, 0, 158, 0, 1, 2, 0, 157, 2, 7, 0, 3, 2, 0, 157, 0, 2010, 3, 14, 1, 10, 3, 0, 160, 5, 3, 2, 0, 157, 0, 1, 0, 0, 1, 10, 3, 0, 160, 5, 3, 2, 0, 157, 0, 1, 0, 4]) ws (vs ++ [Value.int x]) := by
    refine ⟨fun n hn => ?_, ?_⟩
    · have hn : n ∈ [0] := hn
      rw [List.length_append, hl]
      simp only [List.mem_cons, List.not_mem_nil, or_false] at hn
      show n < 20 + 1; omega
    · show ((w_fi ws (n_v (vs ++ [Value.int x]) 0) 158 + 1) ≤ w_fi ws (n_v (vs ++ [Value.int x]) 0) 157) ∧ ((w_fi ws (n_v (vs ++ [Value.int x]) 0) 157 ≤ 2010) ∧ ((w_ei ws (w_ar ws (n_v (vs ++ [Value.int x]) 0) 160) ((w_fi ws (n_v (vs ++ [Value.int x]) 0) 157 - 1)) = 0) ∨ (w_ei ws (w_ar ws (n_v (vs ++ [Value.int x]) 0) 160) ((w_fi ws (n_v (vs ++ [Value.int x]) 0) 157 - 1)) = 4)))
      rw [e_0]
      first | omega | grind
  have nf1 : fc_1 (20, [0, 20], [30, 0, 1, 1, 158, -1, 0, 0]) ws (vs ++ [Value.int x]) := by
    refine ⟨fun n hn => ?_, ?_⟩
    · have hn : n ∈ [0, 20] := hn
      rw [List.length_append, hl]
      simp only [List.mem_cons, List.not_mem_nil, or_false] at hn
      show n < 20 + 1; omega
    · show 1 * w_fi ws (n_v (vs ++ [Value.int x]) 0) 158 + ((-1) * v_iv (n_v (vs ++ [Value.int x]) 20) + 0) ≤ 0
      rw [e_0]
      rw [e_20]
      omega
  have nf2 : fc_1 (20, [0, 20], [30, 0, -1, 1, 158, 1, 0, 0]) ws (vs ++ [Value.int x]) := by
    refine ⟨fun n hn => ?_, ?_⟩
    · have hn : n ∈ [0, 20] := hn
      rw [List.length_append, hl]
      simp only [List.mem_cons, List.not_mem_nil, or_false] at hn
      show n < 20 + 1; omega
    · show (-1) * w_fi ws (n_v (vs ++ [Value.int x]) 0) 158 + (1 * v_iv (n_v (vs ++ [Value.int x]) 20) + 0) ≤ 0
      rw [e_0]
      rw [e_20]
      omega
  have nf3 : fc_1 (20, [0], [50, 2, 0, 164, 165, 4, 7, 1, 3, 2, 0, 164, 0, 0, 0, 3, 2, 0, 165, 0, 23]) ws (vs ++ [Value.int x]) := by
    refine ⟨fun n hn => ?_, ?_⟩
    · have hn : n ∈ [0] := hn
      rw [List.length_append, hl]
      simp only [List.mem_cons, List.not_mem_nil, or_false] at hn
      show n < 20 + 1; omega
    · show (w_fi ws (n_v (vs ++ [Value.int x]) 0) 164 = 0) → (w_fi ws (n_v (vs ++ [Value.int x]) 0) 165 ≤ 23)
      rw [e_0]
      first | omega | grind
  have nf4 : fc_1 (20, [0], [30, k, 1, 1, 159]) ws (vs ++ [Value.int x]) := by
    refine ⟨fun n hn => ?_, ?_⟩
    · have hn : n ∈ [0] := hn
      rw [List.length_append, hl]
      simp only [List.mem_cons, List.not_mem_nil, or_false] at hn
      show n < 20 + 1; omega
    · show 1 * w_fi ws (n_v (vs ++ [Value.int x]) 0) 159 + 0 ≤ k
      rw [e_0]
      omega
  have nf5 : fc_1 (20, [0], [30, (-k), -1, 1, 159]) ws (vs ++ [Value.int x]) := by
    refine ⟨fun n hn => ?_, ?_⟩
    · have hn : n ∈ [0] := hn
      rw [List.length_append, hl]
      simp only [List.mem_cons, List.not_mem_nil, or_false] at hn
      show n < 20 + 1; omega
    · show (-1) * w_fi ws (n_v (vs ++ [Value.int x]) 0) 159 + 0 ≤ ((-k))
      rw [e_0]
      omega
  have nf6 : fc_1 (23, [1, 20], [0, 1, -1]) ws (vs ++ [Value.int x]) := by
    refine ⟨fun n hn => ?_, ?_⟩
    · have hn : n ∈ [1, 20] := hn
      rw [List.length_append, hl]
      simp only [List.mem_cons, List.not_mem_nil, or_false] at hn
      show n < 20 + 1; omega
    · show 1 * v_iv (n_v (vs ++ [Value.int x]) 1) + ((-1) * v_iv (n_v (vs ++ [Value.int x]) 20) + 0) ≤ 0
      rw [e_1]
      rw [e_20]
      omega
  exact ⟨(fun _ h => (by cases h)), [Value.int x], ag_one hx, List.forall_mem_cons.mpr ⟨⟨show (20 : Nat) < 100 from by decide, nf0⟩, List.forall_mem_cons.mpr ⟨⟨show (20 : Nat) < 100 from by decide, nf1⟩, List.forall_mem_cons.mpr ⟨⟨show (20 : Nat) < 100 from by decide, nf2⟩, List.forall_mem_cons.mpr ⟨⟨show (20 : Nat) < 100 from by decide, nf3⟩, List.forall_mem_cons.mpr ⟨⟨show (20 : Nat) < 100 from by decide, nf4⟩, List.forall_mem_cons.mpr ⟨⟨show (20 : Nat) < 100 from by decide, nf5⟩, List.forall_mem_cons.mpr ⟨⟨show (23 : Nat) < 100 from by decide, nf6⟩, (fun _ h => (by cases h))⟩⟩⟩⟩⟩⟩⟩, (fun _ h => (by cases h))⟩
def o_Mo_oneTest_f_7 (k : Int) : or_T := (230, 25, [(0, (2, 0, 0, [150])), (1, (0, 0, 2009, [])), (7, (0, 0, 2009, [])), (17, (0, 0, 2009, [])), (18, (0, 1, 1, [])), (19, (0, 1, 2009, [])), (20, (0, 0, 2009, []))], [(20, [0], [50, 2, 0, 164, 165, 4, 7, 1, 3, 2, 0, 164, 0, 0, 0, 3, 2, 0, 165, 0, 23]), (23, [1, 20], [0, 1, -1]), (20, [0], [50, 2, 0, 164, 165, 4, 7, 1, 3, 2, 0, 164, 0, 0, 0, 3, 2, 0, 165, 0, 23]), (23, [1, 7], [0, 1, -1]), (20, [0], [50, 2, 0, 164, 165, 4, 7, 1, 3, 2, 0, 164, 0, 0, 0, 3, 2, 0, 165, 0, 23]), (20, [0], [50, 2, 1, 158, 157, 160, 2, 12, 0, 7, 4, 3, 2, 0, 158, 0, 1, 2, 0, 157, 2, 7, 0, 3, 2, 0, 157, 0, 2010, 3, 14, 1, 10, 3, 0, 160, 5, 3, 2, 0, 157, 0, 1, 0, 0, 1, 10, 3, 0, 160, 5, 3, 2, 0, 157, 0, 1, 0, 4]), (20, [20, 0], [30, 0, 1, 0, 0, -1, 1, 158]), (20, [0], [30, k, 1, 1, 159]), (20, [0], [30, (-k), -1, 1, 159]), (102, [20], [0, 13008, 13009, 13158, 13159]), (23, [1, 20], [0, 1, -1]), (23, [1, 7], [0, 1, -1]), (101, [0, 19], [158]), (1, [19, 17, 18], []), (23, [1, 7], [0, 1, -1]), (102, [7], [0, 13008, 13009, 13158, 13159]), (23, [1, 7], [0, 1, -1])], [], [], [(20, [1, 0], [30, 0, 1, 0, 0, -1, 1, 158])], [], [(19, 17, 1, 1)])
theorem oo_Mo_oneTest_f_7 {kA : Nat → ClassId} (k : Int) (hk0 : 0 ≤ k) (hk1 : k ≤ 12) : or_ok kA GG (o_Mo_oneTest_f_7 k) := by
  intro A ta ws vs hD hth hl hk hds hf
  have hl : vs.length = 25 := hl
  have hk : ∀ q ∈ ([(0, (2, 0, 0, [150])), (1, (0, 0, 2009, [])), (7, (0, 0, 2009, [])), (17, (0, 0, 2009, [])), (18, (0, 1, 1, [])), (19, (0, 1, 2009, [])), (20, (0, 0, 2009, []))] : List (Nat × tv_T)), tv_ok ta q.2 (n_v vs q.1) := hk
  obtain ⟨t0, hk⟩ := List.forall_mem_cons.mp hk
  have t0 : tv_ok ta (2, 0, 0, [150]) (n_v vs 0) := t0
  have r0 : ta (v_ad (n_v vs 0)) = some 150 := tv_rg t0
  obtain ⟨t1, hk⟩ := List.forall_mem_cons.mp hk
  have t1 : tv_ok ta (0, 0, 2009, []) (n_v vs 1) := t1
  have k1 : 0 ≤ v_iv (n_v vs 1) ∧ v_iv (n_v vs 1) ≤ 2009 := tv_rng t1
  obtain ⟨t7, hk⟩ := List.forall_mem_cons.mp hk
  have t7 : tv_ok ta (0, 0, 2009, []) (n_v vs 7) := t7
  have k7 : 0 ≤ v_iv (n_v vs 7) ∧ v_iv (n_v vs 7) ≤ 2009 := tv_rng t7
  obtain ⟨t17, hk⟩ := List.forall_mem_cons.mp hk
  have t17 : tv_ok ta (0, 0, 2009, []) (n_v vs 17) := t17
  have k17 : 0 ≤ v_iv (n_v vs 17) ∧ v_iv (n_v vs 17) ≤ 2009 := tv_rng t17
  obtain ⟨t18, hk⟩ := List.forall_mem_cons.mp hk
  have t18 : tv_ok ta (0, 1, 1, []) (n_v vs 18) := t18
  have k18 : 1 ≤ v_iv (n_v vs 18) ∧ v_iv (n_v vs 18) ≤ 1 := tv_rng t18
  obtain ⟨t19, hk⟩ := List.forall_mem_cons.mp hk
  have t19 : tv_ok ta (0, 1, 2009, []) (n_v vs 19) := t19
  have k19 : 1 ≤ v_iv (n_v vs 19) ∧ v_iv (n_v vs 19) ≤ 2009 := tv_rng t19
  obtain ⟨t20, hk⟩ := List.forall_mem_cons.mp hk
  have t20 : tv_ok ta (0, 0, 2009, []) (n_v vs 20) := t20
  have k20 : 0 ≤ v_iv (n_v vs 20) ∧ v_iv (n_v vs 20) ≤ 2009 := tv_rng t20
  have hds : ∀ q ∈ ([(19, 17, 1, 1)] : List of_T), n_iv vs q.2.1 + q.2.2.1 ≤ n_iv vs q.1 ∧ n_iv vs q.1 ≤ n_iv vs q.2.1 + q.2.2.2 := hds
  obtain ⟨d0, hds⟩ := List.forall_mem_cons.mp hds
  have d0 : v_iv (n_v vs 17) + 1 ≤ v_iv (n_v vs 19) ∧ v_iv (n_v vs 19) ≤ v_iv (n_v vs 17) + 1 := d0
  have hf : fc_ok [(20, [0], [50, 2, 0, 164, 165, 4, 7, 1, 3, 2, 0, 164, 0, 0, 0, 3, 2, 0, 165, 0, 23]), (23, [1, 20], [0, 1, -1]), (20, [0], [50, 2, 0, 164, 165, 4, 7, 1, 3, 2, 0, 164, 0, 0, 0, 3, 2, 0, 165, 0, 23]), (23, [1, 7], [0, 1, -1]), (20, [0], [50, 2, 0, 164, 165, 4, 7, 1, 3, 2, 0, 164, 0, 0, 0, 3, 2, 0, 165, 0, 23]), (20, [0], [50, 2, 1, 158, 157, 160, 2, 12, 0, 7, 4, 3, 2, 0, 158, 0, 1, 2, 0, 157, 2, 7, 0, 3, 2, 0, 157, 0, 2010, 3, 14, 1, 10, 3, 0, 160, 5, 3, 2, 0, 157, 0, 1, 0, 0, 1, 10, 3, 0, 160, 5, 3, 2, 0, 157, 0, 1, 0, 4]), (20, [20, 0], [30, 0, 1, 0, 0, -1, 1, 158]), (20, [0], [30, k, 1, 1, 159]), (20, [0], [30, (-k), -1, 1, 159]), (102, [20], [0, 13008, 13009, 13158, 13159]), (23, [1, 20], [0, 1, -1]), (23, [1, 7], [0, 1, -1]), (101, [0, 19], [158]), (1, [19, 17, 18], []), (23, [1, 7], [0, 1, -1]), (102, [7], [0, 13008, 13009, 13158, 13159]), (23, [1, 7], [0, 1, -1])] ta ws vs := hf
  obtain ⟨f0, hf⟩ := fc_un (show (20 : Nat) < 100 from by decide) hf
  have f0 : (w_fi ws (n_v vs 0) 164 = 0) → (w_fi ws (n_v vs 0) 165 ≤ 23) := f0
  obtain ⟨f1, hf⟩ := fc_un (show (23 : Nat) < 100 from by decide) hf
  have f1 : 1 * v_iv (n_v vs 1) + ((-1) * v_iv (n_v vs 20) + 0) ≤ 0 := f1
  obtain ⟨f2, hf⟩ := fc_un (show (20 : Nat) < 100 from by decide) hf
  have f2 : (w_fi ws (n_v vs 0) 164 = 0) → (w_fi ws (n_v vs 0) 165 ≤ 23) := f2
  obtain ⟨f3, hf⟩ := fc_un (show (23 : Nat) < 100 from by decide) hf
  have f3 : 1 * v_iv (n_v vs 1) + ((-1) * v_iv (n_v vs 7) + 0) ≤ 0 := f3
  obtain ⟨f4, hf⟩ := fc_un (show (20 : Nat) < 100 from by decide) hf
  have f4 : (w_fi ws (n_v vs 0) 164 = 0) → (w_fi ws (n_v vs 0) 165 ≤ 23) := f4
  obtain ⟨f5, hf⟩ := fc_un (show (20 : Nat) < 100 from by decide) hf
  have f5 : ((w_fi ws (n_v vs 0) 158 + 1) ≤ w_fi ws (n_v vs 0) 157) ∧ ((w_fi ws (n_v vs 0) 157 ≤ 2010) ∧ ((w_ei ws (w_ar ws (n_v vs 0) 160) ((w_fi ws (n_v vs 0) 157 - 1)) = 0) ∨ (w_ei ws (w_ar ws (n_v vs 0) 160) ((w_fi ws (n_v vs 0) 157 - 1)) = 4))) := f5
  obtain ⟨f6, hf⟩ := fc_un (show (20 : Nat) < 100 from by decide) hf
  have f6 : 1 * v_iv (n_v vs 20) + ((-1) * w_fi ws (n_v vs 0) 158 + 0) ≤ 0 := f6
  obtain ⟨f7, hf⟩ := fc_un (show (20 : Nat) < 100 from by decide) hf
  have f7 : 1 * w_fi ws (n_v vs 0) 159 + 0 ≤ k := f7
  obtain ⟨f8, hf⟩ := fc_un (show (20 : Nat) < 100 from by decide) hf
  have f8 : (-1) * w_fi ws (n_v vs 0) 159 + 0 ≤ ((-k)) := f8
  obtain ⟨ta1, w1, le1, ⟨_, s1⟩, hf⟩ := fc_us (show ¬ (102 : Nat) < 100 from by decide) hf
  obtain ⟨f10, hf⟩ := fc_un (show (23 : Nat) < 100 from by decide) hf
  have f10 : 1 * v_iv (n_v vs 1) + ((-1) * v_iv (n_v vs 20) + 0) ≤ 0 := f10
  obtain ⟨f11, hf⟩ := fc_un (show (23 : Nat) < 100 from by decide) hf
  have f11 : 1 * v_iv (n_v vs 1) + ((-1) * v_iv (n_v vs 7) + 0) ≤ 0 := f11
  obtain ⟨ta2, w2, le2, ⟨_, s2⟩, hf⟩ := fc_us (show ¬ (101 : Nat) < 100 from by decide) hf
  have s2 : (∀ b j, w_el w1 b j = w_el w2 b j) ∧ ∀ b j, w_fd w1 b j = if b = v_ad (n_v vs 0) ∧ j = 158 then n_v vs 19 else w_fd w2 b j := s2
  obtain ⟨f13, hf⟩ := fc_un (show (1 : Nat) < 100 from by decide) hf
  have f13 : v_iv (n_v vs 19) = v_iv (n_v vs 17) + v_iv (n_v vs 18) := f13
  obtain ⟨f14, hf⟩ := fc_un (show (23 : Nat) < 100 from by decide) hf
  have f14 : 1 * v_iv (n_v vs 1) + ((-1) * v_iv (n_v vs 7) + 0) ≤ 0 := f14
  obtain ⟨ta3, w3, le3, ⟨_, s3⟩, hf⟩ := fc_us (show ¬ (102 : Nat) < 100 from by decide) hf
  obtain ⟨f16, hf⟩ := fc_un (show (23 : Nat) < 100 from by decide) hf
  have f16 : 1 * v_iv (n_v vs 1) + ((-1) * v_iv (n_v vs 7) + 0) ≤ 0 := f16
  have cr_0_160 : ta (w_ar ws (n_v vs 0) 160) = some 259 := tv_rg (th_fd hD hth r0 (g := GG_150) rfl (k := 160) (t := (2, 0, 0, [259])) rfl rfl)
  have hK_0_160 : ∀ j : Int, 0 ≤ j → j < 2010 → 0 ≤ w_ei ws (w_ar ws (n_v vs 0) 160) j ∧ w_ei ws (w_ar ws (n_v vs 0) 160) j ≤ 4 := fun j h0 h1 => th_el hD hth cr_0_160 (kd := 0) (n := 2010) (m := 2010) (lo := 0) (hi := 4) (rs := []) (L := []) rfl (by decide) (j := j.toNat) (by omega)
  have kz_0_157 : 0 ≤ w_fi ws (n_v vs 0) 157 ∧ w_fi ws (n_v vs 0) 157 ≤ 2010 := tv_rng (th_fd hD hth r0 (g := GG_150) rfl (k := 157) (t := (0, 0, 2010, [])) rfl rfl)
  have kz_0_158 : 0 ≤ w_fi ws (n_v vs 0) 158 ∧ w_fi ws (n_v vs 0) 158 ≤ 2009 := tv_rng (th_fd hD hth r0 (g := GG_150) rfl (k := 158) (t := (0, 0, 2009, [])) rfl rfl)
  have kz_0_159 : 0 ≤ w_fi ws (n_v vs 0) 159 ∧ w_fi ws (n_v vs 0) 159 ≤ 13 := tv_rng (th_fd hD hth r0 (g := GG_150) rfl (k := 159) (t := (0, 0, 13, [])) rfl rfl)
  have kz_0_164 : 0 ≤ w_fi ws (n_v vs 0) 164 ∧ w_fi ws (n_v vs 0) 164 ≤ 1 := tv_rng (th_fd hD hth r0 (g := GG_150) rfl (k := 164) (t := (0, 0, 1, [])) rfl rfl)
  have kz_0_165 : (-1) ≤ w_fi ws (n_v vs 0) 165 ∧ w_fi ws (n_v vs 0) 165 ≤ 47 := tv_rng (th_fd hD hth r0 (g := GG_150) rfl (k := 165) (t := (0, -1, 47, [])) rfl rfl)
  have nf0 : fc_1 (20, [1, 0], [30, 0, 1, 0, 0, -1, 1, 158]) ws (vs) := by
    refine ⟨fun n hn => ?_, ?_⟩
    · have hn : n ∈ [1, 0] := hn
      rw [hl]
      simp only [List.mem_cons, List.not_mem_nil, or_false] at hn
      show n < 25; omega
    · show 1 * v_iv (n_v vs 1) + ((-1) * w_fi ws (n_v vs 0) 158 + 0) ≤ 0
      omega
  refine ⟨(fun _ h => (by cases h)), [], trivial, ?_, (fun _ h => (by cases h))⟩
  rw [List.append_nil]
  exact List.forall_mem_cons.mpr ⟨⟨show (20 : Nat) < 100 from by decide, nf0⟩, (fun _ h => (by cases h))⟩
def o_Mo_oneTest_f_8 (k : Int) : or_T := (159, 18, [(0, (2, 0, 0, [150])), (1, (0, 0, 2009, [])), (7, (0, 0, 2009, [])), (10, (0, 0, 0, [])), (12, (0, 0, 0, [])), (14, (0, 1, 1, []))], [(8, [14], [1]), (20, [14, 0], [50, 1, 1, 1158, 1160, 4, 6, 1, 2, 1, 0, 0, 1, 1, 6, 3, 1, 160, 2, 1, 158, 0, 3]), (8, [12], [0]), (20, [12, 0], [50, 1, 1, 1158, 1160, 4, 6, 1, 2, 1, 0, 0, 1, 1, 6, 3, 1, 160, 2, 1, 158, 0, 3]), (8, [10], [0]), (20, [10, 0], [50, 1, 1, 1158, 1160, 4, 6, 1, 2, 1, 0, 0, 1, 1, 6, 3, 1, 160, 2, 1, 158, 0, 3]), (20, [0], [50, 2, 0, 164, 165, 4, 7, 1, 3, 2, 0, 164, 0, 0, 0, 3, 2, 0, 165, 0, 23]), (23, [1, 7], [0, 1, -1]), (20, [0], [50, 2, 0, 164, 165, 4, 7, 1, 3, 2, 0, 164, 0, 0, 0, 3, 2, 0, 165, 0, 23]), (20, [0], [50, 2, 1, 158, 157, 160, 2, 12, 0, 7, 4, 3, 2, 0, 158, 0, 1, 2, 0, 157, 2, 7, 0, 3, 2, 0, 157, 0, 2010, 3, 14, 1, 10, 3, 0, 160, 5, 3, 2, 0, 157, 0, 1, 0, 0, 1, 10, 3, 0, 160, 5, 3, 2, 0, 157, 0, 1, 0, 4]), (20, [7, 0], [30, 0, 1, 0, 0, -1, 1, 158]), (20, [0], [30, k, 1, 1, 159]), (20, [0], [30, (-k), -1, 1, 159]), (102, [7], [0, 13008, 13009, 13158, 13159]), (23, [1, 7], [0, 1, -1])], [], [], [(20, [1, 0], [30, 0, 1, 0, 0, -1, 1, 158])], [], [])
theorem oo_Mo_oneTest_f_8 {kA : Nat → ClassId} (k : Int) (hk0 : 0 ≤ k) (hk1 : k ≤ 12) : or_ok kA GG (o_Mo_oneTest_f_8 k) := by
  intro A ta ws vs hD hth hl hk hds hf
  have hl : vs.length = 18 := hl
  have hk : ∀ q ∈ ([(0, (2, 0, 0, [150])), (1, (0, 0, 2009, [])), (7, (0, 0, 2009, [])), (10, (0, 0, 0, [])), (12, (0, 0, 0, [])), (14, (0, 1, 1, []))] : List (Nat × tv_T)), tv_ok ta q.2 (n_v vs q.1) := hk
  obtain ⟨t0, hk⟩ := List.forall_mem_cons.mp hk
  have t0 : tv_ok ta (2, 0, 0, [150]) (n_v vs 0) := t0
  have r0 : ta (v_ad (n_v vs 0)) = some 150 := tv_rg t0
  obtain ⟨t1, hk⟩ := List.forall_mem_cons.mp hk
  have t1 : tv_ok ta (0, 0, 2009, []) (n_v vs 1) := t1
  have k1 : 0 ≤ v_iv (n_v vs 1) ∧ v_iv (n_v vs 1) ≤ 2009 := tv_rng t1
  obtain ⟨t7, hk⟩ := List.forall_mem_cons.mp hk
  have t7 : tv_ok ta (0, 0, 2009, []) (n_v vs 7) := t7
  have k7 : 0 ≤ v_iv (n_v vs 7) ∧ v_iv (n_v vs 7) ≤ 2009 := tv_rng t7
  obtain ⟨t10, hk⟩ := List.forall_mem_cons.mp hk
  have t10 : tv_ok ta (0, 0, 0, []) (n_v vs 10) := t10
  have k10 : 0 ≤ v_iv (n_v vs 10) ∧ v_iv (n_v vs 10) ≤ 0 := tv_rng t10
  obtain ⟨t12, hk⟩ := List.forall_mem_cons.mp hk
  have t12 : tv_ok ta (0, 0, 0, []) (n_v vs 12) := t12
  have k12 : 0 ≤ v_iv (n_v vs 12) ∧ v_iv (n_v vs 12) ≤ 0 := tv_rng t12
  obtain ⟨t14, hk⟩ := List.forall_mem_cons.mp hk
  have t14 : tv_ok ta (0, 1, 1, []) (n_v vs 14) := t14
  have k14 : 1 ≤ v_iv (n_v vs 14) ∧ v_iv (n_v vs 14) ≤ 1 := tv_rng t14
  have hf : fc_ok [(8, [14], [1]), (20, [14, 0], [50, 1, 1, 1158, 1160, 4, 6, 1, 2, 1, 0, 0, 1, 1, 6, 3, 1, 160, 2, 1, 158, 0, 3]), (8, [12], [0]), (20, [12, 0], [50, 1, 1, 1158, 1160, 4, 6, 1, 2, 1, 0, 0, 1, 1, 6, 3, 1, 160, 2, 1, 158, 0, 3]), (8, [10], [0]), (20, [10, 0], [50, 1, 1, 1158, 1160, 4, 6, 1, 2, 1, 0, 0, 1, 1, 6, 3, 1, 160, 2, 1, 158, 0, 3]), (20, [0], [50, 2, 0, 164, 165, 4, 7, 1, 3, 2, 0, 164, 0, 0, 0, 3, 2, 0, 165, 0, 23]), (23, [1, 7], [0, 1, -1]), (20, [0], [50, 2, 0, 164, 165, 4, 7, 1, 3, 2, 0, 164, 0, 0, 0, 3, 2, 0, 165, 0, 23]), (20, [0], [50, 2, 1, 158, 157, 160, 2, 12, 0, 7, 4, 3, 2, 0, 158, 0, 1, 2, 0, 157, 2, 7, 0, 3, 2, 0, 157, 0, 2010, 3, 14, 1, 10, 3, 0, 160, 5, 3, 2, 0, 157, 0, 1, 0, 0, 1, 10, 3, 0, 160, 5, 3, 2, 0, 157, 0, 1, 0, 4]), (20, [7, 0], [30, 0, 1, 0, 0, -1, 1, 158]), (20, [0], [30, k, 1, 1, 159]), (20, [0], [30, (-k), -1, 1, 159]), (102, [7], [0, 13008, 13009, 13158, 13159]), (23, [1, 7], [0, 1, -1])] ta ws vs := hf
  obtain ⟨f0, hf⟩ := fc_un (show (8 : Nat) < 100 from by decide) hf
  have f0 : v_iv (n_v vs 14) ≠ 0 := f0
  obtain ⟨f1, hf⟩ := fc_un (show (20 : Nat) < 100 from by decide) hf
  have f1 : (v_iv (n_v vs 14) = 1) → (w_ei ws (w_ar ws (n_v vs 0) 160) (w_fi ws (n_v vs 0) 158) = 3) := f1
  obtain ⟨f2, hf⟩ := fc_un (show (8 : Nat) < 100 from by decide) hf
  have f2 : v_iv (n_v vs 12) = 0 := f2
  obtain ⟨f3, hf⟩ := fc_un (show (20 : Nat) < 100 from by decide) hf
  have f3 : (v_iv (n_v vs 12) = 1) → (w_ei ws (w_ar ws (n_v vs 0) 160) (w_fi ws (n_v vs 0) 158) = 3) := f3
  obtain ⟨f4, hf⟩ := fc_un (show (8 : Nat) < 100 from by decide) hf
  have f4 : v_iv (n_v vs 10) = 0 := f4
  obtain ⟨f5, hf⟩ := fc_un (show (20 : Nat) < 100 from by decide) hf
  have f5 : (v_iv (n_v vs 10) = 1) → (w_ei ws (w_ar ws (n_v vs 0) 160) (w_fi ws (n_v vs 0) 158) = 3) := f5
  obtain ⟨f6, hf⟩ := fc_un (show (20 : Nat) < 100 from by decide) hf
  have f6 : (w_fi ws (n_v vs 0) 164 = 0) → (w_fi ws (n_v vs 0) 165 ≤ 23) := f6
  obtain ⟨f7, hf⟩ := fc_un (show (23 : Nat) < 100 from by decide) hf
  have f7 : 1 * v_iv (n_v vs 1) + ((-1) * v_iv (n_v vs 7) + 0) ≤ 0 := f7
  obtain ⟨f8, hf⟩ := fc_un (show (20 : Nat) < 100 from by decide) hf
  have f8 : (w_fi ws (n_v vs 0) 164 = 0) → (w_fi ws (n_v vs 0) 165 ≤ 23) := f8
  obtain ⟨f9, hf⟩ := fc_un (show (20 : Nat) < 100 from by decide) hf
  have f9 : ((w_fi ws (n_v vs 0) 158 + 1) ≤ w_fi ws (n_v vs 0) 157) ∧ ((w_fi ws (n_v vs 0) 157 ≤ 2010) ∧ ((w_ei ws (w_ar ws (n_v vs 0) 160) ((w_fi ws (n_v vs 0) 157 - 1)) = 0) ∨ (w_ei ws (w_ar ws (n_v vs 0) 160) ((w_fi ws (n_v vs 0) 157 - 1)) = 4))) := f9
  obtain ⟨f10, hf⟩ := fc_un (show (20 : Nat) < 100 from by decide) hf
  have f10 : 1 * v_iv (n_v vs 7) + ((-1) * w_fi ws (n_v vs 0) 158 + 0) ≤ 0 := f10
  obtain ⟨f11, hf⟩ := fc_un (show (20 : Nat) < 100 from by decide) hf
  have f11 : 1 * w_fi ws (n_v vs 0) 159 + 0 ≤ k := f11
  obtain ⟨f12, hf⟩ := fc_un (show (20 : Nat) < 100 from by decide) hf
  have f12 : (-1) * w_fi ws (n_v vs 0) 159 + 0 ≤ ((-k)) := f12
  obtain ⟨ta1, w1, le1, ⟨_, s1⟩, hf⟩ := fc_us (show ¬ (102 : Nat) < 100 from by decide) hf
  obtain ⟨f14, hf⟩ := fc_un (show (23 : Nat) < 100 from by decide) hf
  have f14 : 1 * v_iv (n_v vs 1) + ((-1) * v_iv (n_v vs 7) + 0) ≤ 0 := f14
  have cr_0_160 : ta (w_ar ws (n_v vs 0) 160) = some 259 := tv_rg (th_fd hD hth r0 (g := GG_150) rfl (k := 160) (t := (2, 0, 0, [259])) rfl rfl)
  have hK_0_160 : ∀ j : Int, 0 ≤ j → j < 2010 → 0 ≤ w_ei ws (w_ar ws (n_v vs 0) 160) j ∧ w_ei ws (w_ar ws (n_v vs 0) 160) j ≤ 4 := fun j h0 h1 => th_el hD hth cr_0_160 (kd := 0) (n := 2010) (m := 2010) (lo := 0) (hi := 4) (rs := []) (L := []) rfl (by decide) (j := j.toNat) (by omega)
  have kz_0_157 : 0 ≤ w_fi ws (n_v vs 0) 157 ∧ w_fi ws (n_v vs 0) 157 ≤ 2010 := tv_rng (th_fd hD hth r0 (g := GG_150) rfl (k := 157) (t := (0, 0, 2010, [])) rfl rfl)
  have kz_0_158 : 0 ≤ w_fi ws (n_v vs 0) 158 ∧ w_fi ws (n_v vs 0) 158 ≤ 2009 := tv_rng (th_fd hD hth r0 (g := GG_150) rfl (k := 158) (t := (0, 0, 2009, [])) rfl rfl)
  have kz_0_159 : 0 ≤ w_fi ws (n_v vs 0) 159 ∧ w_fi ws (n_v vs 0) 159 ≤ 13 := tv_rng (th_fd hD hth r0 (g := GG_150) rfl (k := 159) (t := (0, 0, 13, [])) rfl rfl)
  have kz_0_164 : 0 ≤ w_fi ws (n_v vs 0) 164 ∧ w_fi ws (n_v vs 0) 164 ≤ 1 := tv_rng (th_fd hD hth r0 (g := GG_150) rfl (k := 164) (t := (0, 0, 1, [])) rfl rfl)
  have kz_0_165 : (-1) ≤ w_fi ws (n_v vs 0) 165 ∧ w_fi ws (n_v vs 0) 165 ≤ 47 := tv_rng (th_fd hD hth r0 (g := GG_150) rfl (k := 165) (t := (0, -1, 47, [])) rfl rfl)
  have nf0 : fc_1 (20, [1, 0], [30, 0, 1, 0, 0, -1, 1, 158]) ws (vs) := by
    refine ⟨fun n hn => ?_, ?_⟩
    · have hn : n ∈ [1, 0] := hn
      rw [hl]
      simp only [List.mem_cons, List.not_mem_nil, or_false] at hn
      show n < 18; omega
    · show 1 * v_iv (n_v vs 1) + ((-1) * w_fi ws (n_v vs 0) 158 + 0) ≤ 0
      omega
  refine ⟨(fun _ h => (by cases h)), [], trivial, ?_, (fun _ h => (by cases h))⟩
  rw [List.append_nil]
  exact List.forall_mem_cons.mpr ⟨⟨show (20 : Nat) < 100 from by decide, nf0⟩, (fun _ h => (by cases h))⟩
def o_Mo_oneTest_f_9 (k : Int) : or_T := (167, 18, [(0, (2, 0, 0, [150])), (1, (0, 0, 2009, [])), (7, (0, 0, 2009, [])), (10, (0, 0, 0, [])), (12, (0, 1, 1, [])), (15, (0, 0, 2009, [])), (16, (0, 1, 1, [])), (17, (0, 1, 2010, []))], [(1, [17, 15, 16], []), (9, [15, 0], [158]), (8, [12], [1]), (20, [12, 0], [50, 1, 1, 1158, 1160, 4, 6, 1, 2, 1, 0, 0, 1, 1, 6, 3, 1, 160, 2, 1, 158, 0, 3]), (8, [10], [0]), (20, [10, 0], [50, 1, 1, 1158, 1160, 4, 6, 1, 2, 1, 0, 0, 1, 1, 6, 3, 1, 160, 2, 1, 158, 0, 3]), (20, [0], [50, 2, 0, 164, 165, 4, 7, 1, 3, 2, 0, 164, 0, 0, 0, 3, 2, 0, 165, 0, 23]), (23, [1, 7], [0, 1, -1]), (20, [0], [50, 2, 0, 164, 165, 4, 7, 1, 3, 2, 0, 164, 0, 0, 0, 3, 2, 0, 165, 0, 23]), (20, [0], [50, 2, 1, 158, 157, 160, 2, 12, 0, 7, 4, 3, 2, 0, 158, 0, 1, 2, 0, 157, 2, 7, 0, 3, 2, 0, 157, 0, 2010, 3, 14, 1, 10, 3, 0, 160, 5, 3, 2, 0, 157, 0, 1, 0, 0, 1, 10, 3, 0, 160, 5, 3, 2, 0, 157, 0, 1, 0, 4]), (20, [7, 0], [30, 0, 1, 0, 0, -1, 1, 158]), (20, [0], [30, k, 1, 1, 159]), (20, [0], [30, (-k), -1, 1, 159]), (102, [7], [0, 13008, 13009, 13158, 13159]), (23, [1, 7], [0, 1, -1])], [(17, (0, 1, 2009, []))], [], [], [], [(17, 15, 1, 1)])
theorem oo_Mo_oneTest_f_9 {kA : Nat → ClassId} (k : Int) (hk0 : 0 ≤ k) (hk1 : k ≤ 12) : or_ok kA GG (o_Mo_oneTest_f_9 k) := by
  intro A ta ws vs hD hth hl hk hds hf
  have hl : vs.length = 18 := hl
  have hk : ∀ q ∈ ([(0, (2, 0, 0, [150])), (1, (0, 0, 2009, [])), (7, (0, 0, 2009, [])), (10, (0, 0, 0, [])), (12, (0, 1, 1, [])), (15, (0, 0, 2009, [])), (16, (0, 1, 1, [])), (17, (0, 1, 2010, []))] : List (Nat × tv_T)), tv_ok ta q.2 (n_v vs q.1) := hk
  obtain ⟨t0, hk⟩ := List.forall_mem_cons.mp hk
  have t0 : tv_ok ta (2, 0, 0, [150]) (n_v vs 0) := t0
  have r0 : ta (v_ad (n_v vs 0)) = some 150 := tv_rg t0
  obtain ⟨t1, hk⟩ := List.forall_mem_cons.mp hk
  have t1 : tv_ok ta (0, 0, 2009, []) (n_v vs 1) := t1
  have k1 : 0 ≤ v_iv (n_v vs 1) ∧ v_iv (n_v vs 1) ≤ 2009 := tv_rng t1
  obtain ⟨t7, hk⟩ := List.forall_mem_cons.mp hk
  have t7 : tv_ok ta (0, 0, 2009, []) (n_v vs 7) := t7
  have k7 : 0 ≤ v_iv (n_v vs 7) ∧ v_iv (n_v vs 7) ≤ 2009 := tv_rng t7
  obtain ⟨t10, hk⟩ := List.forall_mem_cons.mp hk
  have t10 : tv_ok ta (0, 0, 0, []) (n_v vs 10) := t10
  have k10 : 0 ≤ v_iv (n_v vs 10) ∧ v_iv (n_v vs 10) ≤ 0 := tv_rng t10
  obtain ⟨t12, hk⟩ := List.forall_mem_cons.mp hk
  have t12 : tv_ok ta (0, 1, 1, []) (n_v vs 12) := t12
  have k12 : 1 ≤ v_iv (n_v vs 12) ∧ v_iv (n_v vs 12) ≤ 1 := tv_rng t12
  obtain ⟨t15, hk⟩ := List.forall_mem_cons.mp hk
  have t15 : tv_ok ta (0, 0, 2009, []) (n_v vs 15) := t15
  have k15 : 0 ≤ v_iv (n_v vs 15) ∧ v_iv (n_v vs 15) ≤ 2009 := tv_rng t15
  obtain ⟨t16, hk⟩ := List.forall_mem_cons.mp hk
  have t16 : tv_ok ta (0, 1, 1, []) (n_v vs 16) := t16
  have k16 : 1 ≤ v_iv (n_v vs 16) ∧ v_iv (n_v vs 16) ≤ 1 := tv_rng t16
  obtain ⟨t17, hk⟩ := List.forall_mem_cons.mp hk
  have t17 : tv_ok ta (0, 1, 2010, []) (n_v vs 17) := t17
  have k17 : 1 ≤ v_iv (n_v vs 17) ∧ v_iv (n_v vs 17) ≤ 2010 := tv_rng t17
  have hds : ∀ q ∈ ([(17, 15, 1, 1)] : List of_T), n_iv vs q.2.1 + q.2.2.1 ≤ n_iv vs q.1 ∧ n_iv vs q.1 ≤ n_iv vs q.2.1 + q.2.2.2 := hds
  obtain ⟨d0, hds⟩ := List.forall_mem_cons.mp hds
  have d0 : v_iv (n_v vs 15) + 1 ≤ v_iv (n_v vs 17) ∧ v_iv (n_v vs 17) ≤ v_iv (n_v vs 15) + 1 := d0
  have hf : fc_ok [(1, [17, 15, 16], []), (9, [15, 0], [158]), (8, [12], [1]), (20, [12, 0], [50, 1, 1, 1158, 1160, 4, 6, 1, 2, 1, 0, 0, 1, 1, 6, 3, 1, 160, 2, 1, 158, 0, 3]), (8, [10], [0]), (20, [10, 0], [50, 1, 1, 1158, 1160, 4, 6, 1, 2, 1, 0, 0, 1, 1, 6, 3, 1, 160, 2, 1, 158, 0, 3]), (20, [0], [50, 2, 0, 164, 165, 4, 7, 1, 3, 2, 0, 164, 0, 0, 0, 3, 2, 0, 165, 0, 23]), (23, [1, 7], [0, 1, -1]), (20, [0], [50, 2, 0, 164, 165, 4, 7, 1, 3, 2, 0, 164, 0, 0, 0, 3, 2, 0, 165, 0, 23]), (20, [0], [50, 2, 1, 158, 157, 160, 2, 12, 0, 7, 4, 3, 2, 0, 158, 0, 1, 2, 0, 157, 2, 7, 0, 3, 2, 0, 157, 0, 2010, 3, 14, 1, 10, 3, 0, 160, 5, 3, 2, 0, 157, 0, 1, 0, 0, 1, 10, 3, 0, 160, 5, 3, 2, 0, 157, 0, 1, 0, 4]), (20, [7, 0], [30, 0, 1, 0, 0, -1, 1, 158]), (20, [0], [30, k, 1, 1, 159]), (20, [0], [30, (-k), -1, 1, 159]), (102, [7], [0, 13008, 13009, 13158, 13159]), (23, [1, 7], [0, 1, -1])] ta ws vs := hf
  obtain ⟨f0, hf⟩ := fc_un (show (1 : Nat) < 100 from by decide) hf
  have f0 : v_iv (n_v vs 17) = v_iv (n_v vs 15) + v_iv (n_v vs 16) := f0
  obtain ⟨f1, hf⟩ := fc_un (show (9 : Nat) < 100 from by decide) hf
  have f1 : n_v vs 15 = w_fd ws (v_ad (n_v vs 0)) 158 := f1
  obtain ⟨f2, hf⟩ := fc_un (show (8 : Nat) < 100 from by decide) hf
  have f2 : v_iv (n_v vs 12) ≠ 0 := f2
  obtain ⟨f3, hf⟩ := fc_un (show (20 : Nat) < 100 from by decide) hf
  have f3 : (v_iv (n_v vs 12) = 1) → (w_ei ws (w_ar ws (n_v vs 0) 160) (w_fi ws (n_v vs 0) 158) = 3) := f3
  obtain ⟨f4, hf⟩ := fc_un (show (8 : Nat) < 100 from by decide) hf
  have f4 : v_iv (n_v vs 10) = 0 := f4
  obtain ⟨f5, hf⟩ := fc_un (show (20 : Nat) < 100 from by decide) hf
  have f5 : (v_iv (n_v vs 10) = 1) → (w_ei ws (w_ar ws (n_v vs 0) 160) (w_fi ws (n_v vs 0) 158) = 3) := f5
  obtain ⟨f6, hf⟩ := fc_un (show (20 : Nat) < 100 from by decide) hf
  have f6 : (w_fi ws (n_v vs 0) 164 = 0) → (w_fi ws (n_v vs 0) 165 ≤ 23) := f6
  obtain ⟨f7, hf⟩ := fc_un (show (23 : Nat) < 100 from by decide) hf
  have f7 : 1 * v_iv (n_v vs 1) + ((-1) * v_iv (n_v vs 7) + 0) ≤ 0 := f7
  obtain ⟨f8, hf⟩ := fc_un (show (20 : Nat) < 100 from by decide) hf
  have f8 : (w_fi ws (n_v vs 0) 164 = 0) → (w_fi ws (n_v vs 0) 165 ≤ 23) := f8
  obtain ⟨f9, hf⟩ := fc_un (show (20 : Nat) < 100 from by decide) hf
  have f9 : ((w_fi ws (n_v vs 0) 158 + 1) ≤ w_fi ws (n_v vs 0) 157) ∧ ((w_fi ws (n_v vs 0) 157 ≤ 2010) ∧ ((w_ei ws (w_ar ws (n_v vs 0) 160) ((w_fi ws (n_v vs 0) 157 - 1)) = 0) ∨ (w_ei ws (w_ar ws (n_v vs 0) 160) ((w_fi ws (n_v vs 0) 157 - 1)) = 4))) := f9
  obtain ⟨f10, hf⟩ := fc_un (show (20 : Nat) < 100 from by decide) hf
  have f10 : 1 * v_iv (n_v vs 7) + ((-1) * w_fi ws (n_v vs 0) 158 + 0) ≤ 0 := f10
  obtain ⟨f11, hf⟩ := fc_un (show (20 : Nat) < 100 from by decide) hf
  have f11 : 1 * w_fi ws (n_v vs 0) 159 + 0 ≤ k := f11
  obtain ⟨f12, hf⟩ := fc_un (show (20 : Nat) < 100 from by decide) hf
  have f12 : (-1) * w_fi ws (n_v vs 0) 159 + 0 ≤ ((-k)) := f12
  obtain ⟨ta1, w1, le1, ⟨_, s1⟩, hf⟩ := fc_us (show ¬ (102 : Nat) < 100 from by decide) hf
  obtain ⟨f14, hf⟩ := fc_un (show (23 : Nat) < 100 from by decide) hf
  have f14 : 1 * v_iv (n_v vs 1) + ((-1) * v_iv (n_v vs 7) + 0) ≤ 0 := f14
  have cr_0_160 : ta (w_ar ws (n_v vs 0) 160) = some 259 := tv_rg (th_fd hD hth r0 (g := GG_150) rfl (k := 160) (t := (2, 0, 0, [259])) rfl rfl)
  have g1 : v_iv (n_v vs 15) = w_fi ws (n_v vs 0) 158 := congrArg v_iv f1
  have hK_0_160 : ∀ j : Int, 0 ≤ j → j < 2010 → 0 ≤ w_ei ws (w_ar ws (n_v vs 0) 160) j ∧ w_ei ws (w_ar ws (n_v vs 0) 160) j ≤ 4 := fun j h0 h1 => th_el hD hth cr_0_160 (kd := 0) (n := 2010) (m := 2010) (lo := 0) (hi := 4) (rs := []) (L := []) rfl (by decide) (j := j.toNat) (by omega)
  have kz_0_157 : 0 ≤ w_fi ws (n_v vs 0) 157 ∧ w_fi ws (n_v vs 0) 157 ≤ 2010 := tv_rng (th_fd hD hth r0 (g := GG_150) rfl (k := 157) (t := (0, 0, 2010, [])) rfl rfl)
  have kz_0_158 : 0 ≤ w_fi ws (n_v vs 0) 158 ∧ w_fi ws (n_v vs 0) 158 ≤ 2009 := tv_rng (th_fd hD hth r0 (g := GG_150) rfl (k := 158) (t := (0, 0, 2009, [])) rfl rfl)
  have kz_0_159 : 0 ≤ w_fi ws (n_v vs 0) 159 ∧ w_fi ws (n_v vs 0) 159 ≤ 13 := tv_rng (th_fd hD hth r0 (g := GG_150) rfl (k := 159) (t := (0, 0, 13, [])) rfl rfl)
  have kz_0_164 : 0 ≤ w_fi ws (n_v vs 0) 164 ∧ w_fi ws (n_v vs 0) 164 ≤ 1 := tv_rng (th_fd hD hth r0 (g := GG_150) rfl (k := 164) (t := (0, 0, 1, [])) rfl rfl)
  have kz_0_165 : (-1) ≤ w_fi ws (n_v vs 0) 165 ∧ w_fi ws (n_v vs 0) 165 ≤ 47 := tv_rng (th_fd hD hth r0 (g := GG_150) rfl (k := 165) (t := (0, -1, 47, [])) rfl rfl)
  have rf17 : tv_ok ta (0, 1, 2009, []) (n_v vs 17) := tv_in t17 (by first | omega | grind) (by first | omega | grind)
  refine ⟨List.forall_mem_cons.mpr ⟨rf17, (fun _ h => (by cases h))⟩, [], trivial, ?_, (fun _ h => (by cases h))⟩
  rw [List.append_nil]
  exact (fun _ h => (by cases h))
def o_Mo_oneTest_f_10 (k : Int) : or_T := (171, 18, [(0, (2, 0, 0, [150])), (1, (0, 0, 2009, [])), (7, (0, 0, 2009, [])), (10, (0, 0, 0, [])), (12, (0, 1, 1, [])), (15, (0, 0, 2009, [])), (16, (0, 1, 1, [])), (17, (0, 1, 2009, []))], [(20, [0], [50, 2, 0, 164, 165, 4, 7, 1, 3, 2, 0, 164, 0, 0, 0, 3, 2, 0, 165, 0, 23]), (23, [1, 7], [0, 1, -1]), (20, [0], [50, 2, 0, 164, 165, 4, 7, 1, 3, 2, 0, 164, 0, 0, 0, 3, 2, 0, 165, 0, 23]), (20, [0], [30, k, 1, 1, 159]), (20, [0], [30, (-k), -1, 1, 159]), (101, [0, 17], [158]), (1, [17, 15, 16], []), (9, [15, 0], [158]), (8, [12], [1]), (20, [12, 0], [50, 1, 1, 1158, 1160, 4, 6, 1, 2, 1, 0, 0, 1, 1, 6, 3, 1, 160, 2, 1, 158, 0, 3]), (8, [10], [0]), (20, [10, 0], [50, 1, 1, 1158, 1160, 4, 6, 1, 2, 1, 0, 0, 1, 1, 6, 3, 1, 160, 2, 1, 158, 0, 3]), (20, [0], [50, 2, 0, 164, 165, 4, 7, 1, 3, 2, 0, 164, 0, 0, 0, 3, 2, 0, 165, 0, 23]), (23, [1, 7], [0, 1, -1]), (20, [0], [50, 2, 0, 164, 165, 4, 7, 1, 3, 2, 0, 164, 0, 0, 0, 3, 2, 0, 165, 0, 23]), (20, [0], [50, 2, 1, 158, 157, 160, 2, 12, 0, 7, 4, 3, 2, 0, 158, 0, 1, 2, 0, 157, 2, 7, 0, 3, 2, 0, 157, 0, 2010, 3, 14, 1, 10, 3, 0, 160, 5, 3, 2, 0, 157, 0, 1, 0, 0, 1, 10, 3, 0, 160, 5, 3, 2, 0, 157, 0, 1, 0, 4]), (20, [7, 0], [30, 0, 1, 0, 0, -1, 1, 158]), (20, [0], [30, k, 1, 1, 159]), (20, [0], [30, (-k), -1, 1, 159]), (102, [7], [0, 13008, 13009, 13158, 13159]), (23, [1, 7], [0, 1, -1])], [], [(0, 0, 2009, [])], [(20, [0], [50, 2, 1, 158, 157, 160, 2, 12, 0, 7, 4, 3, 2, 0, 158, 0, 1, 2, 0, 157, 2, 7, 0, 3, 2, 0, 157, 0, 2010, 3, 14, 1, 10, 3, 0, 160, 5, 3, 2, 0, 157, 0, 1, 0, 0, 1, 10, 3, 0, 160, 5, 3, 2, 0, 157, 0, 1, 0, 4]), (20, [0, 18], [30, 0, 1, 1, 158, -1, 0, 0]), (20, [0, 18], [30, 0, -1, 1, 158, 1, 0, 0]), (20, [0], [50, 2, 0, 164, 165, 4, 7, 1, 3, 2, 0, 164, 0, 0, 0, 3, 2, 0, 165, 0, 23]), (20, [0], [30, k, 1, 1, 159]), (20, [0], [30, (-k), -1, 1, 159]), (23, [1, 18], [0, 1, -1])], [], [(17, 15, 1, 1)])
theorem oo_Mo_oneTest_f_10 {kA : Nat → ClassId} (k : Int) (hk0 : 0 ≤ k) (hk1 : k ≤ 12) : or_ok kA GG (o_Mo_oneTest_f_10 k) := by
  intro A ta ws vs hD hth hl hk hds hf
  have hl : vs.length = 18 := hl
  have hk : ∀ q ∈ ([(0, (2, 0, 0, [150])), (1, (0, 0, 2009, [])), (7, (0, 0, 2009, [])), (10, (0, 0, 0, [])), (12, (0, 1, 1, [])), (15, (0, 0, 2009, [])), (16, (0, 1, 1, [])), (17, (0, 1, 2009, []))] : List (Nat × tv_T)), tv_ok ta q.2 (n_v vs q.1) := hk
  obtain ⟨t0, hk⟩ := List.forall_mem_cons.mp hk
  have t0 : tv_ok ta (2, 0, 0, [150]) (n_v vs 0) := t0
  have r0 : ta (v_ad (n_v vs 0)) = some 150 := tv_rg t0
  obtain ⟨t1, hk⟩ := List.forall_mem_cons.mp hk
  have t1 : tv_ok ta (0, 0, 2009, []) (n_v vs 1) := t1
  have k1 : 0 ≤ v_iv (n_v vs 1) ∧ v_iv (n_v vs 1) ≤ 2009 := tv_rng t1
  obtain ⟨t7, hk⟩ := List.forall_mem_cons.mp hk
  have t7 : tv_ok ta (0, 0, 2009, []) (n_v vs 7) := t7
  have k7 : 0 ≤ v_iv (n_v vs 7) ∧ v_iv (n_v vs 7) ≤ 2009 := tv_rng t7
  obtain ⟨t10, hk⟩ := List.forall_mem_cons.mp hk
  have t10 : tv_ok ta (0, 0, 0, []) (n_v vs 10) := t10
  have k10 : 0 ≤ v_iv (n_v vs 10) ∧ v_iv (n_v vs 10) ≤ 0 := tv_rng t10
  obtain ⟨t12, hk⟩ := List.forall_mem_cons.mp hk
  have t12 : tv_ok ta (0, 1, 1, []) (n_v vs 12) := t12
  have k12 : 1 ≤ v_iv (n_v vs 12) ∧ v_iv (n_v vs 12) ≤ 1 := tv_rng t12
  obtain ⟨t15, hk⟩ := List.forall_mem_cons.mp hk
  have t15 : tv_ok ta (0, 0, 2009, []) (n_v vs 15) := t15
  have k15 : 0 ≤ v_iv (n_v vs 15) ∧ v_iv (n_v vs 15) ≤ 2009 := tv_rng t15
  obtain ⟨t16, hk⟩ := List.forall_mem_cons.mp hk
  have t16 : tv_ok ta (0, 1, 1, []) (n_v vs 16) := t16
  have k16 : 1 ≤ v_iv (n_v vs 16) ∧ v_iv (n_v vs 16) ≤ 1 := tv_rng t16
  obtain ⟨t17, hk⟩ := List.forall_mem_cons.mp hk
  have t17 : tv_ok ta (0, 1, 2009, []) (n_v vs 17) := t17
  have k17 : 1 ≤ v_iv (n_v vs 17) ∧ v_iv (n_v vs 17) ≤ 2009 := tv_rng t17
  have hds : ∀ q ∈ ([(17, 15, 1, 1)] : List of_T), n_iv vs q.2.1 + q.2.2.1 ≤ n_iv vs q.1 ∧ n_iv vs q.1 ≤ n_iv vs q.2.1 + q.2.2.2 := hds
  obtain ⟨d0, hds⟩ := List.forall_mem_cons.mp hds
  have d0 : v_iv (n_v vs 15) + 1 ≤ v_iv (n_v vs 17) ∧ v_iv (n_v vs 17) ≤ v_iv (n_v vs 15) + 1 := d0
  have hf : fc_ok [(20, [0], [50, 2, 0, 164, 165, 4, 7, 1, 3, 2, 0, 164, 0, 0, 0, 3, 2, 0, 165, 0, 23]), (23, [1, 7], [0, 1, -1]), (20, [0], [50, 2, 0, 164, 165, 4, 7, 1, 3, 2, 0, 164, 0, 0, 0, 3, 2, 0, 165, 0, 23]), (20, [0], [30, k, 1, 1, 159]), (20, [0], [30, (-k), -1, 1, 159]), (101, [0, 17], [158]), (1, [17, 15, 16], []), (9, [15, 0], [158]), (8, [12], [1]), (20, [12, 0], [50, 1, 1, 1158, 1160, 4, 6, 1, 2, 1, 0, 0, 1, 1, 6, 3, 1, 160, 2, 1, 158, 0, 3]), (8, [10], [0]), (20, [10, 0], [50, 1, 1, 1158, 1160, 4, 6, 1, 2, 1, 0, 0, 1, 1, 6, 3, 1, 160, 2, 1, 158, 0, 3]), (20, [0], [50, 2, 0, 164, 165, 4, 7, 1, 3, 2, 0, 164, 0, 0, 0, 3, 2, 0, 165, 0, 23]), (23, [1, 7], [0, 1, -1]), (20, [0], [50, 2, 0, 164, 165, 4, 7, 1, 3, 2, 0, 164, 0, 0, 0, 3, 2, 0, 165, 0, 23]), (20, [0], [50, 2, 1, 158, 157, 160, 2, 12, 0, 7, 4, 3, 2, 0, 158, 0, 1, 2, 0, 157, 2, 7, 0, 3, 2, 0, 157, 0, 2010, 3, 14, 1, 10, 3, 0, 160, 5, 3, 2, 0, 157, 0, 1, 0, 0, 1, 10, 3, 0, 160, 5, 3, 2, 0, 157, 0, 1, 0, 4]), (20, [7, 0], [30, 0, 1, 0, 0, -1, 1, 158]), (20, [0], [30, k, 1, 1, 159]), (20, [0], [30, (-k), -1, 1, 159]), (102, [7], [0, 13008, 13009, 13158, 13159]), (23, [1, 7], [0, 1, -1])] ta ws vs := hf
  obtain ⟨f0, hf⟩ := fc_un (show (20 : Nat) < 100 from by decide) hf
  have f0 : (w_fi ws (n_v vs 0) 164 = 0) → (w_fi ws (n_v vs 0) 165 ≤ 23) := f0
  obtain ⟨f1, hf⟩ := fc_un (show (23 : Nat) < 100 from by decide) hf
  have f1 : 1 * v_iv (n_v vs 1) + ((-1) * v_iv (n_v vs 7) + 0) ≤ 0 := f1
  obtain ⟨f2, hf⟩ := fc_un (show (20 : Nat) < 100 from by decide) hf
  have f2 : (w_fi ws (n_v vs 0) 164 = 0) → (w_fi ws (n_v vs 0) 165 ≤ 23) := f2
  obtain ⟨f3, hf⟩ := fc_un (show (20 : Nat) < 100 from by decide) hf
  have f3 : 1 * w_fi ws (n_v vs 0) 159 + 0 ≤ k := f3
  obtain ⟨f4, hf⟩ := fc_un (show (20 : Nat) < 100 from by decide) hf
  have f4 : (-1) * w_fi ws (n_v vs 0) 159 + 0 ≤ ((-k)) := f4
  obtain ⟨ta1, w1, le1, ⟨_, s1⟩, hf⟩ := fc_us (show ¬ (101 : Nat) < 100 from by decide) hf
  have s1 : (∀ b j, w_el ws b j = w_el w1 b j) ∧ ∀ b j, w_fd ws b j = if b = v_ad (n_v vs 0) ∧ j = 158 then n_v vs 17 else w_fd w1 b j := s1
  obtain ⟨f6, hf⟩ := fc_un (show (1 : Nat) < 100 from by decide) hf
  have f6 : v_iv (n_v vs 17) = v_iv (n_v vs 15) + v_iv (n_v vs 16) := f6
  obtain ⟨f7, hf⟩ := fc_un (show (9 : Nat) < 100 from by decide) hf
  have f7 : n_v vs 15 = w_fd w1 (v_ad (n_v vs 0)) 158 := f7
  obtain ⟨f8, hf⟩ := fc_un (show (8 : Nat) < 100 from by decide) hf
  have f8 : v_iv (n_v vs 12) ≠ 0 := f8
  obtain ⟨f9, hf⟩ := fc_un (show (20 : Nat) < 100 from by decide) hf
  have f9 : (v_iv (n_v vs 12) = 1) → (w_ei w1 (w_ar w1 (n_v vs 0) 160) (w_fi w1 (n_v vs 0) 158) = 3) := f9
  obtain ⟨f10, hf⟩ := fc_un (show (8 : Nat) < 100 from by decide) hf
  have f10 : v_iv (n_v vs 10) = 0 := f10
  obtain ⟨f11, hf⟩ := fc_un (show (20 : Nat) < 100 from by decide) hf
  have f11 : (v_iv (n_v vs 10) = 1) → (w_ei w1 (w_ar w1 (n_v vs 0) 160) (w_fi w1 (n_v vs 0) 158) = 3) := f11
  obtain ⟨f12, hf⟩ := fc_un (show (20 : Nat) < 100 from by decide) hf
  have f12 : (w_fi w1 (n_v vs 0) 164 = 0) → (w_fi w1 (n_v vs 0) 165 ≤ 23) := f12
  obtain ⟨f13, hf⟩ := fc_un (show (23 : Nat) < 100 from by decide) hf
  have f13 : 1 * v_iv (n_v vs 1) + ((-1) * v_iv (n_v vs 7) + 0) ≤ 0 := f13
  obtain ⟨f14, hf⟩ := fc_un (show (20 : Nat) < 100 from by decide) hf
  have f14 : (w_fi w1 (n_v vs 0) 164 = 0) → (w_fi w1 (n_v vs 0) 165 ≤ 23) := f14
  obtain ⟨f15, hf⟩ := fc_un (show (20 : Nat) < 100 from by decide) hf
  have f15 : ((w_fi w1 (n_v vs 0) 158 + 1) ≤ w_fi w1 (n_v vs 0) 157) ∧ ((w_fi w1 (n_v vs 0) 157 ≤ 2010) ∧ ((w_ei w1 (w_ar w1 (n_v vs 0) 160) ((w_fi w1 (n_v vs 0) 157 - 1)) = 0) ∨ (w_ei w1 (w_ar w1 (n_v vs 0) 160) ((w_fi w1 (n_v vs 0) 157 - 1)) = 4))) := f15
  obtain ⟨f16, hf⟩ := fc_un (show (20 : Nat) < 100 from by decide) hf
  have f16 : 1 * v_iv (n_v vs 7) + ((-1) * w_fi w1 (n_v vs 0) 158 + 0) ≤ 0 := f16
  obtain ⟨f17, hf⟩ := fc_un (show (20 : Nat) < 100 from by decide) hf
  have f17 : 1 * w_fi w1 (n_v vs 0) 159 + 0 ≤ k := f17
  obtain ⟨f18, hf⟩ := fc_un (show (20 : Nat) < 100 from by decide) hf
  have f18 : (-1) * w_fi w1 (n_v vs 0) 159 + 0 ≤ ((-k)) := f18
  obtain ⟨ta2, w2, le2, ⟨_, s2⟩, hf⟩ := fc_us (show ¬ (102 : Nat) < 100 from by decide) hf
  obtain ⟨f20, hf⟩ := fc_un (show (23 : Nat) < 100 from by decide) hf
  have f20 : 1 * v_iv (n_v vs 1) + ((-1) * v_iv (n_v vs 7) + 0) ≤ 0 := f20
  have ar_0_160_1 : w_ar w1 (n_v vs 0) 160 = w_ar ws (n_v vs 0) 160 := by show v_ad (w_fd w1 _ _) = v_ad (w_fd ws _ _); rw [s1.2, if_neg (fun e => absurd e.2 (by decide))]
  have cr_0_160 : ta (w_ar ws (n_v vs 0) 160) = some 259 := tv_rg (th_fd hD hth r0 (g := GG_150) rfl (k := 160) (t := (2, 0, 0, [259])) rfl rfl)
  have g7 : v_iv (n_v vs 15) = w_fi w1 (n_v vs 0) 158 := congrArg v_iv f7
  rw [ar_0_160_1] at f9
  rw [ar_0_160_1] at f11
  rw [ar_0_160_1] at f15
  have fe_0_157_1 : w_fi ws (n_v vs 0) 157 = w_fi w1 (n_v vs 0) 157 := by show v_iv (w_fd _ _ _) = v_iv (w_fd _ _ _); rw [s1.2, if_neg (fun e => absurd e.2 (by decide))]
  have fe_0_158_1 : w_fi ws (n_v vs 0) 158 = v_iv (n_v vs 17) := by show v_iv (w_fd _ _ _) = _; rw [s1.2, if_pos ⟨rfl, rfl⟩]
  have fe_0_159_1 : w_fi ws (n_v vs 0) 159 = w_fi w1 (n_v vs 0) 159 := by show v_iv (w_fd _ _ _) = v_iv (w_fd _ _ _); rw [s1.2, if_neg (fun e => absurd e.2 (by decide))]
  have fe_0_164_1 : w_fi ws (n_v vs 0) 164 = w_fi w1 (n_v vs 0) 164 := by show v_iv (w_fd _ _ _) = v_iv (w_fd _ _ _); rw [s1.2, if_neg (fun e => absurd e.2 (by decide))]
  have fe_0_165_1 : w_fi ws (n_v vs 0) 165 = w_fi w1 (n_v vs 0) 165 := by show v_iv (w_fd _ _ _) = v_iv (w_fd _ _ _); rw [s1.2, if_neg (fun e => absurd e.2 (by decide))]
  have hE_0_160_1 : ∀ j : Int, w_ei ws (w_ar ws (n_v vs 0) 160) j = w_ei w1 (w_ar ws (n_v vs 0) 160) j := fun j => s1.1 _ _
  have hK_0_160 : ∀ j : Int, 0 ≤ j → j < 2010 → 0 ≤ w_ei ws (w_ar ws (n_v vs 0) 160) j ∧ w_ei ws (w_ar ws (n_v vs 0) 160) j ≤ 4 := fun j h0 h1 => th_el hD hth cr_0_160 (kd := 0) (n := 2010) (m := 2010) (lo := 0) (hi := 4) (rs := []) (L := []) rfl (by decide) (j := j.toNat) (by omega)
  have kz_0_157 : 0 ≤ w_fi ws (n_v vs 0) 157 ∧ w_fi ws (n_v vs 0) 157 ≤ 2010 := tv_rng (th_fd hD hth r0 (g := GG_150) rfl (k := 157) (t := (0, 0, 2010, [])) rfl rfl)
  have kz_0_158 : 0 ≤ w_fi ws (n_v vs 0) 158 ∧ w_fi ws (n_v vs 0) 158 ≤ 2009 := tv_rng (th_fd hD hth r0 (g := GG_150) rfl (k := 158) (t := (0, 0, 2009, [])) rfl rfl)
  have kz_0_159 : 0 ≤ w_fi ws (n_v vs 0) 159 ∧ w_fi ws (n_v vs 0) 159 ≤ 13 := tv_rng (th_fd hD hth r0 (g := GG_150) rfl (k := 159) (t := (0, 0, 13, [])) rfl rfl)
  have kz_0_164 : 0 ≤ w_fi ws (n_v vs 0) 164 ∧ w_fi ws (n_v vs 0) 164 ≤ 1 := tv_rng (th_fd hD hth r0 (g := GG_150) rfl (k := 164) (t := (0, 0, 1, [])) rfl rfl)
  have kz_0_165 : (-1) ≤ w_fi ws (n_v vs 0) 165 ∧ w_fi ws (n_v vs 0) 165 ≤ 47 := tv_rng (th_fd hD hth r0 (g := GG_150) rfl (k := 165) (t := (0, -1, 47, [])) rfl rfl)
  have kv0 : 0 ≤ w_fi ws (n_v vs 0) 158 ∧ w_fi ws (n_v vs 0) 158 ≤ 2009 := tv_rng (th_fd hD hth r0 (g := GG_150) rfl (k := 158) (t := (0, 0, 2009, [])) rfl rfl)
  obtain ⟨x, ex, hx⟩ := iv_ex (ta := ta) (lo := 0) (hi := 2009) (z := w_fi ws (n_v vs 0) 158) (by omega) (by omega) (by omega) (by omega)
  have ex2 : v_iv (Value.int x) = w_fi ws (n_v vs 0) 158 := ex
  have ex3 : 0 ≤ v_iv (Value.int x) ∧ v_iv (Value.int x) ≤ 2009 := tv_rng hx
  have e_0 : n_v (vs ++ [Value.int x]) 0 = n_v vs 0 := n_v_old (by rw [hl]; decide)
  have e_1 : n_v (vs ++ [Value.int x]) 1 = n_v vs 1 := n_v_old (by rw [hl]; decide)
  have e_18 : n_v (vs ++ [Value.int x]) 18 = Value.int x := n_v_new hl
  have nf0 : fc_1 (20, [0], [50, 2, 1, 158, 157, 160, 2, 12, 0, 7, 4, 3, 2, 0, 158, 0, 1, 2, 0, 157, 2, 7, 0, 3, 2, 0, 157, 0, 2010, 3, 14, 1, 10, 3, 0, 160, 5, 3, 2, 0, 157, 0, 1, 0, 0, 1, 10, 3, 0, 160, 5, 3, 2, 0, 157, 0, 1, 0, 4]) ws (vs ++ [Value.int x]) := by
    refine ⟨fun n hn => ?_, ?_⟩
    · have hn : n ∈ [0] := hn
      rw [List.length_append, hl]
      simp only [List.mem_cons, List.not_mem_nil, or_false] at hn
      show n < 18 + 1; omega
    · show ((w_fi ws (n_v (vs ++ [Value.int x]) 0) 158 + 1) ≤ w_fi ws (n_v (vs ++ [Value.int x]) 0) 157) ∧ ((w_fi ws (n_v (vs ++ [Value.int x]) 0) 157 ≤ 2010) ∧ ((w_ei ws (w_ar ws (n_v (vs ++ [Value.int x]) 0) 160) ((w_fi ws (n_v (vs ++ [Value.int x]) 0) 157 - 1)) = 0) ∨ (w_ei ws (w_ar ws (n_v (vs ++ [Value.int x]) 0) 160) ((w_fi ws (n_v (vs ++ [Value.int x]) 0) 157 - 1)) = 4)))
      rw [e_0]
      first | omega | grind
  have nf1 : fc_1 (20, [0, 18], [30, 0, 1, 1, 158, -1, 0, 0]) ws (vs ++ [Value.int x]) := by
    refine ⟨fun n hn => ?_, ?_⟩
    · have hn : n ∈ [0, 18] := hn
      rw [List.length_append, hl]
      simp only [List.mem_cons, List.not_mem_nil, or_false] at hn
      show n < 18 + 1; omega
    · show 1 * w_fi ws (n_v (vs ++ [Value.int x]) 0) 158 + ((-1) * v_iv (n_v (vs ++ [Value.int x]) 18) + 0) ≤ 0
      rw [e_0]
      rw [e_18]
      omega
  have nf2 : fc_1 (20, [0, 18], [30, 0, -1, 1, 158, 1, 0, 0]) ws (vs ++ [Value.int x]) := by
    refine ⟨fun n hn => ?_, ?_⟩
    · have hn : n ∈ [0, 18] := hn
      rw [List.length_append, hl]
      simp only [List.mem_cons, List.not_mem_nil, or_false] at hn
      show n < 18 + 1; omega
    · show (-1) * w_fi ws (n_v (vs ++ [Value.int x]) 0) 158 + (1 * v_iv (n_v (vs ++ [Value.int x]) 18) + 0) ≤ 0
      rw [e_0]
      rw [e_18]
      omega
  have nf3 : fc_1 (20, [0], [50, 2, 0, 164, 165, 4, 7, 1, 3, 2, 0, 164, 0, 0, 0, 3, 2, 0, 165, 0, 23]) ws (vs ++ [Value.int x]) := by
    refine ⟨fun n hn => ?_, ?_⟩
    · have hn : n ∈ [0] := hn
      rw [List.length_append, hl]
      simp only [List.mem_cons, List.not_mem_nil, or_false] at hn
      show n < 18 + 1; omega
    · show (w_fi ws (n_v (vs ++ [Value.int x]) 0) 164 = 0) → (w_fi ws (n_v (vs ++ [Value.int x]) 0) 165 ≤ 23)
      rw [e_0]
      first | omega | grind
  have nf4 : fc_1 (20, [0], [30, k, 1, 1, 159]) ws (vs ++ [Value.int x]) := by
    refine ⟨fun n hn => ?_, ?_⟩
    · have hn : n ∈ [0] := hn
      rw [List.length_append, hl]
      simp only [List.mem_cons, List.not_mem_nil, or_false] at hn
      show n < 18 + 1; omega
    · show 1 * w_fi ws (n_v (vs ++ [Value.int x]) 0) 159 + 0 ≤ k
      rw [e_0]
      omega
  have nf5 : fc_1 (20, [0], [30, (-k), -1, 1, 159]) ws (vs ++ [Value.int x]) := by
    refine ⟨fun n hn => ?_, ?_⟩
    · have hn : n ∈ [0] := hn
      rw [List.length_append, hl]
      simp only [List.mem_cons, List.not_mem_nil, or_false] at hn
      show n < 18 + 1; omega
    · show (-1) * w_fi ws (n_v (vs ++ [Value.int x]) 0) 159 + 0 ≤ ((-k))
      rw [e_0]
      omega
  have nf6 : fc_1 (23, [1, 18], [0, 1, -1]) ws (vs ++ [Value.int x]) := by
    refine ⟨fun n hn => ?_, ?_⟩
    · have hn : n ∈ [1, 18] := hn
      rw [List.length_append, hl]
      simp only [List.mem_cons, List.not_mem_nil, or_false] at hn
      show n < 18 + 1; omega
    · show 1 * v_iv (n_v (vs ++ [Value.int x]) 1) + ((-1) * v_iv (n_v (vs ++ [Value.int x]) 18) + 0) ≤ 0
      rw [e_1]
      rw [e_18]
      omega
  exact ⟨(fun _ h => (by cases h)), [Value.int x], ag_one hx, List.forall_mem_cons.mpr ⟨⟨show (20 : Nat) < 100 from by decide, nf0⟩, List.forall_mem_cons.mpr ⟨⟨show (20 : Nat) < 100 from by decide, nf1⟩, List.forall_mem_cons.mpr ⟨⟨show (20 : Nat) < 100 from by decide, nf2⟩, List.forall_mem_cons.mpr ⟨⟨show (20 : Nat) < 100 from by decide, nf3⟩, List.forall_mem_cons.mpr ⟨⟨show (20 : Nat) < 100 from by decide, nf4⟩, List.forall_mem_cons.mpr ⟨⟨show (20 : Nat) < 100 from by decide, nf5⟩, List.forall_mem_cons.mpr ⟨⟨show (23 : Nat) < 100 from by decide, nf6⟩, (fun _ h => (by cases h))⟩⟩⟩⟩⟩⟩⟩, (fun _ h => (by cases h))⟩
def o_Mo_oneTest_f_11 (k : Int) : or_T := (230, 23, [(0, (2, 0, 0, [150])), (1, (0, 0, 2009, [])), (7, (0, 0, 2009, [])), (15, (0, 0, 2009, [])), (16, (0, 1, 1, [])), (17, (0, 1, 2009, [])), (18, (0, 0, 2009, []))], [(20, [0], [50, 2, 0, 164, 165, 4, 7, 1, 3, 2, 0, 164, 0, 0, 0, 3, 2, 0, 165, 0, 23]), (23, [1, 18], [0, 1, -1]), (20, [0], [50, 2, 0, 164, 165, 4, 7, 1, 3, 2, 0, 164, 0, 0, 0, 3, 2, 0, 165, 0, 23]), (23, [1, 7], [0, 1, -1]), (20, [0], [50, 2, 0, 164, 165, 4, 7, 1, 3, 2, 0, 164, 0, 0, 0, 3, 2, 0, 165, 0, 23]), (20, [0], [50, 2, 1, 158, 157, 160, 2, 12, 0, 7, 4, 3, 2, 0, 158, 0, 1, 2, 0, 157, 2, 7, 0, 3, 2, 0, 157, 0, 2010, 3, 14, 1, 10, 3, 0, 160, 5, 3, 2, 0, 157, 0, 1, 0, 0, 1, 10, 3, 0, 160, 5, 3, 2, 0, 157, 0, 1, 0, 4]), (20, [18, 0], [30, 0, 1, 0, 0, -1, 1, 158]), (20, [0], [30, k, 1, 1, 159]), (20, [0], [30, (-k), -1, 1, 159]), (102, [18], [0, 13008, 13009, 13158, 13159]), (23, [1, 18], [0, 1, -1]), (23, [1, 7], [0, 1, -1]), (101, [0, 17], [158]), (1, [17, 15, 16], []), (23, [1, 7], [0, 1, -1]), (102, [7], [0, 13008, 13009, 13158, 13159]), (23, [1, 7], [0, 1, -1])], [], [], [(20, [1, 0], [30, 0, 1, 0, 0, -1, 1, 158])], [], [(17, 15, 1, 1)])
theorem oo_Mo_oneTest_f_11 {kA : Nat → ClassId} (k : Int) (hk0 : 0 ≤ k) (hk1 : k ≤ 12) : or_ok kA GG (o_Mo_oneTest_f_11 k) := by
  intro A ta ws vs hD hth hl hk hds hf
  have hl : vs.length = 23 := hl
  have hk : ∀ q ∈ ([(0, (2, 0, 0, [150])), (1, (0, 0, 2009, [])), (7, (0, 0, 2009, [])), (15, (0, 0, 2009, [])), (16, (0, 1, 1, [])), (17, (0, 1, 2009, [])), (18, (0, 0, 2009, []))] : List (Nat × tv_T)), tv_ok ta q.2 (n_v vs q.1) := hk
  obtain ⟨t0, hk⟩ := List.forall_mem_cons.mp hk
  have t0 : tv_ok ta (2, 0, 0, [150]) (n_v vs 0) := t0
  have r0 : ta (v_ad (n_v vs 0)) = some 150 := tv_rg t0
  obtain ⟨t1, hk⟩ := List.forall_mem_cons.mp hk
  have t1 : tv_ok ta (0, 0, 2009, []) (n_v vs 1) := t1
  have k1 : 0 ≤ v_iv (n_v vs 1) ∧ v_iv (n_v vs 1) ≤ 2009 := tv_rng t1
  obtain ⟨t7, hk⟩ := List.forall_mem_cons.mp hk
  have t7 : tv_ok ta (0, 0, 2009, []) (n_v vs 7) := t7
  have k7 : 0 ≤ v_iv (n_v vs 7) ∧ v_iv (n_v vs 7) ≤ 2009 := tv_rng t7
  obtain ⟨t15, hk⟩ := List.forall_mem_cons.mp hk
  have t15 : tv_ok ta (0, 0, 2009, []) (n_v vs 15) := t15
  have k15 : 0 ≤ v_iv (n_v vs 15) ∧ v_iv (n_v vs 15) ≤ 2009 := tv_rng t15
  obtain ⟨t16, hk⟩ := List.forall_mem_cons.mp hk
  have t16 : tv_ok ta (0, 1, 1, []) (n_v vs 16) := t16
  have k16 : 1 ≤ v_iv (n_v vs 16) ∧ v_iv (n_v vs 16) ≤ 1 := tv_rng t16
  obtain ⟨t17, hk⟩ := List.forall_mem_cons.mp hk
  have t17 : tv_ok ta (0, 1, 2009, []) (n_v vs 17) := t17
  have k17 : 1 ≤ v_iv (n_v vs 17) ∧ v_iv (n_v vs 17) ≤ 2009 := tv_rng t17
  obtain ⟨t18, hk⟩ := List.forall_mem_cons.mp hk
  have t18 : tv_ok ta (0, 0, 2009, []) (n_v vs 18) := t18
  have k18 : 0 ≤ v_iv (n_v vs 18) ∧ v_iv (n_v vs 18) ≤ 2009 := tv_rng t18
  have hds : ∀ q ∈ ([(17, 15, 1, 1)] : List of_T), n_iv vs q.2.1 + q.2.2.1 ≤ n_iv vs q.1 ∧ n_iv vs q.1 ≤ n_iv vs q.2.1 + q.2.2.2 := hds
  obtain ⟨d0, hds⟩ := List.forall_mem_cons.mp hds
  have d0 : v_iv (n_v vs 15) + 1 ≤ v_iv (n_v vs 17) ∧ v_iv (n_v vs 17) ≤ v_iv (n_v vs 15) + 1 := d0
  have hf : fc_ok [(20, [0], [50, 2, 0, 164, 165, 4, 7, 1, 3, 2, 0, 164, 0, 0, 0, 3, 2, 0, 165, 0, 23]), (23, [1, 18], [0, 1, -1]), (20, [0], [50, 2, 0, 164, 165, 4, 7, 1, 3, 2, 0, 164, 0, 0, 0, 3, 2, 0, 165, 0, 23]), (23, [1, 7], [0, 1, -1]), (20, [0], [50, 2, 0, 164, 165, 4, 7, 1, 3, 2, 0, 164, 0, 0, 0, 3, 2, 0, 165, 0, 23]), (20, [0], [50, 2, 1, 158, 157, 160, 2, 12, 0, 7, 4, 3, 2, 0, 158, 0, 1, 2, 0, 157, 2, 7, 0, 3, 2, 0, 157, 0, 2010, 3, 14, 1, 10, 3, 0, 160, 5, 3, 2, 0, 157, 0, 1, 0, 0, 1, 10, 3, 0, 160, 5, 3, 2, 0, 157, 0, 1, 0, 4]), (20, [18, 0], [30, 0, 1, 0, 0, -1, 1, 158]), (20, [0], [30, k, 1, 1, 159]), (20, [0], [30, (-k), -1, 1, 159]), (102, [18], [0, 13008, 13009, 13158, 13159]), (23, [1, 18], [0, 1, -1]), (23, [1, 7], [0, 1, -1]), (101, [0, 17], [158]), (1, [17, 15, 16], []), (23, [1, 7], [0, 1, -1]), (102, [7], [0, 13008, 13009, 13158, 13159]), (23, [1, 7], [0, 1, -1])] ta ws vs := hf
  obtain ⟨f0, hf⟩ := fc_un (show (20 : Nat) < 100 from by decide) hf
  have f0 : (w_fi ws (n_v vs 0) 164 = 0) → (w_fi ws (n_v vs 0) 165 ≤ 23) := f0
  obtain ⟨f1, hf⟩ := fc_un (show (23 : Nat) < 100 from by decide) hf
  have f1 : 1 * v_iv (n_v vs 1) + ((-1) * v_iv (n_v vs 18) + 0) ≤ 0 := f1
  obtain ⟨f2, hf⟩ := fc_un (show (20 : Nat) < 100 from by decide) hf
  have f2 : (w_fi ws (n_v vs 0) 164 = 0) → (w_fi ws (n_v vs 0) 165 ≤ 23) := f2
  obtain ⟨f3, hf⟩ := fc_un (show (23 : Nat) < 100 from by decide) hf
  have f3 : 1 * v_iv (n_v vs 1) + ((-1) * v_iv (n_v vs 7) + 0) ≤ 0 := f3
  obtain ⟨f4, hf⟩ := fc_un (show (20 : Nat) < 100 from by decide) hf
  have f4 : (w_fi ws (n_v vs 0) 164 = 0) → (w_fi ws (n_v vs 0) 165 ≤ 23) := f4
  obtain ⟨f5, hf⟩ := fc_un (show (20 : Nat) < 100 from by decide) hf
  have f5 : ((w_fi ws (n_v vs 0) 158 + 1) ≤ w_fi ws (n_v vs 0) 157) ∧ ((w_fi ws (n_v vs 0) 157 ≤ 2010) ∧ ((w_ei ws (w_ar ws (n_v vs 0) 160) ((w_fi ws (n_v vs 0) 157 - 1)) = 0) ∨ (w_ei ws (w_ar ws (n_v vs 0) 160) ((w_fi ws (n_v vs 0) 157 - 1)) = 4))) := f5
  obtain ⟨f6, hf⟩ := fc_un (show (20 : Nat) < 100 from by decide) hf
  have f6 : 1 * v_iv (n_v vs 18) + ((-1) * w_fi ws (n_v vs 0) 158 + 0) ≤ 0 := f6
  obtain ⟨f7, hf⟩ := fc_un (show (20 : Nat) < 100 from by decide) hf
  have f7 : 1 * w_fi ws (n_v vs 0) 159 + 0 ≤ k := f7
  obtain ⟨f8, hf⟩ := fc_un (show (20 : Nat) < 100 from by decide) hf
  have f8 : (-1) * w_fi ws (n_v vs 0) 159 + 0 ≤ ((-k)) := f8
  obtain ⟨ta1, w1, le1, ⟨_, s1⟩, hf⟩ := fc_us (show ¬ (102 : Nat) < 100 from by decide) hf
  obtain ⟨f10, hf⟩ := fc_un (show (23 : Nat) < 100 from by decide) hf
  have f10 : 1 * v_iv (n_v vs 1) + ((-1) * v_iv (n_v vs 18) + 0) ≤ 0 := f10
  obtain ⟨f11, hf⟩ := fc_un (show (23 : Nat) < 100 from by decide) hf
  have f11 : 1 * v_iv (n_v vs 1) + ((-1) * v_iv (n_v vs 7) + 0) ≤ 0 := f11
  obtain ⟨ta2, w2, le2, ⟨_, s2⟩, hf⟩ := fc_us (show ¬ (101 : Nat) < 100 from by decide) hf
  have s2 : (∀ b j, w_el w1 b j = w_el w2 b j) ∧ ∀ b j, w_fd w1 b j = if b = v_ad (n_v vs 0) ∧ j = 158 then n_v vs 17 else w_fd w2 b j := s2
  obtain ⟨f13, hf⟩ := fc_un (show (1 : Nat) < 100 from by decide) hf
  have f13 : v_iv (n_v vs 17) = v_iv (n_v vs 15) + v_iv (n_v vs 16) := f13
  obtain ⟨f14, hf⟩ := fc_un (show (23 : Nat) < 100 from by decide) hf
  have f14 : 1 * v_iv (n_v vs 1) + ((-1) * v_iv (n_v vs 7) + 0) ≤ 0 := f14
  obtain ⟨ta3, w3, le3, ⟨_, s3⟩, hf⟩ := fc_us (show ¬ (102 : Nat) < 100 from by decide) hf
  obtain ⟨f16, hf⟩ := fc_un (show (23 : Nat) < 100 from by decide) hf
  have f16 : 1 * v_iv (n_v vs 1) + ((-1) * v_iv (n_v vs 7) + 0) ≤ 0 := f16
  have cr_0_160 : ta (w_ar ws (n_v vs 0) 160) = some 259 := tv_rg (th_fd hD hth r0 (g := GG_150) rfl (k := 160) (t := (2, 0, 0, [259])) rfl rfl)
  have hK_0_160 : ∀ j : Int, 0 ≤ j → j < 2010 → 0 ≤ w_ei ws (w_ar ws (n_v vs 0) 160) j ∧ w_ei ws (w_ar ws (n_v vs 0) 160) j ≤ 4 := fun j h0 h1 => th_el hD hth cr_0_160 (kd := 0) (n := 2010) (m := 2010) (lo := 0) (hi := 4) (rs := []) (L := []) rfl (by decide) (j := j.toNat) (by omega)
  have kz_0_157 : 0 ≤ w_fi ws (n_v vs 0) 157 ∧ w_fi ws (n_v vs 0) 157 ≤ 2010 := tv_rng (th_fd hD hth r0 (g := GG_150) rfl (k := 157) (t := (0, 0, 2010, [])) rfl rfl)
  have kz_0_158 : 0 ≤ w_fi ws (n_v vs 0) 158 ∧ w_fi ws (n_v vs 0) 158 ≤ 2009 := tv_rng (th_fd hD hth r0 (g := GG_150) rfl (k := 158) (t := (0, 0, 2009, [])) rfl rfl)
  have kz_0_159 : 0 ≤ w_fi ws (n_v vs 0) 159 ∧ w_fi ws (n_v vs 0) 159 ≤ 13 := tv_rng (th_fd hD hth r0 (g := GG_150) rfl (k := 159) (t := (0, 0, 13, [])) rfl rfl)
  have kz_0_164 : 0 ≤ w_fi ws (n_v vs 0) 164 ∧ w_fi ws (n_v vs 0) 164 ≤ 1 := tv_rng (th_fd hD hth r0 (g := GG_150) rfl (k := 164) (t := (0, 0, 1, [])) rfl rfl)
  have kz_0_165 : (-1) ≤ w_fi ws (n_v vs 0) 165 ∧ w_fi ws (n_v vs 0) 165 ≤ 47 := tv_rng (th_fd hD hth r0 (g := GG_150) rfl (k := 165) (t := (0, -1, 47, [])) rfl rfl)
  have nf0 : fc_1 (20, [1, 0], [30, 0, 1, 0, 0, -1, 1, 158]) ws (vs) := by
    refine ⟨fun n hn => ?_, ?_⟩
    · have hn : n ∈ [1, 0] := hn
      rw [hl]
      simp only [List.mem_cons, List.not_mem_nil, or_false] at hn
      show n < 23; omega
    · show 1 * v_iv (n_v vs 1) + ((-1) * w_fi ws (n_v vs 0) 158 + 0) ≤ 0
      omega
  refine ⟨(fun _ h => (by cases h)), [], trivial, ?_, (fun _ h => (by cases h))⟩
  rw [List.append_nil]
  exact List.forall_mem_cons.mpr ⟨⟨show (20 : Nat) < 100 from by decide, nf0⟩, (fun _ h => (by cases h))⟩
def o_Mo_oneTest_f_12 (k : Int) : or_T := (159, 16, [(0, (2, 0, 0, [150])), (1, (0, 0, 2009, [])), (7, (0, 0, 2009, [])), (10, (0, 0, 0, [])), (12, (0, 1, 1, []))], [(8, [12], [1]), (20, [12, 0], [50, 1, 1, 1158, 1160, 4, 6, 1, 2, 1, 0, 0, 1, 1, 6, 3, 1, 160, 2, 1, 158, 0, 3]), (8, [10], [0]), (20, [10, 0], [50, 1, 1, 1158, 1160, 4, 6, 1, 2, 1, 0, 0, 1, 1, 6, 3, 1, 160, 2, 1, 158, 0, 3]), (20, [0], [50, 2, 0, 164, 165, 4, 7, 1, 3, 2, 0, 164, 0, 0, 0, 3, 2, 0, 165, 0, 23]), (23, [1, 7], [0, 1, -1]), (20, [0], [50, 2, 0, 164, 165, 4, 7, 1, 3, 2, 0, 164, 0, 0, 0, 3, 2, 0, 165, 0, 23]), (20, [0], [50, 2, 1, 158, 157, 160, 2, 12, 0, 7, 4, 3, 2, 0, 158, 0, 1, 2, 0, 157, 2, 7, 0, 3, 2, 0, 157, 0, 2010, 3, 14, 1, 10, 3, 0, 160, 5, 3, 2, 0, 157, 0, 1, 0, 0, 1, 10, 3, 0, 160, 5, 3, 2, 0, 157, 0, 1, 0, 4]), (20, [7, 0], [30, 0, 1, 0, 0, -1, 1, 158]), (20, [0], [30, k, 1, 1, 159]), (20, [0], [30, (-k), -1, 1, 159]), (102, [7], [0, 13008, 13009, 13158, 13159]), (23, [1, 7], [0, 1, -1])], [], [], [(20, [1, 0], [30, 0, 1, 0, 0, -1, 1, 158])], [], [])
theorem oo_Mo_oneTest_f_12 {kA : Nat → ClassId} (k : Int) (hk0 : 0 ≤ k) (hk1 : k ≤ 12) : or_ok kA GG (o_Mo_oneTest_f_12 k) := by
  intro A ta ws vs hD hth hl hk hds hf
  have hl : vs.length = 16 := hl
  have hk : ∀ q ∈ ([(0, (2, 0, 0, [150])), (1, (0, 0, 2009, [])), (7, (0, 0, 2009, [])), (10, (0, 0, 0, [])), (12, (0, 1, 1, []))] : List (Nat × tv_T)), tv_ok ta q.2 (n_v vs q.1) := hk
  obtain ⟨t0, hk⟩ := List.forall_mem_cons.mp hk
  have t0 : tv_ok ta (2, 0, 0, [150]) (n_v vs 0) := t0
  have r0 : ta (v_ad (n_v vs 0)) = some 150 := tv_rg t0
  obtain ⟨t1, hk⟩ := List.forall_mem_cons.mp hk
  have t1 : tv_ok ta (0, 0, 2009, []) (n_v vs 1) := t1
  have k1 : 0 ≤ v_iv (n_v vs 1) ∧ v_iv (n_v vs 1) ≤ 2009 := tv_rng t1
  obtain ⟨t7, hk⟩ := List.forall_mem_cons.mp hk
  have t7 : tv_ok ta (0, 0, 2009, []) (n_v vs 7) := t7
  have k7 : 0 ≤ v_iv (n_v vs 7) ∧ v_iv (n_v vs 7) ≤ 2009 := tv_rng t7
  obtain ⟨t10, hk⟩ := List.forall_mem_cons.mp hk
  have t10 : tv_ok ta (0, 0, 0, []) (n_v vs 10) := t10
  have k10 : 0 ≤ v_iv (n_v vs 10) ∧ v_iv (n_v vs 10) ≤ 0 := tv_rng t10
  obtain ⟨t12, hk⟩ := List.forall_mem_cons.mp hk
  have t12 : tv_ok ta (0, 1, 1, []) (n_v vs 12) := t12
  have k12 : 1 ≤ v_iv (n_v vs 12) ∧ v_iv (n_v vs 12) ≤ 1 := tv_rng t12
  have hf : fc_ok [(8, [12], [1]), (20, [12, 0], [50, 1, 1, 1158, 1160, 4, 6, 1, 2, 1, 0, 0, 1, 1, 6, 3, 1, 160, 2, 1, 158, 0, 3]), (8, [10], [0]), (20, [10, 0], [50, 1, 1, 1158, 1160, 4, 6, 1, 2, 1, 0, 0, 1, 1, 6, 3, 1, 160, 2, 1, 158, 0, 3]), (20, [0], [50, 2, 0, 164, 165, 4, 7, 1, 3, 2, 0, 164, 0, 0, 0, 3, 2, 0, 165, 0, 23]), (23, [1, 7], [0, 1, -1]), (20, [0], [50, 2, 0, 164, 165, 4, 7, 1, 3, 2, 0, 164, 0, 0, 0, 3, 2, 0, 165, 0, 23]), (20, [0], [50, 2, 1, 158, 157, 160, 2, 12, 0, 7, 4, 3, 2, 0, 158, 0, 1, 2, 0, 157, 2, 7, 0, 3, 2, 0, 157, 0, 2010, 3, 14, 1, 10, 3, 0, 160, 5, 3, 2, 0, 157, 0, 1, 0, 0, 1, 10, 3, 0, 160, 5, 3, 2, 0, 157, 0, 1, 0, 4]), (20, [7, 0], [30, 0, 1, 0, 0, -1, 1, 158]), (20, [0], [30, k, 1, 1, 159]), (20, [0], [30, (-k), -1, 1, 159]), (102, [7], [0, 13008, 13009, 13158, 13159]), (23, [1, 7], [0, 1, -1])] ta ws vs := hf
  obtain ⟨f0, hf⟩ := fc_un (show (8 : Nat) < 100 from by decide) hf
  have f0 : v_iv (n_v vs 12) ≠ 0 := f0
  obtain ⟨f1, hf⟩ := fc_un (show (20 : Nat) < 100 from by decide) hf
  have f1 : (v_iv (n_v vs 12) = 1) → (w_ei ws (w_ar ws (n_v vs 0) 160) (w_fi ws (n_v vs 0) 158) = 3) := f1
  obtain ⟨f2, hf⟩ := fc_un (show (8 : Nat) < 100 from by decide) hf
  have f2 : v_iv (n_v vs 10) = 0 := f2
  obtain ⟨f3, hf⟩ := fc_un (show (20 : Nat) < 100 from by decide) hf
  have f3 : (v_iv (n_v vs 10) = 1) → (w_ei ws (w_ar ws (n_v vs 0) 160) (w_fi ws (n_v vs 0) 158) = 3) := f3
  obtain ⟨f4, hf⟩ := fc_un (show (20 : Nat) < 100 from by decide) hf
  have f4 : (w_fi ws (n_v vs 0) 164 = 0) → (w_fi ws (n_v vs 0) 165 ≤ 23) := f4
  obtain ⟨f5, hf⟩ := fc_un (show (23 : Nat) < 100 from by decide) hf
  have f5 : 1 * v_iv (n_v vs 1) + ((-1) * v_iv (n_v vs 7) + 0) ≤ 0 := f5
  obtain ⟨f6, hf⟩ := fc_un (show (20 : Nat) < 100 from by decide) hf
  have f6 : (w_fi ws (n_v vs 0) 164 = 0) → (w_fi ws (n_v vs 0) 165 ≤ 23) := f6
  obtain ⟨f7, hf⟩ := fc_un (show (20 : Nat) < 100 from by decide) hf
  have f7 : ((w_fi ws (n_v vs 0) 158 + 1) ≤ w_fi ws (n_v vs 0) 157) ∧ ((w_fi ws (n_v vs 0) 157 ≤ 2010) ∧ ((w_ei ws (w_ar ws (n_v vs 0) 160) ((w_fi ws (n_v vs 0) 157 - 1)) = 0) ∨ (w_ei ws (w_ar ws (n_v vs 0) 160) ((w_fi ws (n_v vs 0) 157 - 1)) = 4))) := f7
  obtain ⟨f8, hf⟩ := fc_un (show (20 : Nat) < 100 from by decide) hf
  have f8 : 1 * v_iv (n_v vs 7) + ((-1) * w_fi ws (n_v vs 0) 158 + 0) ≤ 0 := f8
  obtain ⟨f9, hf⟩ := fc_un (show (20 : Nat) < 100 from by decide) hf
  have f9 : 1 * w_fi ws (n_v vs 0) 159 + 0 ≤ k := f9
  obtain ⟨f10, hf⟩ := fc_un (show (20 : Nat) < 100 from by decide) hf
  have f10 : (-1) * w_fi ws (n_v vs 0) 159 + 0 ≤ ((-k)) := f10
  obtain ⟨ta1, w1, le1, ⟨_, s1⟩, hf⟩ := fc_us (show ¬ (102 : Nat) < 100 from by decide) hf
  obtain ⟨f12, hf⟩ := fc_un (show (23 : Nat) < 100 from by decide) hf
  have f12 : 1 * v_iv (n_v vs 1) + ((-1) * v_iv (n_v vs 7) + 0) ≤ 0 := f12
  have cr_0_160 : ta (w_ar ws (n_v vs 0) 160) = some 259 := tv_rg (th_fd hD hth r0 (g := GG_150) rfl (k := 160) (t := (2, 0, 0, [259])) rfl rfl)
  have hK_0_160 : ∀ j : Int, 0 ≤ j → j < 2010 → 0 ≤ w_ei ws (w_ar ws (n_v vs 0) 160) j ∧ w_ei ws (w_ar ws (n_v vs 0) 160) j ≤ 4 := fun j h0 h1 => th_el hD hth cr_0_160 (kd := 0) (n := 2010) (m := 2010) (lo := 0) (hi := 4) (rs := []) (L := []) rfl (by decide) (j := j.toNat) (by omega)
  have kz_0_157 : 0 ≤ w_fi ws (n_v vs 0) 157 ∧ w_fi ws (n_v vs 0) 157 ≤ 2010 := tv_rng (th_fd hD hth r0 (g := GG_150) rfl (k := 157) (t := (0, 0, 2010, [])) rfl rfl)
  have kz_0_158 : 0 ≤ w_fi ws (n_v vs 0) 158 ∧ w_fi ws (n_v vs 0) 158 ≤ 2009 := tv_rng (th_fd hD hth r0 (g := GG_150) rfl (k := 158) (t := (0, 0, 2009, [])) rfl rfl)
  have kz_0_159 : 0 ≤ w_fi ws (n_v vs 0) 159 ∧ w_fi ws (n_v vs 0) 159 ≤ 13 := tv_rng (th_fd hD hth r0 (g := GG_150) rfl (k := 159) (t := (0, 0, 13, [])) rfl rfl)
  have kz_0_164 : 0 ≤ w_fi ws (n_v vs 0) 164 ∧ w_fi ws (n_v vs 0) 164 ≤ 1 := tv_rng (th_fd hD hth r0 (g := GG_150) rfl (k := 164) (t := (0, 0, 1, [])) rfl rfl)
  have kz_0_165 : (-1) ≤ w_fi ws (n_v vs 0) 165 ∧ w_fi ws (n_v vs 0) 165 ≤ 47 := tv_rng (th_fd hD hth r0 (g := GG_150) rfl (k := 165) (t := (0, -1, 47, [])) rfl rfl)
  have nf0 : fc_1 (20, [1, 0], [30, 0, 1, 0, 0, -1, 1, 158]) ws (vs) := by
    refine ⟨fun n hn => ?_, ?_⟩
    · have hn : n ∈ [1, 0] := hn
      rw [hl]
      simp only [List.mem_cons, List.not_mem_nil, or_false] at hn
      show n < 16; omega
    · show 1 * v_iv (n_v vs 1) + ((-1) * w_fi ws (n_v vs 0) 158 + 0) ≤ 0
      omega
  refine ⟨(fun _ h => (by cases h)), [], trivial, ?_, (fun _ h => (by cases h))⟩
  rw [List.append_nil]
  exact List.forall_mem_cons.mpr ⟨⟨show (20 : Nat) < 100 from by decide, nf0⟩, (fun _ h => (by cases h))⟩
def o_Mo_oneTest_f_13 (k : Int) : or_T := (167, 16, [(0, (2, 0, 0, [150])), (1, (0, 0, 2009, [])), (7, (0, 0, 2009, [])), (10, (0, 1, 1, [])), (13, (0, 0, 2009, [])), (14, (0, 1, 1, [])), (15, (0, 1, 2010, []))], [(1, [15, 13, 14], []), (9, [13, 0], [158]), (8, [10], [1]), (20, [10, 0], [50, 1, 1, 1158, 1160, 4, 6, 1, 2, 1, 0, 0, 1, 1, 6, 3, 1, 160, 2, 1, 158, 0, 3]), (20, [0], [50, 2, 0, 164, 165, 4, 7, 1, 3, 2, 0, 164, 0, 0, 0, 3, 2, 0, 165, 0, 23]), (23, [1, 7], [0, 1, -1]), (20, [0], [50, 2, 0, 164, 165, 4, 7, 1, 3, 2, 0, 164, 0, 0, 0, 3, 2, 0, 165, 0, 23]), (20, [0], [50, 2, 1, 158, 157, 160, 2, 12, 0, 7, 4, 3, 2, 0, 158, 0, 1, 2, 0, 157, 2, 7, 0, 3, 2, 0, 157, 0, 2010, 3, 14, 1, 10, 3, 0, 160, 5, 3, 2, 0, 157, 0, 1, 0, 0, 1, 10, 3, 0, 160, 5, 3, 2, 0, 157, 0, 1, 0, 4]), (20, [7, 0], [30, 0, 1, 0, 0, -1, 1, 158]), (20, [0], [30, k, 1, 1, 159]), (20, [0], [30, (-k), -1, 1, 159]), (102, [7], [0, 13008, 13009, 13158, 13159]), (23, [1, 7], [0, 1, -1])], [(15, (0, 1, 2009, []))], [], [], [], [(15, 13, 1, 1)])
theorem oo_Mo_oneTest_f_13 {kA : Nat → ClassId} (k : Int) (hk0 : 0 ≤ k) (hk1 : k ≤ 12) : or_ok kA GG (o_Mo_oneTest_f_13 k) := by
  intro A ta ws vs hD hth hl hk hds hf
  have hl : vs.length = 16 := hl
  have hk : ∀ q ∈ ([(0, (2, 0, 0, [150])), (1, (0, 0, 2009, [])), (7, (0, 0, 2009, [])), (10, (0, 1, 1, [])), (13, (0, 0, 2009, [])), (14, (0, 1, 1, [])), (15, (0, 1, 2010, []))] : List (Nat × tv_T)), tv_ok ta q.2 (n_v vs q.1) := hk
  obtain ⟨t0, hk⟩ := List.forall_mem_cons.mp hk
  have t0 : tv_ok ta (2, 0, 0, [150]) (n_v vs 0) := t0
  have r0 : ta (v_ad (n_v vs 0)) = some 150 := tv_rg t0
  obtain ⟨t1, hk⟩ := List.forall_mem_cons.mp hk
  have t1 : tv_ok ta (0, 0, 2009, []) (n_v vs 1) := t1
  have k1 : 0 ≤ v_iv (n_v vs 1) ∧ v_iv (n_v vs 1) ≤ 2009 := tv_rng t1
  obtain ⟨t7, hk⟩ := List.forall_mem_cons.mp hk
  have t7 : tv_ok ta (0, 0, 2009, []) (n_v vs 7) := t7
  have k7 : 0 ≤ v_iv (n_v vs 7) ∧ v_iv (n_v vs 7) ≤ 2009 := tv_rng t7
  obtain ⟨t10, hk⟩ := List.forall_mem_cons.mp hk
  have t10 : tv_ok ta (0, 1, 1, []) (n_v vs 10) := t10
  have k10 : 1 ≤ v_iv (n_v vs 10) ∧ v_iv (n_v vs 10) ≤ 1 := tv_rng t10
  obtain ⟨t13, hk⟩ := List.forall_mem_cons.mp hk
  have t13 : tv_ok ta (0, 0, 2009, []) (n_v vs 13) := t13
  have k13 : 0 ≤ v_iv (n_v vs 13) ∧ v_iv (n_v vs 13) ≤ 2009 := tv_rng t13
  obtain ⟨t14, hk⟩ := List.forall_mem_cons.mp hk
  have t14 : tv_ok ta (0, 1, 1, []) (n_v vs 14) := t14
  have k14 : 1 ≤ v_iv (n_v vs 14) ∧ v_iv (n_v vs 14) ≤ 1 := tv_rng t14
  obtain ⟨t15, hk⟩ := List.forall_mem_cons.mp hk
  have t15 : tv_ok ta (0, 1, 2010, []) (n_v vs 15) := t15
  have k15 : 1 ≤ v_iv (n_v vs 15) ∧ v_iv (n_v vs 15) ≤ 2010 := tv_rng t15
  have hds : ∀ q ∈ ([(15, 13, 1, 1)] : List of_T), n_iv vs q.2.1 + q.2.2.1 ≤ n_iv vs q.1 ∧ n_iv vs q.1 ≤ n_iv vs q.2.1 + q.2.2.2 := hds
  obtain ⟨d0, hds⟩ := List.forall_mem_cons.mp hds
  have d0 : v_iv (n_v vs 13) + 1 ≤ v_iv (n_v vs 15) ∧ v_iv (n_v vs 15) ≤ v_iv (n_v vs 13) + 1 := d0
  have hf : fc_ok [(1, [15, 13, 14], []), (9, [13, 0], [158]), (8, [10], [1]), (20, [10, 0], [50, 1, 1, 1158, 1160, 4, 6, 1, 2, 1, 0, 0, 1, 1, 6, 3, 1, 160, 2, 1, 158, 0, 3]), (20, [0], [50, 2, 0, 164, 165, 4, 7, 1, 3, 2, 0, 164, 0, 0, 0, 3, 2, 0, 165, 0, 23]), (23, [1, 7], [0, 1, -1]), (20, [0], [50, 2, 0, 164, 165, 4, 7, 1, 3, 2, 0, 164, 0, 0, 0, 3, 2, 0, 165, 0, 23]), (20, [0], [50, 2, 1, 158, 157, 160, 2, 12, 0, 7, 4, 3, 2, 0, 158, 0, 1, 2, 0, 157, 2, 7, 0, 3, 2, 0, 157, 0, 2010, 3, 14, 1, 10, 3, 0, 160, 5, 3, 2, 0, 157, 0, 1, 0, 0, 1, 10, 3, 0, 160, 5, 3, 2, 0, 157, 0, 1, 0, 4]), (20, [7, 0], [30, 0, 1, 0, 0, -1, 1, 158]), (20, [0], [30, k, 1, 1, 159]), (20, [0], [30, (-k), -1, 1, 159]), (102, [7], [0, 13008, 13009, 13158, 13159]), (23, [1, 7], [0, 1, -1])] ta ws vs := hf
  obtain ⟨f0, hf⟩ := fc_un (show (1 : Nat) < 100 from by decide) hf
  have f0 : v_iv (n_v vs 15) = v_iv (n_v vs 13) + v_iv (n_v vs 14) := f0
  obtain ⟨f1, hf⟩ := fc_un (show (9 : Nat) < 100 from by decide) hf
  have f1 : n_v vs 13 = w_fd ws (v_ad (n_v vs 0)) 158 := f1
  obtain ⟨f2, hf⟩ := fc_un (show (8 : Nat) < 100 from by decide) hf
  have f2 : v_iv (n_v vs 10) ≠ 0 := f2
  obtain ⟨f3, hf⟩ := fc_un (show (20 : Nat) < 100 from by decide) hf
  have f3 : (v_iv (n_v vs 10) = 1) → (w_ei ws (w_ar ws (n_v vs 0) 160) (w_fi ws (n_v vs 0) 158) = 3) := f3
  obtain ⟨f4, hf⟩ := fc_un (show (20 : Nat) < 100 from by decide) hf
  have f4 : (w_fi ws (n_v vs 0) 164 = 0) → (w_fi ws (n_v vs 0) 165 ≤ 23) := f4
  obtain ⟨f5, hf⟩ := fc_un (show (23 : Nat) < 100 from by decide) hf
  have f5 : 1 * v_iv (n_v vs 1) + ((-1) * v_iv (n_v vs 7) + 0) ≤ 0 := f5
  obtain ⟨f6, hf⟩ := fc_un (show (20 : Nat) < 100 from by decide) hf
  have f6 : (w_fi ws (n_v vs 0) 164 = 0) → (w_fi ws (n_v vs 0) 165 ≤ 23) := f6
  obtain ⟨f7, hf⟩ := fc_un (show (20 : Nat) < 100 from by decide) hf
  have f7 : ((w_fi ws (n_v vs 0) 158 + 1) ≤ w_fi ws (n_v vs 0) 157) ∧ ((w_fi ws (n_v vs 0) 157 ≤ 2010) ∧ ((w_ei ws (w_ar ws (n_v vs 0) 160) ((w_fi ws (n_v vs 0) 157 - 1)) = 0) ∨ (w_ei ws (w_ar ws (n_v vs 0) 160) ((w_fi ws (n_v vs 0) 157 - 1)) = 4))) := f7
  obtain ⟨f8, hf⟩ := fc_un (show (20 : Nat) < 100 from by decide) hf
  have f8 : 1 * v_iv (n_v vs 7) + ((-1) * w_fi ws (n_v vs 0) 158 + 0) ≤ 0 := f8
  obtain ⟨f9, hf⟩ := fc_un (show (20 : Nat) < 100 from by decide) hf
  have f9 : 1 * w_fi ws (n_v vs 0) 159 + 0 ≤ k := f9
  obtain ⟨f10, hf⟩ := fc_un (show (20 : Nat) < 100 from by decide) hf
  have f10 : (-1) * w_fi ws (n_v vs 0) 159 + 0 ≤ ((-k)) := f10
  obtain ⟨ta1, w1, le1, ⟨_, s1⟩, hf⟩ := fc_us (show ¬ (102 : Nat) < 100 from by decide) hf
  obtain ⟨f12, hf⟩ := fc_un (show (23 : Nat) < 100 from by decide) hf
  have f12 : 1 * v_iv (n_v vs 1) + ((-1) * v_iv (n_v vs 7) + 0) ≤ 0 := f12
  have cr_0_160 : ta (w_ar ws (n_v vs 0) 160) = some 259 := tv_rg (th_fd hD hth r0 (g := GG_150) rfl (k := 160) (t := (2, 0, 0, [259])) rfl rfl)
  have g1 : v_iv (n_v vs 13) = w_fi ws (n_v vs 0) 158 := congrArg v_iv f1
  have hK_0_160 : ∀ j : Int, 0 ≤ j → j < 2010 → 0 ≤ w_ei ws (w_ar ws (n_v vs 0) 160) j ∧ w_ei ws (w_ar ws (n_v vs 0) 160) j ≤ 4 := fun j h0 h1 => th_el hD hth cr_0_160 (kd := 0) (n := 2010) (m := 2010) (lo := 0) (hi := 4) (rs := []) (L := []) rfl (by decide) (j := j.toNat) (by omega)
  have kz_0_157 : 0 ≤ w_fi ws (n_v vs 0) 157 ∧ w_fi ws (n_v vs 0) 157 ≤ 2010 := tv_rng (th_fd hD hth r0 (g := GG_150) rfl (k := 157) (t := (0, 0, 2010, [])) rfl rfl)
  have kz_0_158 : 0 ≤ w_fi ws (n_v vs 0) 158 ∧ w_fi ws (n_v vs 0) 158 ≤ 2009 := tv_rng (th_fd hD hth r0 (g := GG_150) rfl (k := 158) (t := (0, 0, 2009, [])) rfl rfl)
  have kz_0_159 : 0 ≤ w_fi ws (n_v vs 0) 159 ∧ w_fi ws (n_v vs 0) 159 ≤ 13 := tv_rng (th_fd hD hth r0 (g := GG_150) rfl (k := 159) (t := (0, 0, 13, [])) rfl rfl)
  have kz_0_164 : 0 ≤ w_fi ws (n_v vs 0) 164 ∧ w_fi ws (n_v vs 0) 164 ≤ 1 := tv_rng (th_fd hD hth r0 (g := GG_150) rfl (k := 164) (t := (0, 0, 1, [])) rfl rfl)
  have kz_0_165 : (-1) ≤ w_fi ws (n_v vs 0) 165 ∧ w_fi ws (n_v vs 0) 165 ≤ 47 := tv_rng (th_fd hD hth r0 (g := GG_150) rfl (k := 165) (t := (0, -1, 47, [])) rfl rfl)
  have rf15 : tv_ok ta (0, 1, 2009, []) (n_v vs 15) := tv_in t15 (by first | omega | grind) (by first | omega | grind)
  refine ⟨List.forall_mem_cons.mpr ⟨rf15, (fun _ h => (by cases h))⟩, [], trivial, ?_, (fun _ h => (by cases h))⟩
  rw [List.append_nil]
  exact (fun _ h => (by cases h))
def o_Mo_oneTest_f_14 (k : Int) : or_T := (171, 16, [(0, (2, 0, 0, [150])), (1, (0, 0, 2009, [])), (7, (0, 0, 2009, [])), (10, (0, 1, 1, [])), (13, (0, 0, 2009, [])), (14, (0, 1, 1, [])), (15, (0, 1, 2009, []))], [(20, [0], [50, 2, 0, 164, 165, 4, 7, 1, 3, 2, 0, 164, 0, 0, 0, 3, 2, 0, 165, 0, 23]), (23, [1, 7], [0, 1, -1]), (20, [0], [50, 2, 0, 164, 165, 4, 7, 1, 3, 2, 0, 164, 0, 0, 0, 3, 2, 0, 165, 0, 23]), (20, [0], [30, k, 1, 1, 159]), (20, [0], [30, (-k), -1, 1, 159]), (101, [0, 15], [158]), (1, [15, 13, 14], []), (9, [13, 0], [158]), (8, [10], [1]), (20, [10, 0], [50, 1, 1, 1158, 1160, 4, 6, 1, 2, 1, 0, 0, 1, 1, 6, 3, 1, 160, 2, 1, 158, 0, 3]), (20, [0], [50, 2, 0, 164, 165, 4, 7, 1, 3, 2, 0, 164, 0, 0, 0, 3, 2, 0, 165, 0, 23]), (23, [1, 7], [0, 1, -1]), (20, [0], [50, 2, 0, 164, 165, 4, 7, 1, 3, 2, 0, 164, 0, 0, 0, 3, 2, 0, 165, 0, 23]), (20, [0], [50, 2, 1, 158, 157, 160, 2, 12, 0, 7, 4, 3, 2, 0, 158, 0, 1, 2, 0, 157, 2, 7, 0, 3, 2, 0, 157, 0, 2010, 3, 14, 1, 10, 3, 0, 160, 5, 3, 2, 0, 157, 0, 1, 0, 0, 1, 10, 3, 0, 160, 5, 3, 2, 0, 157, 0, 1, 0, 4]), (20, [7, 0], [30, 0, 1, 0, 0, -1, 1, 158]), (20, [0], [30, k, 1, 1, 159]), (20, [0], [30, (-k), -1, 1, 159]), (102, [7], [0, 13008, 13009, 13158, 13159]), (23, [1, 7], [0, 1, -1])], [], [(0, 0, 2009, [])], [(20, [0], [50, 2, 1, 158, 157, 160, 2, 12, 0, 7, 4, 3, 2, 0, 158, 0, 1, 2, 0, 157, 2, 7, 0, 3, 2, 0, 157, 0, 2010, 3, 14, 1, 10, 3, 0, 160, 5, 3, 2, 0, 157, 0, 1, 0, 0, 1, 10, 3, 0, 160, 5, 3, 2, 0, 157, 0, 1, 0, 4]), (20, [0, 16], [30, 0, 1, 1, 158, -1, 0, 0]), (20, [0, 16], [30, 0, -1, 1, 158, 1, 0, 0]), (20, [0], [50, 2, 0, 164, 165, 4, 7, 1, 3, 2, 0, 164, 0, 0, 0, 3, 2, 0, 165, 0, 23]), (20, [0], [30, k, 1, 1, 159]), (20, [0], [30, (-k), -1, 1, 159]), (23, [1, 16], [0, 1, -1])], [], [(15, 13, 1, 1)])
theorem oo_Mo_oneTest_f_14 {kA : Nat → ClassId} (k : Int) (hk0 : 0 ≤ k) (hk1 : k ≤ 12) : or_ok kA GG (o_Mo_oneTest_f_14 k) := by
  intro A ta ws vs hD hth hl hk hds hf
  have hl : vs.length = 16 := hl
  have hk : ∀ q ∈ ([(0, (2, 0, 0, [150])), (1, (0, 0, 2009, [])), (7, (0, 0, 2009, [])), (10, (0, 1, 1, [])), (13, (0, 0, 2009, [])), (14, (0, 1, 1, [])), (15, (0, 1, 2009, []))] : List (Nat × tv_T)), tv_ok ta q.2 (n_v vs q.1) := hk
  obtain ⟨t0, hk⟩ := List.forall_mem_cons.mp hk
  have t0 : tv_ok ta (2, 0, 0, [150]) (n_v vs 0) := t0
  have r0 : ta (v_ad (n_v vs 0)) = some 150 := tv_rg t0
  obtain ⟨t1, hk⟩ := List.forall_mem_cons.mp hk
  have t1 : tv_ok ta (0, 0, 2009, []) (n_v vs 1) := t1
  have k1 : 0 ≤ v_iv (n_v vs 1) ∧ v_iv (n_v vs 1) ≤ 2009 := tv_rng t1
  obtain ⟨t7, hk⟩ := List.forall_mem_cons.mp hk
  have t7 : tv_ok ta (0, 0, 2009, []) (n_v vs 7) := t7
  have k7 : 0 ≤ v_iv (n_v vs 7) ∧ v_iv (n_v vs 7) ≤ 2009 := tv_rng t7
  obtain ⟨t10, hk⟩ := List.forall_mem_cons.mp hk
  have t10 : tv_ok ta (0, 1, 1, []) (n_v vs 10) := t10
  have k10 : 1 ≤ v_iv (n_v vs 10) ∧ v_iv (n_v vs 10) ≤ 1 := tv_rng t10
  obtain ⟨t13, hk⟩ := List.forall_mem_cons.mp hk
  have t13 : tv_ok ta (0, 0, 2009, []) (n_v vs 13) := t13
  have k13 : 0 ≤ v_iv (n_v vs 13) ∧ v_iv (n_v vs 13) ≤ 2009 := tv_rng t13
  obtain ⟨t14, hk⟩ := List.forall_mem_cons.mp hk
  have t14 : tv_ok ta (0, 1, 1, []) (n_v vs 14) := t14
  have k14 : 1 ≤ v_iv (n_v vs 14) ∧ v_iv (n_v vs 14) ≤ 1 := tv_rng t14
  obtain ⟨t15, hk⟩ := List.forall_mem_cons.mp hk
  have t15 : tv_ok ta (0, 1, 2009, []) (n_v vs 15) := t15
  have k15 : 1 ≤ v_iv (n_v vs 15) ∧ v_iv (n_v vs 15) ≤ 2009 := tv_rng t15
  have hds : ∀ q ∈ ([(15, 13, 1, 1)] : List of_T), n_iv vs q.2.1 + q.2.2.1 ≤ n_iv vs q.1 ∧ n_iv vs q.1 ≤ n_iv vs q.2.1 + q.2.2.2 := hds
  obtain ⟨d0, hds⟩ := List.forall_mem_cons.mp hds
  have d0 : v_iv (n_v vs 13) + 1 ≤ v_iv (n_v vs 15) ∧ v_iv (n_v vs 15) ≤ v_iv (n_v vs 13) + 1 := d0
  have hf : fc_ok [(20, [0], [50, 2, 0, 164, 165, 4, 7, 1, 3, 2, 0, 164, 0, 0, 0, 3, 2, 0, 165, 0, 23]), (23, [1, 7], [0, 1, -1]), (20, [0], [50, 2, 0, 164, 165, 4, 7, 1, 3, 2, 0, 164, 0, 0, 0, 3, 2, 0, 165, 0, 23]), (20, [0], [30, k, 1, 1, 159]), (20, [0], [30, (-k), -1, 1, 159]), (101, [0, 15], [158]), (1, [15, 13, 14], []), (9, [13, 0], [158]), (8, [10], [1]), (20, [10, 0], [50, 1, 1, 1158, 1160, 4, 6, 1, 2, 1, 0, 0, 1, 1, 6, 3, 1, 160, 2, 1, 158, 0, 3]), (20, [0], [50, 2, 0, 164, 165, 4, 7, 1, 3, 2, 0, 164, 0, 0, 0, 3, 2, 0, 165, 0, 23]), (23, [1, 7], [0, 1, -1]), (20, [0], [50, 2, 0, 164, 165, 4, 7, 1, 3, 2, 0, 164, 0, 0, 0, 3, 2, 0, 165, 0, 23]), (20, [0], [50, 2, 1, 158, 157, 160, 2, 12, 0, 7, 4, 3, 2, 0, 158, 0, 1, 2, 0, 157, 2, 7, 0, 3, 2, 0, 157, 0, 2010, 3, 14, 1, 10, 3, 0, 160, 5, 3, 2, 0, 157, 0, 1, 0, 0, 1, 10, 3, 0, 160, 5, 3, 2, 0, 157, 0, 1, 0, 4]), (20, [7, 0], [30, 0, 1, 0, 0, -1, 1, 158]), (20, [0], [30, k, 1, 1, 159]), (20, [0], [30, (-k), -1, 1, 159]), (102, [7], [0, 13008, 13009, 13158, 13159]), (23, [1, 7], [0, 1, -1])] ta ws vs := hf
  obtain ⟨f0, hf⟩ := fc_un (show (20 : Nat) < 100 from by decide) hf
  have f0 : (w_fi ws (n_v vs 0) 164 = 0) → (w_fi ws (n_v vs 0) 165 ≤ 23) := f0
  obtain ⟨f1, hf⟩ := fc_un (show (23 : Nat) < 100 from by decide) hf
  have f1 : 1 * v_iv (n_v vs 1) + ((-1) * v_iv (n_v vs 7) + 0) ≤ 0 := f1
  obtain ⟨f2, hf⟩ := fc_un (show (20 : Nat) < 100 from by decide) hf
  have f2 : (w_fi ws (n_v vs 0) 164 = 0) → (w_fi ws (n_v vs 0) 165 ≤ 23) := f2
  obtain ⟨f3, hf⟩ := fc_un (show (20 : Nat) < 100 from by decide) hf
  have f3 : 1 * w_fi ws (n_v vs 0) 159 + 0 ≤ k := f3
  obtain ⟨f4, hf⟩ := fc_un (show (20 : Nat) < 100 from by decide) hf
  have f4 : (-1) * w_fi ws (n_v vs 0) 159 + 0 ≤ ((-k)) := f4
  obtain ⟨ta1, w1, le1, ⟨_, s1⟩, hf⟩ := fc_us (show ¬ (101 : Nat) < 100 from by decide) hf
  have s1 : (∀ b j, w_el ws b j = w_el w1 b j) ∧ ∀ b j, w_fd ws b j = if b = v_ad (n_v vs 0) ∧ j = 158 then n_v vs 15 else w_fd w1 b j := s1
  obtain ⟨f6, hf⟩ := fc_un (show (1 : Nat) < 100 from by decide) hf
  have f6 : v_iv (n_v vs 15) = v_iv (n_v vs 13) + v_iv (n_v vs 14) := f6
  obtain ⟨f7, hf⟩ := fc_un (show (9 : Nat) < 100 from by decide) hf
  have f7 : n_v vs 13 = w_fd w1 (v_ad (n_v vs 0)) 158 := f7
  obtain ⟨f8, hf⟩ := fc_un (show (8 : Nat) < 100 from by decide) hf
  have f8 : v_iv (n_v vs 10) ≠ 0 := f8
  obtain ⟨f9, hf⟩ := fc_un (show (20 : Nat) < 100 from by decide) hf
  have f9 : (v_iv (n_v vs 10) = 1) → (w_ei w1 (w_ar w1 (n_v vs 0) 160) (w_fi w1 (n_v vs 0) 158) = 3) := f9
  obtain ⟨f10, hf⟩ := fc_un (show (20 : Nat) < 100 from by decide) hf
  have f10 : (w_fi w1 (n_v vs 0) 164 = 0) → (w_fi w1 (n_v vs 0) 165 ≤ 23) := f10
  obtain ⟨f11, hf⟩ := fc_un (show (23 : Nat) < 100 from by decide) hf
  have f11 : 1 * v_iv (n_v vs 1) + ((-1) * v_iv (n_v vs 7) + 0) ≤ 0 := f11
  obtain ⟨f12, hf⟩ := fc_un (show (20 : Nat) < 100 from by decide) hf
  have f12 : (w_fi w1 (n_v vs 0) 164 = 0) → (w_fi w1 (n_v vs 0) 165 ≤ 23) := f12
  obtain ⟨f13, hf⟩ := fc_un (show (20 : Nat) < 100 from by decide) hf
  have f13 : ((w_fi w1 (n_v vs 0) 158 + 1) ≤ w_fi w1 (n_v vs 0) 157) ∧ ((w_fi w1 (n_v vs 0) 157 ≤ 2010) ∧ ((w_ei w1 (w_ar w1 (n_v vs 0) 160) ((w_fi w1 (n_v vs 0) 157 - 1)) = 0) ∨ (w_ei w1 (w_ar w1 (n_v vs 0) 160) ((w_fi w1 (n_v vs 0) 157 - 1)) = 4))) := f13
  obtain ⟨f14, hf⟩ := fc_un (show (20 : Nat) < 100 from by decide) hf
  have f14 : 1 * v_iv (n_v vs 7) + ((-1) * w_fi w1 (n_v vs 0) 158 + 0) ≤ 0 := f14
  obtain ⟨f15, hf⟩ := fc_un (show (20 : Nat) < 100 from by decide) hf
  have f15 : 1 * w_fi w1 (n_v vs 0) 159 + 0 ≤ k := f15
  obtain ⟨f16, hf⟩ := fc_un (show (20 : Nat) < 100 from by decide) hf
  have f16 : (-1) * w_fi w1 (n_v vs 0) 159 + 0 ≤ ((-k)) := f16
  obtain ⟨ta2, w2, le2, ⟨_, s2⟩, hf⟩ := fc_us (show ¬ (102 : Nat) < 100 from by decide) hf
  obtain ⟨f18, hf⟩ := fc_un (show (23 : Nat) < 100 from by decide) hf
  have f18 : 1 * v_iv (n_v vs 1) + ((-1) * v_iv (n_v vs 7) + 0) ≤ 0 := f18
  have ar_0_160_1 : w_ar w1 (n_v vs 0) 160 = w_ar ws (n_v vs 0) 160 := by show v_ad (w_fd w1 _ _) = v_ad (w_fd ws _ _); rw [s1.2, if_neg (fun e => absurd e.2 (by decide))]
  have cr_0_160 : ta (w_ar ws (n_v vs 0) 160) = some 259 := tv_rg (th_fd hD hth r0 (g := GG_150) rfl (k := 160) (t := (2, 0, 0, [259])) rfl rfl)
  have g7 : v_iv (n_v vs 13) = w_fi w1 (n_v vs 0) 158 := congrArg v_iv f7
  rw [ar_0_160_1] at f9
  rw [ar_0_160_1] at f13
  have fe_0_157_1 : w_fi ws (n_v vs 0) 157 = w_fi w1 (n_v vs 0) 157 := by show v_iv (w_fd _ _ _) = v_iv (w_fd _ _ _); rw [s1.2, if_neg (fun e => absurd e.2 (by decide))]
  have fe_0_158_1 : w_fi ws (n_v vs 0) 158 = v_iv (n_v vs 15) := by show v_iv (w_fd _ _ _) = _; rw [s1.2, if_pos ⟨rfl, rfl⟩]
  have fe_0_159_1 : w_fi ws (n_v vs 0) 159 = w_fi w1 (n_v vs 0) 159 := by show v_iv (w_fd _ _ _) = v_iv (w_fd _ _ _); rw [s1.2, if_neg (fun e => absurd e.2 (by decide))]
  have fe_0_164_1 : w_fi ws (n_v vs 0) 164 = w_fi w1 (n_v vs 0) 164 := by show v_iv (w_fd _ _ _) = v_iv (w_fd _ _ _); rw [s1.2, if_neg (fun e => absurd e.2 (by decide))]
  have fe_0_165_1 : w_fi ws (n_v vs 0) 165 = w_fi w1 (n_v vs 0) 165 := by show v_iv (w_fd _ _ _) = v_iv (w_fd _ _ _); rw [s1.2, if_neg (fun e => absurd e.2 (by decide))]
  have hE_0_160_1 : ∀ j : Int, w_ei ws (w_ar ws (n_v vs 0) 160) j = w_ei w1 (w_ar ws (n_v vs 0) 160) j := fun j => s1.1 _ _
  have hK_0_160 : ∀ j : Int, 0 ≤ j → j < 2010 → 0 ≤ w_ei ws (w_ar ws (n_v vs 0) 160) j ∧ w_ei ws (w_ar ws (n_v vs 0) 160) j ≤ 4 := fun j h0 h1 => th_el hD hth cr_0_160 (kd := 0) (n := 2010) (m := 2010) (lo := 0) (hi := 4) (rs := []) (L := []) rfl (by decide) (j := j.toNat) (by omega)
  have kz_0_157 : 0 ≤ w_fi ws (n_v vs 0) 157 ∧ w_fi ws (n_v vs 0) 157 ≤ 2010 := tv_rng (th_fd hD hth r0 (g := GG_150) rfl (k := 157) (t := (0, 0, 2010, [])) rfl rfl)
  have kz_0_158 : 0 ≤ w_fi ws (n_v vs 0) 158 ∧ w_fi ws (n_v vs 0) 158 ≤ 2009 := tv_rng (th_fd hD hth r0 (g := GG_150) rfl (k := 158) (t := (0, 0, 2009, [])) rfl rfl)
  have kz_0_159 : 0 ≤ w_fi ws (n_v vs 0) 159 ∧ w_fi ws (n_v vs 0) 159 ≤ 13 := tv_rng (th_fd hD hth r0 (g := GG_150) rfl (k := 159) (t := (0, 0, 13, [])) rfl rfl)
  have kz_0_164 : 0 ≤ w_fi ws (n_v vs 0) 164 ∧ w_fi ws (n_v vs 0) 164 ≤ 1 := tv_rng (th_fd hD hth r0 (g := GG_150) rfl (k := 164) (t := (0, 0, 1, [])) rfl rfl)
  have kz_0_165 : (-1) ≤ w_fi ws (n_v vs 0) 165 ∧ w_fi ws (n_v vs 0) 165 ≤ 47 := tv_rng (th_fd hD hth r0 (g := GG_150) rfl (k := 165) (t := (0, -1, 47, [])) rfl rfl)
  have kv0 : 0 ≤ w_fi ws (n_v vs 0) 158 ∧ w_fi ws (n_v vs 0) 158 ≤ 2009 := tv_rng (th_fd hD hth r0 (g := GG_150) rfl (k := 158) (t := (0, 0, 2009, [])) rfl rfl)
  obtain ⟨x, ex, hx⟩ := iv_ex (ta := ta) (lo := 0) (hi := 2009) (z := w_fi ws (n_v vs 0) 158) (by omega) (by omega) (by omega) (by omega)
  have ex2 : v_iv (Value.int x) = w_fi ws (n_v vs 0) 158 := ex
  have ex3 : 0 ≤ v_iv (Value.int x) ∧ v_iv (Value.int x) ≤ 2009 := tv_rng hx
  have e_0 : n_v (vs ++ [Value.int x]) 0 = n_v vs 0 := n_v_old (by rw [hl]; decide)
  have e_1 : n_v (vs ++ [Value.int x]) 1 = n_v vs 1 := n_v_old (by rw [hl]; decide)
  have e_16 : n_v (vs ++ [Value.int x]) 16 = Value.int x := n_v_new hl
  have nf0 : fc_1 (20, [0], [50, 2, 1, 158, 157, 160, 2, 12, 0, 7, 4, 3, 2, 0, 158, 0, 1, 2, 0, 157, 2, 7, 0, 3, 2, 0, 157, 0, 2010, 3, 14, 1, 10, 3, 0, 160, 5, 3, 2, 0, 157, 0, 1, 0, 0, 1, 10, 3, 0, 160, 5, 3, 2, 0, 157, 0, 1, 0, 4]) ws (vs ++ [Value.int x]) := by
    refine ⟨fun n hn => ?_, ?_⟩
    · have hn : n ∈ [0] := hn
      rw [List.length_append, hl]
      simp only [List.mem_cons, List.not_mem_nil, or_false] at hn
      show n < 16 + 1; omega
    · show ((w_fi ws (n_v (vs ++ [Value.int x]) 0) 158 + 1) ≤ w_fi ws (n_v (vs ++ [Value.int x]) 0) 157) ∧ ((w_fi ws (n_v (vs ++ [Value.int x]) 0) 157 ≤ 2010) ∧ ((w_ei ws (w_ar ws (n_v (vs ++ [Value.int x]) 0) 160) ((w_fi ws (n_v (vs ++ [Value.int x]) 0) 157 - 1)) = 0) ∨ (w_ei ws (w_ar ws (n_v (vs ++ [Value.int x]) 0) 160) ((w_fi ws (n_v (vs ++ [Value.int x]) 0) 157 - 1)) = 4)))
      rw [e_0]
      first | omega | grind
  have nf1 : fc_1 (20, [0, 16], [30, 0, 1, 1, 158, -1, 0, 0]) ws (vs ++ [Value.int x]) := by
    refine ⟨fun n hn => ?_, ?_⟩
    · have hn : n ∈ [0, 16] := hn
      rw [List.length_append, hl]
      simp only [List.mem_cons, List.not_mem_nil, or_false] at hn
      show n < 16 + 1; omega
    · show 1 * w_fi ws (n_v (vs ++ [Value.int x]) 0) 158 + ((-1) * v_iv (n_v (vs ++ [Value.int x]) 16) + 0) ≤ 0
      rw [e_0]
      rw [e_16]
      omega
  have nf2 : fc_1 (20, [0, 16], [30, 0, -1, 1, 158, 1, 0, 0]) ws (vs ++ [Value.int x]) := by
    refine ⟨fun n hn => ?_, ?_⟩
    · have hn : n ∈ [0, 16] := hn
      rw [List.length_append, hl]
      simp only [List.mem_cons, List.not_mem_nil, or_false] at hn
      show n < 16 + 1; omega
    · show (-1) * w_fi ws (n_v (vs ++ [Value.int x]) 0) 158 + (1 * v_iv (n_v (vs ++ [Value.int x]) 16) + 0) ≤ 0
      rw [e_0]
      rw [e_16]
      omega
  have nf3 : fc_1 (20, [0], [50, 2, 0, 164, 165, 4, 7, 1, 3, 2, 0, 164, 0, 0, 0, 3, 2, 0, 165, 0, 23]) ws (vs ++ [Value.int x]) := by
    refine ⟨fun n hn => ?_, ?_⟩
    · have hn : n ∈ [0] := hn
      rw [List.length_append, hl]
      simp only [List.mem_cons, List.not_mem_nil, or_false] at hn
      show n < 16 + 1; omega
    · show (w_fi ws (n_v (vs ++ [Value.int x]) 0) 164 = 0) → (w_fi ws (n_v (vs ++ [Value.int x]) 0) 165 ≤ 23)
      rw [e_0]
      first | omega | grind
  have nf4 : fc_1 (20, [0], [30, k, 1, 1, 159]) ws (vs ++ [Value.int x]) := by
    refine ⟨fun n hn => ?_, ?_⟩
    · have hn : n ∈ [0] := hn
      rw [List.length_append, hl]
      simp only [List.mem_cons, List.not_mem_nil, or_false] at hn
      show n < 16 + 1; omega
    · show 1 * w_fi ws (n_v (vs ++ [Value.int x]) 0) 159 + 0 ≤ k
      rw [e_0]
      omega
  have nf5 : fc_1 (20, [0], [30, (-k), -1, 1, 159]) ws (vs ++ [Value.int x]) := by
    refine ⟨fun n hn => ?_, ?_⟩
    · have hn : n ∈ [0] := hn
      rw [List.length_append, hl]
      simp only [List.mem_cons, List.not_mem_nil, or_false] at hn
      show n < 16 + 1; omega
    · show (-1) * w_fi ws (n_v (vs ++ [Value.int x]) 0) 159 + 0 ≤ ((-k))
      rw [e_0]
      omega
  have nf6 : fc_1 (23, [1, 16], [0, 1, -1]) ws (vs ++ [Value.int x]) := by
    refine ⟨fun n hn => ?_, ?_⟩
    · have hn : n ∈ [1, 16] := hn
      rw [List.length_append, hl]
      simp only [List.mem_cons, List.not_mem_nil, or_false] at hn
      show n < 16 + 1; omega
    · show 1 * v_iv (n_v (vs ++ [Value.int x]) 1) + ((-1) * v_iv (n_v (vs ++ [Value.int x]) 16) + 0) ≤ 0
      rw [e_1]
      rw [e_16]
      omega
  exact ⟨(fun _ h => (by cases h)), [Value.int x], ag_one hx, List.forall_mem_cons.mpr ⟨⟨show (20 : Nat) < 100 from by decide, nf0⟩, List.forall_mem_cons.mpr ⟨⟨show (20 : Nat) < 100 from by decide, nf1⟩, List.forall_mem_cons.mpr ⟨⟨show (20 : Nat) < 100 from by decide, nf2⟩, List.forall_mem_cons.mpr ⟨⟨show (20 : Nat) < 100 from by decide, nf3⟩, List.forall_mem_cons.mpr ⟨⟨show (20 : Nat) < 100 from by decide, nf4⟩, List.forall_mem_cons.mpr ⟨⟨show (20 : Nat) < 100 from by decide, nf5⟩, List.forall_mem_cons.mpr ⟨⟨show (23 : Nat) < 100 from by decide, nf6⟩, (fun _ h => (by cases h))⟩⟩⟩⟩⟩⟩⟩, (fun _ h => (by cases h))⟩
def o_Mo_oneTest_f_15 (k : Int) : or_T := (230, 20, [(0, (2, 0, 0, [150])), (1, (0, 0, 2009, [])), (7, (0, 0, 2009, [])), (13, (0, 0, 2009, [])), (14, (0, 1, 1, [])), (15, (0, 1, 2009, [])), (16, (0, 0, 2009, []))], [(20, [0], [50, 2, 0, 164, 165, 4, 7, 1, 3, 2, 0, 164, 0, 0, 0, 3, 2, 0, 165, 0, 23]), (23, [1, 16], [0, 1, -1]), (20, [0], [50, 2, 0, 164, 165, 4, 7, 1, 3, 2, 0, 164, 0, 0, 0, 3, 2, 0, 165, 0, 23]), (23, [1, 7], [0, 1, -1]), (20, [0], [50, 2, 0, 164, 165, 4, 7, 1, 3, 2, 0, 164, 0, 0, 0, 3, 2, 0, 165, 0, 23]), (20, [0], [50, 2, 1, 158, 157, 160, 2, 12, 0, 7, 4, 3, 2, 0, 158, 0, 1, 2, 0, 157, 2, 7, 0, 3, 2, 0, 157, 0, 2010, 3, 14, 1, 10, 3, 0, 160, 5, 3, 2, 0, 157, 0, 1, 0, 0, 1, 10, 3, 0, 160, 5, 3, 2, 0, 157, 0, 1, 0, 4]), (20, [16, 0], [30, 0, 1, 0, 0, -1, 1, 158]), (20, [0], [30, k, 1, 1, 159]), (20, [0], [30, (-k), -1, 1, 159]), (102, [16], [0, 13008, 13009, 13158, 13159]), (23, [1, 16], [0, 1, -1]), (23, [1, 7], [0, 1, -1]), (101, [0, 15], [158]), (1, [15, 13, 14], []), (23, [1, 7], [0, 1, -1]), (102, [7], [0, 13008, 13009, 13158, 13159]), (23, [1, 7], [0, 1, -1])], [], [], [(20, [1, 0], [30, 0, 1, 0, 0, -1, 1, 158])], [], [(15, 13, 1, 1)])
theorem oo_Mo_oneTest_f_15 {kA : Nat → ClassId} (k : Int) (hk0 : 0 ≤ k) (hk1 : k ≤ 12) : or_ok kA GG (o_Mo_oneTest_f_15 k) := by
  intro A ta ws vs hD hth hl hk hds hf
  have hl : vs.length = 20 := hl
  have hk : ∀ q ∈ ([(0, (2, 0, 0, [150])), (1, (0, 0, 2009, [])), (7, (0, 0, 2009, [])), (13, (0, 0, 2009, [])), (14, (0, 1, 1, [])), (15, (0, 1, 2009, [])), (16, (0, 0, 2009, []))] : List (Nat × tv_T)), tv_ok ta q.2 (n_v vs q.1) := hk
  obtain ⟨t0, hk⟩ := List.forall_mem_cons.mp hk
  have t0 : tv_ok ta (2, 0, 0, [150]) (n_v vs 0) := t0
  have r0 : ta (v_ad (n_v vs 0)) = some 150 := tv_rg t0
  obtain ⟨t1, hk⟩ := List.forall_mem_cons.mp hk
  have t1 : tv_ok ta (0, 0, 2009, []) (n_v vs 1) := t1
  have k1 : 0 ≤ v_iv (n_v vs 1) ∧ v_iv (n_v vs 1) ≤ 2009 := tv_rng t1
  obtain ⟨t7, hk⟩ := List.forall_mem_cons.mp hk
  have t7 : tv_ok ta (0, 0, 2009, []) (n_v vs 7) := t7
  have k7 : 0 ≤ v_iv (n_v vs 7) ∧ v_iv (n_v vs 7) ≤ 2009 := tv_rng t7
  obtain ⟨t13, hk⟩ := List.forall_mem_cons.mp hk
  have t13 : tv_ok ta (0, 0, 2009, []) (n_v vs 13) := t13
  have k13 : 0 ≤ v_iv (n_v vs 13) ∧ v_iv (n_v vs 13) ≤ 2009 := tv_rng t13
  obtain ⟨t14, hk⟩ := List.forall_mem_cons.mp hk
  have t14 : tv_ok ta (0, 1, 1, []) (n_v vs 14) := t14
  have k14 : 1 ≤ v_iv (n_v vs 14) ∧ v_iv (n_v vs 14) ≤ 1 := tv_rng t14
  obtain ⟨t15, hk⟩ := List.forall_mem_cons.mp hk
  have t15 : tv_ok ta (0, 1, 2009, []) (n_v vs 15) := t15
  have k15 : 1 ≤ v_iv (n_v vs 15) ∧ v_iv (n_v vs 15) ≤ 2009 := tv_rng t15
  obtain ⟨t16, hk⟩ := List.forall_mem_cons.mp hk
  have t16 : tv_ok ta (0, 0, 2009, []) (n_v vs 16) := t16
  have k16 : 0 ≤ v_iv (n_v vs 16) ∧ v_iv (n_v vs 16) ≤ 2009 := tv_rng t16
  have hds : ∀ q ∈ ([(15, 13, 1, 1)] : List of_T), n_iv vs q.2.1 + q.2.2.1 ≤ n_iv vs q.1 ∧ n_iv vs q.1 ≤ n_iv vs q.2.1 + q.2.2.2 := hds
  obtain ⟨d0, hds⟩ := List.forall_mem_cons.mp hds
  have d0 : v_iv (n_v vs 13) + 1 ≤ v_iv (n_v vs 15) ∧ v_iv (n_v vs 15) ≤ v_iv (n_v vs 13) + 1 := d0
  have hf : fc_ok [(20, [0], [50, 2, 0, 164, 165, 4, 7, 1, 3, 2, 0, 164, 0, 0, 0, 3, 2, 0, 165, 0, 23]), (23, [1, 16], [0, 1, -1]), (20, [0], [50, 2, 0, 164, 165, 4, 7, 1, 3, 2, 0, 164, 0, 0, 0, 3, 2, 0, 165, 0, 23]), (23, [1, 7], [0, 1, -1]), (20, [0], [50, 2, 0, 164, 165, 4, 7, 1, 3, 2, 0, 164, 0, 0, 0, 3, 2, 0, 165, 0, 23]), (20, [0], [50, 2, 1, 158, 157, 160, 2, 12, 0, 7, 4, 3, 2, 0, 158, 0, 1, 2, 0, 157, 2, 7, 0, 3, 2, 0, 157, 0, 2010, 3, 14, 1, 10, 3, 0, 160, 5, 3, 2, 0, 157, 0, 1, 0, 0, 1, 10, 3, 0, 160, 5, 3, 2, 0, 157, 0, 1, 0, 4]), (20, [16, 0], [30, 0, 1, 0, 0, -1, 1, 158]), (20, [0], [30, k, 1, 1, 159]), (20, [0], [30, (-k), -1, 1, 159]), (102, [16], [0, 13008, 13009, 13158, 13159]), (23, [1, 16], [0, 1, -1]), (23, [1, 7], [0, 1, -1]), (101, [0, 15], [158]), (1, [15, 13, 14], []), (23, [1, 7], [0, 1, -1]), (102, [7], [0, 13008, 13009, 13158, 13159]), (23, [1, 7], [0, 1, -1])] ta ws vs := hf
  obtain ⟨f0, hf⟩ := fc_un (show (20 : Nat) < 100 from by decide) hf
  have f0 : (w_fi ws (n_v vs 0) 164 = 0) → (w_fi ws (n_v vs 0) 165 ≤ 23) := f0
  obtain ⟨f1, hf⟩ := fc_un (show (23 : Nat) < 100 from by decide) hf
  have f1 : 1 * v_iv (n_v vs 1) + ((-1) * v_iv (n_v vs 16) + 0) ≤ 0 := f1
  obtain ⟨f2, hf⟩ := fc_un (show (20 : Nat) < 100 from by decide) hf
  have f2 : (w_fi ws (n_v vs 0) 164 = 0) → (w_fi ws (n_v vs 0) 165 ≤ 23) := f2
  obtain ⟨f3, hf⟩ := fc_un (show (23 : Nat) < 100 from by decide) hf
  have f3 : 1 * v_iv (n_v vs 1) + ((-1) * v_iv (n_v vs 7) + 0) ≤ 0 := f3
  obtain ⟨f4, hf⟩ := fc_un (show (20 : Nat) < 100 from by decide) hf
  have f4 : (w_fi ws (n_v vs 0) 164 = 0) → (w_fi ws (n_v vs 0) 165 ≤ 23) := f4
  obtain ⟨f5, hf⟩ := fc_un (show (20 : Nat) < 100 from by decide) hf
  have f5 : ((w_fi ws (n_v vs 0) 158 + 1) ≤ w_fi ws (n_v vs 0) 157) ∧ ((w_fi ws (n_v vs 0) 157 ≤ 2010) ∧ ((w_ei ws (w_ar ws (n_v vs 0) 160) ((w_fi ws (n_v vs 0) 157 - 1)) = 0) ∨ (w_ei ws (w_ar ws (n_v vs 0) 160) ((w_fi ws (n_v vs 0) 157 - 1)) = 4))) := f5
  obtain ⟨f6, hf⟩ := fc_un (show (20 : Nat) < 100 from by decide) hf
  have f6 : 1 * v_iv (n_v vs 16) + ((-1) * w_fi ws (n_v vs 0) 158 + 0) ≤ 0 := f6
  obtain ⟨f7, hf⟩ := fc_un (show (20 : Nat) < 100 from by decide) hf
  have f7 : 1 * w_fi ws (n_v vs 0) 159 + 0 ≤ k := f7
  obtain ⟨f8, hf⟩ := fc_un (show (20 : Nat) < 100 from by decide) hf
  have f8 : (-1) * w_fi ws (n_v vs 0) 159 + 0 ≤ ((-k)) := f8
  obtain ⟨ta1, w1, le1, ⟨_, s1⟩, hf⟩ := fc_us (show ¬ (102 : Nat) < 100 from by decide) hf
  obtain ⟨f10, hf⟩ := fc_un (show (23 : Nat) < 100 from by decide) hf
  have f10 : 1 * v_iv (n_v vs 1) + ((-1) * v_iv (n_v vs 16) + 0) ≤ 0 := f10
  obtain ⟨f11, hf⟩ := fc_un (show (23 : Nat) < 100 from by decide) hf
  have f11 : 1 * v_iv (n_v vs 1) + ((-1) * v_iv (n_v vs 7) + 0) ≤ 0 := f11
  obtain ⟨ta2, w2, le2, ⟨_, s2⟩, hf⟩ := fc_us (show ¬ (101 : Nat) < 100 from by decide) hf
  have s2 : (∀ b j, w_el w1 b j = w_el w2 b j) ∧ ∀ b j, w_fd w1 b j = if b = v_ad (n_v vs 0) ∧ j = 158 then n_v vs 15 else w_fd w2 b j := s2
  obtain ⟨f13, hf⟩ := fc_un (show (1 : Nat) < 100 from by decide) hf
  have f13 : v_iv (n_v vs 15) = v_iv (n_v vs 13) + v_iv (n_v vs 14) := f13
  obtain ⟨f14, hf⟩ := fc_un (show (23 : Nat) < 100 from by decide) hf
  have f14 : 1 * v_iv (n_v vs 1) + ((-1) * v_iv (n_v vs 7) + 0) ≤ 0 := f14
  obtain ⟨ta3, w3, le3, ⟨_, s3⟩, hf⟩ := fc_us (show ¬ (102 : Nat) < 100 from by decide) hf
  obtain ⟨f16, hf⟩ := fc_un (show (23 : Nat) < 100 from by decide) hf
  have f16 : 1 * v_iv (n_v vs 1) + ((-1) * v_iv (n_v vs 7) + 0) ≤ 0 := f16
  have cr_0_160 : ta (w_ar ws (n_v vs 0) 160) = some 259 := tv_rg (th_fd hD hth r0 (g := GG_150) rfl (k := 160) (t := (2, 0, 0, [259])) rfl rfl)
  have hK_0_160 : ∀ j : Int, 0 ≤ j → j < 2010 → 0 ≤ w_ei ws (w_ar ws (n_v vs 0) 160) j ∧ w_ei ws (w_ar ws (n_v vs 0) 160) j ≤ 4 := fun j h0 h1 => th_el hD hth cr_0_160 (kd := 0) (n := 2010) (m := 2010) (lo := 0) (hi := 4) (rs := []) (L := []) rfl (by decide) (j := j.toNat) (by omega)
  have kz_0_157 : 0 ≤ w_fi ws (n_v vs 0) 157 ∧ w_fi ws (n_v vs 0) 157 ≤ 2010 := tv_rng (th_fd hD hth r0 (g := GG_150) rfl (k := 157) (t := (0, 0, 2010, [])) rfl rfl)
  have kz_0_158 : 0 ≤ w_fi ws (n_v vs 0) 158 ∧ w_fi ws (n_v vs 0) 158 ≤ 2009 := tv_rng (th_fd hD hth r0 (g := GG_150) rfl (k := 158) (t := (0, 0, 2009, [])) rfl rfl)
  have kz_0_159 : 0 ≤ w_fi ws (n_v vs 0) 159 ∧ w_fi ws (n_v vs 0) 159 ≤ 13 := tv_rng (th_fd hD hth r0 (g := GG_150) rfl (k := 159) (t := (0, 0, 13, [])) rfl rfl)
  have kz_0_164 : 0 ≤ w_fi ws (n_v vs 0) 164 ∧ w_fi ws (n_v vs 0) 164 ≤ 1 := tv_rng (th_fd hD hth r0 (g := GG_150) rfl (k := 164) (t := (0, 0, 1, [])) rfl rfl)
  have kz_0_165 : (-1) ≤ w_fi ws (n_v vs 0) 165 ∧ w_fi ws (n_v vs 0) 165 ≤ 47 := tv_rng (th_fd hD hth r0 (g := GG_150) rfl (k := 165) (t := (0, -1, 47, [])) rfl rfl)
  have nf0 : fc_1 (20, [1, 0], [30, 0, 1, 0, 0, -1, 1, 158]) ws (vs) := by
    refine ⟨fun n hn => ?_, ?_⟩
    · have hn : n ∈ [1, 0] := hn
      rw [hl]
      simp only [List.mem_cons, List.not_mem_nil, or_false] at hn
      show n < 20; omega
    · show 1 * v_iv (n_v vs 1) + ((-1) * w_fi ws (n_v vs 0) 158 + 0) ≤ 0
      omega
  refine ⟨(fun _ h => (by cases h)), [], trivial, ?_, (fun _ h => (by cases h))⟩
  rw [List.append_nil]
  exact List.forall_mem_cons.mpr ⟨⟨show (20 : Nat) < 100 from by decide, nf0⟩, (fun _ h => (by cases h))⟩
def o_Mo_oneTest_f_16 (k : Int) : or_T := (159, 14, [(0, (2, 0, 0, [150])), (1, (0, 0, 2009, [])), (7, (0, 0, 2009, [])), (10, (0, 1, 1, []))], [(8, [10], [1]), (20, [10, 0], [50, 1, 1, 1158, 1160, 4, 6, 1, 2, 1, 0, 0, 1, 1, 6, 3, 1, 160, 2, 1, 158, 0, 3]), (20, [0], [50, 2, 0, 164, 165, 4, 7, 1, 3, 2, 0, 164, 0, 0, 0, 3, 2, 0, 165, 0, 23]), (23, [1, 7], [0, 1, -1]), (20, [0], [50, 2, 0, 164, 165, 4, 7, 1, 3, 2, 0, 164, 0, 0, 0, 3, 2, 0, 165, 0, 23]), (20, [0], [50, 2, 1, 158, 157, 160, 2, 12, 0, 7, 4, 3, 2, 0, 158, 0, 1, 2, 0, 157, 2, 7, 0, 3, 2, 0, 157, 0, 2010, 3, 14, 1, 10, 3, 0, 160, 5, 3, 2, 0, 157, 0, 1, 0, 0, 1, 10, 3, 0, 160, 5, 3, 2, 0, 157, 0, 1, 0, 4]), (20, [7, 0], [30, 0, 1, 0, 0, -1, 1, 158]), (20, [0], [30, k, 1, 1, 159]), (20, [0], [30, (-k), -1, 1, 159]), (102, [7], [0, 13008, 13009, 13158, 13159]), (23, [1, 7], [0, 1, -1])], [], [], [(20, [1, 0], [30, 0, 1, 0, 0, -1, 1, 158])], [], [])
theorem oo_Mo_oneTest_f_16 {kA : Nat → ClassId} (k : Int) (hk0 : 0 ≤ k) (hk1 : k ≤ 12) : or_ok kA GG (o_Mo_oneTest_f_16 k) := by
  intro A ta ws vs hD hth hl hk hds hf
  have hl : vs.length = 14 := hl
  have hk : ∀ q ∈ ([(0, (2, 0, 0, [150])), (1, (0, 0, 2009, [])), (7, (0, 0, 2009, [])), (10, (0, 1, 1, []))] : List (Nat × tv_T)), tv_ok ta q.2 (n_v vs q.1) := hk
  obtain ⟨t0, hk⟩ := List.forall_mem_cons.mp hk
  have t0 : tv_ok ta (2, 0, 0, [150]) (n_v vs 0) := t0
  have r0 : ta (v_ad (n_v vs 0)) = some 150 := tv_rg t0
  obtain ⟨t1, hk⟩ := List.forall_mem_cons.mp hk
  have t1 : tv_ok ta (0, 0, 2009, []) (n_v vs 1) := t1
  have k1 : 0 ≤ v_iv (n_v vs 1) ∧ v_iv (n_v vs 1) ≤ 2009 := tv_rng t1
  obtain ⟨t7, hk⟩ := List.forall_mem_cons.mp hk
  have t7 : tv_ok ta (0, 0, 2009, []) (n_v vs 7) := t7
  have k7 : 0 ≤ v_iv (n_v vs 7) ∧ v_iv (n_v vs 7) ≤ 2009 := tv_rng t7
  obtain ⟨t10, hk⟩ := List.forall_mem_cons.mp hk
  have t10 : tv_ok ta (0, 1, 1, []) (n_v vs 10) := t10
  have k10 : 1 ≤ v_iv (n_v vs 10) ∧ v_iv (n_v vs 10) ≤ 1 := tv_rng t10
  have hf : fc_ok [(8, [10], [1]), (20, [10, 0], [50, 1, 1, 1158, 1160, 4, 6, 1, 2, 1, 0, 0, 1, 1, 6, 3, 1, 160, 2, 1, 158, 0, 3]), (20, [0], [50, 2, 0, 164, 165, 4, 7, 1, 3, 2, 0, 164, 0, 0, 0, 3, 2, 0, 165, 0, 23]), (23, [1, 7], [0, 1, -1]), (20, [0], [50, 2, 0, 164, 165, 4, 7, 1, 3, 2, 0, 164, 0, 0, 0, 3, 2, 0, 165, 0, 23]), (20, [0], [50, 2, 1, 158, 157, 160, 2, 12, 0, 7, 4, 3, 2, 0, 158, 0, 1, 2, 0, 157, 2, 7, 0, 3, 2, 0, 157, 0, 2010, 3, 14, 1, 10, 3, 0, 160, 5, 3, 2, 0, 157, 0, 1, 0, 0, 1, 10, 3, 0, 160, 5, 3, 2, 0, 157, 0, 1, 0, 4]), (20, [7, 0], [30, 0, 1, 0, 0, -1, 1, 158]), (20, [0], [30, k, 1, 1, 159]), (20, [0], [30, (-k), -1, 1, 159]), (102, [7], [0, 13008, 13009, 13158, 13159]), (23, [1, 7], [0, 1, -1])] ta ws vs := hf
  obtain ⟨f0, hf⟩ := fc_un (show (8 : Nat) < 100 from by decide) hf
  have f0 : v_iv (n_v vs 10) ≠ 0 := f0
  obtain ⟨f1, hf⟩ := fc_un (show (20 : Nat) < 100 from by decide) hf
  have f1 : (v_iv (n_v vs 10) = 1) → (w_ei ws (w_ar ws (n_v vs 0) 160) (w_fi ws (n_v vs 0) 158) = 3) := f1
  obtain ⟨f2, hf⟩ := fc_un (show (20 : Nat) < 100 from by decide) hf
  have f2 : (w_fi ws (n_v vs 0) 164 = 0) → (w_fi ws (n_v vs 0) 165 ≤ 23) := f2
  obtain ⟨f3, hf⟩ := fc_un (show (23 : Nat) < 100 from by decide) hf
  have f3 : 1 * v_iv (n_v vs 1) + ((-1) * v_iv (n_v vs 7) + 0) ≤ 0 := f3
  obtain ⟨f4, hf⟩ := fc_un (show (20 : Nat) < 100 from by decide) hf
  have f4 : (w_fi ws (n_v vs 0) 164 = 0) → (w_fi ws (n_v vs 0) 165 ≤ 23) := f4
  obtain ⟨f5, hf⟩ := fc_un (show (20 : Nat) < 100 from by decide) hf
  have f5 : ((w_fi ws (n_v vs 0) 158 + 1) ≤ w_fi ws (n_v vs 0) 157) ∧ ((w_fi ws (n_v vs 0) 157 ≤ 2010) ∧ ((w_ei ws (w_ar ws (n_v vs 0) 160) ((w_fi ws (n_v vs 0) 157 - 1)) = 0) ∨ (w_ei ws (w_ar ws (n_v vs 0) 160) ((w_fi ws (n_v vs 0) 157 - 1)) = 4))) := f5
  obtain ⟨f6, hf⟩ := fc_un (show (20 : Nat) < 100 from by decide) hf
  have f6 : 1 * v_iv (n_v vs 7) + ((-1) * w_fi ws (n_v vs 0) 158 + 0) ≤ 0 := f6
  obtain ⟨f7, hf⟩ := fc_un (show (20 : Nat) < 100 from by decide) hf
  have f7 : 1 * w_fi ws (n_v vs 0) 159 + 0 ≤ k := f7
  obtain ⟨f8, hf⟩ := fc_un (show (20 : Nat) < 100 from by decide) hf
  have f8 : (-1) * w_fi ws (n_v vs 0) 159 + 0 ≤ ((-k)) := f8
  obtain ⟨ta1, w1, le1, ⟨_, s1⟩, hf⟩ := fc_us (show ¬ (102 : Nat) < 100 from by decide) hf
  obtain ⟨f10, hf⟩ := fc_un (show (23 : Nat) < 100 from by decide) hf
  have f10 : 1 * v_iv (n_v vs 1) + ((-1) * v_iv (n_v vs 7) + 0) ≤ 0 := f10
  have cr_0_160 : ta (w_ar ws (n_v vs 0) 160) = some 259 := tv_rg (th_fd hD hth r0 (g := GG_150) rfl (k := 160) (t := (2, 0, 0, [259])) rfl rfl)
  have hK_0_160 : ∀ j : Int, 0 ≤ j → j < 2010 → 0 ≤ w_ei ws (w_ar ws (n_v vs 0) 160) j ∧ w_ei ws (w_ar ws (n_v vs 0) 160) j ≤ 4 := fun j h0 h1 => th_el hD hth cr_0_160 (kd := 0) (n := 2010) (m := 2010) (lo := 0) (hi := 4) (rs := []) (L := []) rfl (by decide) (j := j.toNat) (by omega)
  have kz_0_157 : 0 ≤ w_fi ws (n_v vs 0) 157 ∧ w_fi ws (n_v vs 0) 157 ≤ 2010 := tv_rng (th_fd hD hth r0 (g := GG_150) rfl (k := 157) (t := (0, 0, 2010, [])) rfl rfl)
  have kz_0_158 : 0 ≤ w_fi ws (n_v vs 0) 158 ∧ w_fi ws (n_v vs 0) 158 ≤ 2009 := tv_rng (th_fd hD hth r0 (g := GG_150) rfl (k := 158) (t := (0, 0, 2009, [])) rfl rfl)
  have kz_0_159 : 0 ≤ w_fi ws (n_v vs 0) 159 ∧ w_fi ws (n_v vs 0) 159 ≤ 13 := tv_rng (th_fd hD hth r0 (g := GG_150) rfl (k := 159) (t := (0, 0, 13, [])) rfl rfl)
  have kz_0_164 : 0 ≤ w_fi ws (n_v vs 0) 164 ∧ w_fi ws (n_v vs 0) 164 ≤ 1 := tv_rng (th_fd hD hth r0 (g := GG_150) rfl (k := 164) (t := (0, 0, 1, [])) rfl rfl)
  have kz_0_165 : (-1) ≤ w_fi ws (n_v vs 0) 165 ∧ w_fi ws (n_v vs 0) 165 ≤ 47 := tv_rng (th_fd hD hth r0 (g := GG_150) rfl (k := 165) (t := (0, -1, 47, [])) rfl rfl)
  have nf0 : fc_1 (20, [1, 0], [30, 0, 1, 0, 0, -1, 1, 158]) ws (vs) := by
    refine ⟨fun n hn => ?_, ?_⟩
    · have hn : n ∈ [1, 0] := hn
      rw [hl]
      simp only [List.mem_cons, List.not_mem_nil, or_false] at hn
      show n < 14; omega
    · show 1 * v_iv (n_v vs 1) + ((-1) * w_fi ws (n_v vs 0) 158 + 0) ≤ 0
      omega
  refine ⟨(fun _ h => (by cases h)), [], trivial, ?_, (fun _ h => (by cases h))⟩
  rw [List.append_nil]
  exact List.forall_mem_cons.mpr ⟨⟨show (20 : Nat) < 100 from by decide, nf0⟩, (fun _ h => (by cases h))⟩
def o_Mo_oneTest_f_17 (k : Int) : or_T := (58, 7, [(0, (2, 0, 0, [150])), (1, (0, 0, 2009, [])), (4, (0, 0, 0, [])), (6, (0, 1, 1, []))], [(8, [6], [1]), (20, [6, 0], [50, 1, 1, 1158, 1160, 4, 6, 1, 2, 1, 0, 0, 1, 1, 6, 3, 1, 160, 2, 1, 158, 0, 3]), (8, [4], [0]), (20, [0], [50, 2, 1, 158, 157, 160, 2, 12, 0, 7, 4, 3, 2, 0, 158, 0, 1, 2, 0, 157, 2, 7, 0, 3, 2, 0, 157, 0, 2010, 3, 14, 1, 10, 3, 0, 160, 5, 3, 2, 0, 157, 0, 1, 0, 0, 1, 10, 3, 0, 160, 5, 3, 2, 0, 157, 0, 1, 0, 4]), (20, [0, 1], [30, 0, 1, 1, 158, -1, 0, 0]), (20, [0, 1], [30, 0, -1, 1, 158, 1, 0, 0]), (20, [0], [50, 2, 0, 164, 165, 4, 7, 1, 3, 2, 0, 164, 0, 0, 0, 3, 2, 0, 165, 0, 23]), (20, [0], [30, k, 1, 1, 159]), (20, [0], [30, (-k), -1, 1, 159]), (20, [4, 0], [50, 1, 1, 1158, 1160, 4, 6, 1, 2, 1, 0, 0, 1, 1, 6, 3, 1, 160, 2, 1, 158, 0, 1])], [], [(0, 0, 2009, [])], [(20, [0], [50, 2, 1, 158, 157, 160, 2, 12, 0, 7, 4, 3, 2, 0, 158, 0, 1, 2, 0, 157, 2, 7, 0, 3, 2, 0, 157, 0, 2010, 3, 14, 1, 10, 3, 0, 160, 5, 3, 2, 0, 157, 0, 1, 0, 0, 1, 10, 3, 0, 160, 5, 3, 2, 0, 157, 0, 1, 0, 4]), (20, [0, 7], [30, 0, 1, 1, 158, -1, 0, 0]), (20, [0, 7], [30, 0, -1, 1, 158, 1, 0, 0]), (20, [0], [50, 1, 1, 158, 160, 7, 6, 3, 0, 160, 2, 0, 158, 0, 0]), (20, [0], [50, 1, 1, 158, 160, 7, 6, 3, 0, 160, 2, 0, 158, 0, 4]), (20, [0], [30, k, 1, 1, 159]), (20, [0], [30, (-k), -1, 1, 159]), (23, [1, 7], [0, 1, -1])], [], [])
theorem oo_Mo_oneTest_f_17 {kA : Nat → ClassId} (k : Int) (hk0 : 0 ≤ k) (hk1 : k ≤ 12) : or_ok kA GG (o_Mo_oneTest_f_17 k) := by
  intro A ta ws vs hD hth hl hk hds hf
  have hl : vs.length = 7 := hl
  have hk : ∀ q ∈ ([(0, (2, 0, 0, [150])), (1, (0, 0, 2009, [])), (4, (0, 0, 0, [])), (6, (0, 1, 1, []))] : List (Nat × tv_T)), tv_ok ta q.2 (n_v vs q.1) := hk
  obtain ⟨t0, hk⟩ := List.forall_mem_cons.mp hk
  have t0 : tv_ok ta (2, 0, 0, [150]) (n_v vs 0) := t0
  have r0 : ta (v_ad (n_v vs 0)) = some 150 := tv_rg t0
  obtain ⟨t1, hk⟩ := List.forall_mem_cons.mp hk
  have t1 : tv_ok ta (0, 0, 2009, []) (n_v vs 1) := t1
  have k1 : 0 ≤ v_iv (n_v vs 1) ∧ v_iv (n_v vs 1) ≤ 2009 := tv_rng t1
  obtain ⟨t4, hk⟩ := List.forall_mem_cons.mp hk
  have t4 : tv_ok ta (0, 0, 0, []) (n_v vs 4) := t4
  have k4 : 0 ≤ v_iv (n_v vs 4) ∧ v_iv (n_v vs 4) ≤ 0 := tv_rng t4
  obtain ⟨t6, hk⟩ := List.forall_mem_cons.mp hk
  have t6 : tv_ok ta (0, 1, 1, []) (n_v vs 6) := t6
  have k6 : 1 ≤ v_iv (n_v vs 6) ∧ v_iv (n_v vs 6) ≤ 1 := tv_rng t6
  have hf : fc_ok [(8, [6], [1]), (20, [6, 0], [50, 1, 1, 1158, 1160, 4, 6, 1, 2, 1, 0, 0, 1, 1, 6, 3, 1, 160, 2, 1, 158, 0, 3]), (8, [4], [0]), (20, [0], [50, 2, 1, 158, 157, 160, 2, 12, 0, 7, 4, 3, 2, 0, 158, 0, 1, 2, 0, 157, 2, 7, 0, 3, 2, 0, 157, 0, 2010, 3, 14, 1, 10, 3, 0, 160, 5, 3, 2, 0, 157, 0, 1, 0, 0, 1, 10, 3, 0, 160, 5, 3, 2, 0, 157, 0, 1, 0, 4]), (20, [0, 1], [30, 0, 1, 1, 158, -1, 0, 0]), (20, [0, 1], [30, 0, -1, 1, 158, 1, 0, 0]), (20, [0], [50, 2, 0, 164, 165, 4, 7, 1, 3, 2, 0, 164, 0, 0, 0, 3, 2, 0, 165, 0, 23]), (20, [0], [30, k, 1, 1, 159]), (20, [0], [30, (-k), -1, 1, 159]), (20, [4, 0], [50, 1, 1, 1158, 1160, 4, 6, 1, 2, 1, 0, 0, 1, 1, 6, 3, 1, 160, 2, 1, 158, 0, 1])] ta ws vs := hf
  obtain ⟨f0, hf⟩ := fc_un (show (8 : Nat) < 100 from by decide) hf
  have f0 : v_iv (n_v vs 6) ≠ 0 := f0
  obtain ⟨f1, hf⟩ := fc_un (show (20 : Nat) < 100 from by decide) hf
  have f1 : (v_iv (n_v vs 6) = 1) → (w_ei ws (w_ar ws (n_v vs 0) 160) (w_fi ws (n_v vs 0) 158) = 3) := f1
  obtain ⟨f2, hf⟩ := fc_un (show (8 : Nat) < 100 from by decide) hf
  have f2 : v_iv (n_v vs 4) = 0 := f2
  obtain ⟨f3, hf⟩ := fc_un (show (20 : Nat) < 100 from by decide) hf
  have f3 : ((w_fi ws (n_v vs 0) 158 + 1) ≤ w_fi ws (n_v vs 0) 157) ∧ ((w_fi ws (n_v vs 0) 157 ≤ 2010) ∧ ((w_ei ws (w_ar ws (n_v vs 0) 160) ((w_fi ws (n_v vs 0) 157 - 1)) = 0) ∨ (w_ei ws (w_ar ws (n_v vs 0) 160) ((w_fi ws (n_v vs 0) 157 - 1)) = 4))) := f3
  obtain ⟨f4, hf⟩ := fc_un (show (20 : Nat) < 100 from by decide) hf
  have f4 : 1 * w_fi ws (n_v vs 0) 158 + ((-1) * v_iv (n_v vs 1) + 0) ≤ 0 := f4
  obtain ⟨f5, hf⟩ := fc_un (show (20 : Nat) < 100 from by decide) hf
  have f5 : (-1) * w_fi ws (n_v vs 0) 158 + (1 * v_iv (n_v vs 1) + 0) ≤ 0 := f5
  obtain ⟨f6, hf⟩ := fc_un (show (20 : Nat) < 100 from by decide) hf
  have f6 : (w_fi ws (n_v vs 0) 164 = 0) → (w_fi ws (n_v vs 0) 165 ≤ 23) := f6
  obtain ⟨f7, hf⟩ := fc_un (show (20 : Nat) < 100 from by decide) hf
  have f7 : 1 * w_fi ws (n_v vs 0) 159 + 0 ≤ k := f7
  obtain ⟨f8, hf⟩ := fc_un (show (20 : Nat) < 100 from by decide) hf
  have f8 : (-1) * w_fi ws (n_v vs 0) 159 + 0 ≤ ((-k)) := f8
  obtain ⟨f9, hf⟩ := fc_un (show (20 : Nat) < 100 from by decide) hf
  have f9 : (v_iv (n_v vs 4) = 1) → (w_ei ws (w_ar ws (n_v vs 0) 160) (w_fi ws (n_v vs 0) 158) = 1) := f9
  have cr_0_160 : ta (w_ar ws (n_v vs 0) 160) = some 259 := tv_rg (th_fd hD hth r0 (g := GG_150) rfl (k := 160) (t := (2, 0, 0, [259])) rfl rfl)
  have hK_0_160 : ∀ j : Int, 0 ≤ j → j < 2010 → 0 ≤ w_ei ws (w_ar ws (n_v vs 0) 160) j ∧ w_ei ws (w_ar ws (n_v vs 0) 160) j ≤ 4 := fun j h0 h1 => th_el hD hth cr_0_160 (kd := 0) (n := 2010) (m := 2010) (lo := 0) (hi := 4) (rs := []) (L := []) rfl (by decide) (j := j.toNat) (by omega)
  have kz_0_157 : 0 ≤ w_fi ws (n_v vs 0) 157 ∧ w_fi ws (n_v vs 0) 157 ≤ 2010 := tv_rng (th_fd hD hth r0 (g := GG_150) rfl (k := 157) (t := (0, 0, 2010, [])) rfl rfl)
  have kz_0_158 : 0 ≤ w_fi ws (n_v vs 0) 158 ∧ w_fi ws (n_v vs 0) 158 ≤ 2009 := tv_rng (th_fd hD hth r0 (g := GG_150) rfl (k := 158) (t := (0, 0, 2009, [])) rfl rfl)
  have kz_0_159 : 0 ≤ w_fi ws (n_v vs 0) 159 ∧ w_fi ws (n_v vs 0) 159 ≤ 13 := tv_rng (th_fd hD hth r0 (g := GG_150) rfl (k := 159) (t := (0, 0, 13, [])) rfl rfl)
  have kz_0_164 : 0 ≤ w_fi ws (n_v vs 0) 164 ∧ w_fi ws (n_v vs 0) 164 ≤ 1 := tv_rng (th_fd hD hth r0 (g := GG_150) rfl (k := 164) (t := (0, 0, 1, [])) rfl rfl)
  have kz_0_165 : (-1) ≤ w_fi ws (n_v vs 0) 165 ∧ w_fi ws (n_v vs 0) 165 ≤ 47 := tv_rng (th_fd hD hth r0 (g := GG_150) rfl (k := 165) (t := (0, -1, 47, [])) rfl rfl)
  have kv0 : 0 ≤ w_fi ws (n_v vs 0) 158 ∧ w_fi ws (n_v vs 0) 158 ≤ 2009 := tv_rng (th_fd hD hth r0 (g := GG_150) rfl (k := 158) (t := (0, 0, 2009, [])) rfl rfl)
  obtain ⟨x, ex, hx⟩ := iv_ex (ta := ta) (lo := 0) (hi := 2009) (z := w_fi ws (n_v vs 0) 158) (by omega) (by omega) (by omega) (by omega)
  have ex2 : v_iv (Value.int x) = w_fi ws (n_v vs 0) 158 := ex
  have ex3 : 0 ≤ v_iv (Value.int x) ∧ v_iv (Value.int x) ≤ 2009 := tv_rng hx
  have e_0 : n_v (vs ++ [Value.int x]) 0 = n_v vs 0 := n_v_old (by rw [hl]; decide)
  have e_1 : n_v (vs ++ [Value.int x]) 1 = n_v vs 1 := n_v_old (by rw [hl]; decide)
  have e_7 : n_v (vs ++ [Value.int x]) 7 = Value.int x := n_v_new hl
  have nf0 : fc_1 (20, [0], [50, 2, 1, 158, 157, 160, 2, 12, 0, 7, 4, 3, 2, 0, 158, 0, 1, 2, 0, 157, 2, 7, 0, 3, 2, 0, 157, 0, 2010, 3, 14, 1, 10, 3, 0, 160, 5, 3, 2, 0, 157, 0, 1, 0, 0, 1, 10, 3, 0, 160, 5, 3, 2, 0, 157, 0, 1, 0, 4]) ws (vs ++ [Value.int x]) := by
    refine ⟨fun n hn => ?_, ?_⟩
    · have hn : n ∈ [0] := hn
      rw [List.length_append, hl]
      simp only [List.mem_cons, List.not_mem_nil, or_false] at hn
      show n < 7 + 1; omega
    · show ((w_fi ws (n_v (vs ++ [Value.int x]) 0) 158 + 1) ≤ w_fi ws (n_v (vs ++ [Value.int x]) 0) 157) ∧ ((w_fi ws (n_v (vs ++ [Value.int x]) 0) 157 ≤ 2010) ∧ ((w_ei ws (w_ar ws (n_v (vs ++ [Value.int x]) 0) 160) ((w_fi ws (n_v (vs ++ [Value.int x]) 0) 157 - 1)) = 0) ∨ (w_ei ws (w_ar ws (n_v (vs ++ [Value.int x]) 0) 160) ((w_fi ws (n_v (vs ++ [Value.int x]) 0) 157 - 1)) = 4)))
      rw [e_0]
      first | omega | grind
  have nf1 : fc_1 (20, [0, 7], [30, 0, 1, 1, 158, -1, 0, 0]) ws (vs ++ [Value.int x]) := by
    refine ⟨fun n hn => ?_, ?_⟩
    · have hn : n ∈ [0, 7] := hn
      rw [List.length_append, hl]
      simp only [List.mem_cons, List.not_mem_nil, or_false] at hn
      show n < 7 + 1; omega
    · show 1 * w_fi ws (n_v (vs ++ [Value.int x]) 0) 158 + ((-1) * v_iv (n_v (vs ++ [Value.int x]) 7) + 0) ≤ 0
      rw [e_0]
      rw [e_7]
      omega
  have nf2 : fc_1 (20, [0, 7], [30, 0, -1, 1, 158, 1, 0, 0]) ws (vs ++ [Value.int x]) := by
    refine ⟨fun n hn => ?_, ?_⟩
    · have hn : n ∈ [0, 7] := hn
      rw [List.length_append, hl]
      simp only [List.mem_cons, List.not_mem_nil, or_false] at hn
      show n < 7 + 1; omega
    · show (-1) * w_fi ws (n_v (vs ++ [Value.int x]) 0) 158 + (1 * v_iv (n_v (vs ++ [Value.int x]) 7) + 0) ≤ 0
      rw [e_0]
      rw [e_7]
      omega
  have nf3 : fc_1 (20, [0], [50, 1, 1, 158, 160, 7, 6, 3, 0, 160, 2, 0, 158, 0, 0]) ws (vs ++ [Value.int x]) := by
    refine ⟨fun n hn => ?_, ?_⟩
    · have hn : n ∈ [0] := hn
      rw [List.length_append, hl]
      simp only [List.mem_cons, List.not_mem_nil, or_false] at hn
      show n < 7 + 1; omega
    · show w_ei ws (w_ar ws (n_v (vs ++ [Value.int x]) 0) 160) (w_fi ws (n_v (vs ++ [Value.int x]) 0) 158) ≠ 0
      rw [e_0]
      first | omega | grind
  have nf4 : fc_1 (20, [0], [50, 1, 1, 158, 160, 7, 6, 3, 0, 160, 2, 0, 158, 0, 4]) ws (vs ++ [Value.int x]) := by
    refine ⟨fun n hn => ?_, ?_⟩
    · have hn : n ∈ [0] := hn
      rw [List.length_append, hl]
      simp only [List.mem_cons, List.not_mem_nil, or_false] at hn
      show n < 7 + 1; omega
    · show w_ei ws (w_ar ws (n_v (vs ++ [Value.int x]) 0) 160) (w_fi ws (n_v (vs ++ [Value.int x]) 0) 158) ≠ 4
      rw [e_0]
      first | omega | grind
  have nf5 : fc_1 (20, [0], [30, k, 1, 1, 159]) ws (vs ++ [Value.int x]) := by
    refine ⟨fun n hn => ?_, ?_⟩
    · have hn : n ∈ [0] := hn
      rw [List.length_append, hl]
      simp only [List.mem_cons, List.not_mem_nil, or_false] at hn
      show n < 7 + 1; omega
    · show 1 * w_fi ws (n_v (vs ++ [Value.int x]) 0) 159 + 0 ≤ k
      rw [e_0]
      omega
  have nf6 : fc_1 (20, [0], [30, (-k), -1, 1, 159]) ws (vs ++ [Value.int x]) := by
    refine ⟨fun n hn => ?_, ?_⟩
    · have hn : n ∈ [0] := hn
      rw [List.length_append, hl]
      simp only [List.mem_cons, List.not_mem_nil, or_false] at hn
      show n < 7 + 1; omega
    · show (-1) * w_fi ws (n_v (vs ++ [Value.int x]) 0) 159 + 0 ≤ ((-k))
      rw [e_0]
      omega
  have nf7 : fc_1 (23, [1, 7], [0, 1, -1]) ws (vs ++ [Value.int x]) := by
    refine ⟨fun n hn => ?_, ?_⟩
    · have hn : n ∈ [1, 7] := hn
      rw [List.length_append, hl]
      simp only [List.mem_cons, List.not_mem_nil, or_false] at hn
      show n < 7 + 1; omega
    · show 1 * v_iv (n_v (vs ++ [Value.int x]) 1) + ((-1) * v_iv (n_v (vs ++ [Value.int x]) 7) + 0) ≤ 0
      rw [e_1]
      rw [e_7]
      omega
  exact ⟨(fun _ h => (by cases h)), [Value.int x], ag_one hx, List.forall_mem_cons.mpr ⟨⟨show (20 : Nat) < 100 from by decide, nf0⟩, List.forall_mem_cons.mpr ⟨⟨show (20 : Nat) < 100 from by decide, nf1⟩, List.forall_mem_cons.mpr ⟨⟨show (20 : Nat) < 100 from by decide, nf2⟩, List.forall_mem_cons.mpr ⟨⟨show (20 : Nat) < 100 from by decide, nf3⟩, List.forall_mem_cons.mpr ⟨⟨show (20 : Nat) < 100 from by decide, nf4⟩, List.forall_mem_cons.mpr ⟨⟨show (20 : Nat) < 100 from by decide, nf5⟩, List.forall_mem_cons.mpr ⟨⟨show (20 : Nat) < 100 from by decide, nf6⟩, List.forall_mem_cons.mpr ⟨⟨show (23 : Nat) < 100 from by decide, nf7⟩, (fun _ h => (by cases h))⟩⟩⟩⟩⟩⟩⟩⟩, (fun _ h => (by cases h))⟩
def o_Mo_oneTest_f_18 (k : Int) : or_T := (62, 10, [(0, (2, 0, 0, [150])), (1, (0, 0, 2009, [])), (7, (0, 0, 2009, []))], [(23, [1, 7], [0, 1, -1]), (20, [0], [50, 2, 0, 164, 165, 4, 7, 1, 3, 2, 0, 164, 0, 0, 0, 3, 2, 0, 165, 0, 23]), (20, [0], [50, 2, 1, 158, 157, 160, 2, 12, 0, 7, 4, 3, 2, 0, 158, 0, 1, 2, 0, 157, 2, 7, 0, 3, 2, 0, 157, 0, 2010, 3, 14, 1, 10, 3, 0, 160, 5, 3, 2, 0, 157, 0, 1, 0, 0, 1, 10, 3, 0, 160, 5, 3, 2, 0, 157, 0, 1, 0, 4]), (20, [7, 0], [30, -1, 1, 0, 0, -1, 1, 158]), (20, [0], [30, (k + 1), 1, 1, 159]), (20, [0], [30, (-k - 1), -1, 1, 159]), (102, [7], [0, 13008, 13009, 13158, 13159]), (23, [1, 7], [0, 1, -1])], [], [(0, 0, 2009, [])], [(20, [0], [50, 2, 1, 158, 157, 160, 2, 12, 0, 7, 4, 3, 2, 0, 158, 0, 1, 2, 0, 157, 2, 7, 0, 3, 2, 0, 157, 0, 2010, 3, 14, 1, 10, 3, 0, 160, 5, 3, 2, 0, 157, 0, 1, 0, 0, 1, 10, 3, 0, 160, 5, 3, 2, 0, 157, 0, 1, 0, 4]), (20, [0, 10], [30, 0, 1, 1, 158, -1, 0, 0]), (20, [0, 10], [30, 0, -1, 1, 158, 1, 0, 0]), (20, [0], [50, 2, 0, 164, 165, 4, 7, 1, 3, 2, 0, 164, 0, 0, 0, 3, 2, 0, 165, 0, 23]), (20, [0], [30, (k + 1), 1, 1, 159]), (20, [0], [30, (-k - 1), -1, 1, 159]), (23, [1, 10], [0, 1, -1])], [], [])
theorem oo_Mo_oneTest_f_18 {kA : Nat → ClassId} (k : Int) (hk0 : 0 ≤ k) (hk1 : k ≤ 12) : or_ok kA GG (o_Mo_oneTest_f_18 k) := by
  intro A ta ws vs hD hth hl hk hds hf
  have hl : vs.length = 10 := hl
  have hk : ∀ q ∈ ([(0, (2, 0, 0, [150])), (1, (0, 0, 2009, [])), (7, (0, 0, 2009, []))] : List (Nat × tv_T)), tv_ok ta q.2 (n_v vs q.1) := hk
  obtain ⟨t0, hk⟩ := List.forall_mem_cons.mp hk
  have t0 : tv_ok ta (2, 0, 0, [150]) (n_v vs 0) := t0
  have r0 : ta (v_ad (n_v vs 0)) = some 150 := tv_rg t0
  obtain ⟨t1, hk⟩ := List.forall_mem_cons.mp hk
  have t1 : tv_ok ta (0, 0, 2009, []) (n_v vs 1) := t1
  have k1 : 0 ≤ v_iv (n_v vs 1) ∧ v_iv (n_v vs 1) ≤ 2009 := tv_rng t1
  obtain ⟨t7, hk⟩ := List.forall_mem_cons.mp hk
  have t7 : tv_ok ta (0, 0, 2009, []) (n_v vs 7) := t7
  have k7 : 0 ≤ v_iv (n_v vs 7) ∧ v_iv (n_v vs 7) ≤ 2009 := tv_rng t7
  have hf : fc_ok [(23, [1, 7], [0, 1, -1]), (20, [0], [50, 2, 0, 164, 165, 4, 7, 1, 3, 2, 0, 164, 0, 0, 0, 3, 2, 0, 165, 0, 23]), (20, [0], [50, 2, 1, 158, 157, 160, 2, 12, 0, 7, 4, 3, 2, 0, 158, 0, 1, 2, 0, 157, 2, 7, 0, 3, 2, 0, 157, 0, 2010, 3, 14, 1, 10, 3, 0, 160, 5, 3, 2, 0, 157, 0, 1, 0, 0, 1, 10, 3, 0, 160, 5, 3, 2, 0, 157, 0, 1, 0, 4]), (20, [7, 0], [30, -1, 1, 0, 0, -1, 1, 158]), (20, [0], [30, (k + 1), 1, 1, 159]), (20, [0], [30, (-k - 1), -1, 1, 159]), (102, [7], [0, 13008, 13009, 13158, 13159]), (23, [1, 7], [0, 1, -1])] ta ws vs := hf
  obtain ⟨f0, hf⟩ := fc_un (show (23 : Nat) < 100 from by decide) hf
  have f0 : 1 * v_iv (n_v vs 1) + ((-1) * v_iv (n_v vs 7) + 0) ≤ 0 := f0
  obtain ⟨f1, hf⟩ := fc_un (show (20 : Nat) < 100 from by decide) hf
  have f1 : (w_fi ws (n_v vs 0) 164 = 0) → (w_fi ws (n_v vs 0) 165 ≤ 23) := f1
  obtain ⟨f2, hf⟩ := fc_un (show (20 : Nat) < 100 from by decide) hf
  have f2 : ((w_fi ws (n_v vs 0) 158 + 1) ≤ w_fi ws (n_v vs 0) 157) ∧ ((w_fi ws (n_v vs 0) 157 ≤ 2010) ∧ ((w_ei ws (w_ar ws (n_v vs 0) 160) ((w_fi ws (n_v vs 0) 157 - 1)) = 0) ∨ (w_ei ws (w_ar ws (n_v vs 0) 160) ((w_fi ws (n_v vs 0) 157 - 1)) = 4))) := f2
  obtain ⟨f3, hf⟩ := fc_un (show (20 : Nat) < 100 from by decide) hf
  have f3 : 1 * v_iv (n_v vs 7) + ((-1) * w_fi ws (n_v vs 0) 158 + 0) ≤ (-1) := f3
  obtain ⟨f4, hf⟩ := fc_un (show (20 : Nat) < 100 from by decide) hf
  have f4 : 1 * w_fi ws (n_v vs 0) 159 + 0 ≤ (k + 1) := f4
  obtain ⟨f5, hf⟩ := fc_un (show (20 : Nat) < 100 from by decide) hf
  have f5 : (-1) * w_fi ws (n_v vs 0) 159 + 0 ≤ ((-k - 1)) := f5
  obtain ⟨ta1, w1, le1, ⟨_, s1⟩, hf⟩ := fc_us (show ¬ (102 : Nat) < 100 from by decide) hf
  obtain ⟨f7, hf⟩ := fc_un (show (23 : Nat) < 100 from by decide) hf
  have f7 : 1 * v_iv (n_v vs 1) + ((-1) * v_iv (n_v vs 7) + 0) ≤ 0 := f7
  have cr_0_160 : ta (w_ar ws (n_v vs 0) 160) = some 259 := tv_rg (th_fd hD hth r0 (g := GG_150) rfl (k := 160) (t := (2, 0, 0, [259])) rfl rfl)
  have hK_0_160 : ∀ j : Int, 0 ≤ j → j < 2010 → 0 ≤ w_ei ws (w_ar ws (n_v vs 0) 160) j ∧ w_ei ws (w_ar ws (n_v vs 0) 160) j ≤ 4 := fun j h0 h1 => th_el hD hth cr_0_160 (kd := 0) (n := 2010) (m := 2010) (lo := 0) (hi := 4) (rs := []) (L := []) rfl (by decide) (j := j.toNat) (by omega)
  have kz_0_157 : 0 ≤ w_fi ws (n_v vs 0) 157 ∧ w_fi ws (n_v vs 0) 157 ≤ 2010 := tv_rng (th_fd hD hth r0 (g := GG_150) rfl (k := 157) (t := (0, 0, 2010, [])) rfl rfl)
  have kz_0_158 : 0 ≤ w_fi ws (n_v vs 0) 158 ∧ w_fi ws (n_v vs 0) 158 ≤ 2009 := tv_rng (th_fd hD hth r0 (g := GG_150) rfl (k := 158) (t := (0, 0, 2009, [])) rfl rfl)
  have kz_0_159 : 0 ≤ w_fi ws (n_v vs 0) 159 ∧ w_fi ws (n_v vs 0) 159 ≤ 13 := tv_rng (th_fd hD hth r0 (g := GG_150) rfl (k := 159) (t := (0, 0, 13, [])) rfl rfl)
  have kz_0_164 : 0 ≤ w_fi ws (n_v vs 0) 164 ∧ w_fi ws (n_v vs 0) 164 ≤ 1 := tv_rng (th_fd hD hth r0 (g := GG_150) rfl (k := 164) (t := (0, 0, 1, [])) rfl rfl)
  have kz_0_165 : (-1) ≤ w_fi ws (n_v vs 0) 165 ∧ w_fi ws (n_v vs 0) 165 ≤ 47 := tv_rng (th_fd hD hth r0 (g := GG_150) rfl (k := 165) (t := (0, -1, 47, [])) rfl rfl)
  have kv0 : 0 ≤ w_fi ws (n_v vs 0) 158 ∧ w_fi ws (n_v vs 0) 158 ≤ 2009 := tv_rng (th_fd hD hth r0 (g := GG_150) rfl (k := 158) (t := (0, 0, 2009, [])) rfl rfl)
  obtain ⟨x, ex, hx⟩ := iv_ex (ta := ta) (lo := 0) (hi := 2009) (z := w_fi ws (n_v vs 0) 158) (by omega) (by omega) (by omega) (by omega)
  have ex2 : v_iv (Value.int x) = w_fi ws (n_v vs 0) 158 := ex
  have ex3 : 0 ≤ v_iv (Value.int x) ∧ v_iv (Value.int x) ≤ 2009 := tv_rng hx
  have e_0 : n_v (vs ++ [Value.int x]) 0 = n_v vs 0 := n_v_old (by rw [hl]; decide)
  have e_1 : n_v (vs ++ [Value.int x]) 1 = n_v vs 1 := n_v_old (by rw [hl]; decide)
  have e_10 : n_v (vs ++ [Value.int x]) 10 = Value.int x := n_v_new hl
  have nf0 : fc_1 (20, [0], [50, 2, 1, 158, 157, 160, 2, 12, 0, 7, 4, 3, 2, 0, 158, 0, 1, 2, 0, 157, 2, 7, 0, 3, 2, 0, 157, 0, 2010, 3, 14, 1, 10, 3, 0, 160, 5, 3, 2, 0, 157, 0, 1, 0, 0, 1, 10, 3, 0, 160, 5, 3, 2, 0, 157, 0, 1, 0, 4]) ws (vs ++ [Value.int x]) := by
    refine ⟨fun n hn => ?_, ?_⟩
    · have hn : n ∈ [0] := hn
      rw [List.length_append, hl]
      simp only [List.mem_cons, List.not_mem_nil, or_false] at hn
      show n < 10 + 1; omega
    · show ((w_fi ws (n_v (vs ++ [Value.int x]) 0) 158 + 1) ≤ w_fi ws (n_v (vs ++ [Value.int x]) 0) 157) ∧ ((w_fi ws (n_v (vs ++ [Value.int x]) 0) 157 ≤ 2010) ∧ ((w_ei ws (w_ar ws (n_v (vs ++ [Value.int x]) 0) 160) ((w_fi ws (n_v (vs ++ [Value.int x]) 0) 157 - 1)) = 0) ∨ (w_ei ws (w_ar ws (n_v (vs ++ [Value.int x]) 0) 160) ((w_fi ws (n_v (vs ++ [Value.int x]) 0) 157 - 1)) = 4)))
      rw [e_0]
      first | omega | grind
  have nf1 : fc_1 (20, [0, 10], [30, 0, 1, 1, 158, -1, 0, 0]) ws (vs ++ [Value.int x]) := by
    refine ⟨fun n hn => ?_, ?_⟩
    · have hn : n ∈ [0, 10] := hn
      rw [List.length_append, hl]
      simp only [List.mem_cons, List.not_mem_nil, or_false] at hn
      show n < 10 + 1; omega
    · show 1 * w_fi ws (n_v (vs ++ [Value.int x]) 0) 158 + ((-1) * v_iv (n_v (vs ++ [Value.int x]) 10) + 0) ≤ 0
      rw [e_0]
      rw [e_10]
      omega
  have nf2 : fc_1 (20, [0, 10], [30, 0, -1, 1, 158, 1, 0, 0]) ws (vs ++ [Value.int x]) := by
    refine ⟨fun n hn => ?_, ?_⟩
    · have hn : n ∈ [0, 10] := hn
      rw [List.length_append, hl]
      simp only [List.mem_cons, List.not_mem_nil, or_false] at hn
      show n < 10 + 1; omega
    · show (-1) * w_fi ws (n_v (vs ++ [Value.int x]) 0) 158 + (1 * v_iv (n_v (vs ++ [Value.int x]) 10) + 0) ≤ 0
      rw [e_0]
      rw [e_10]
      omega
  have nf3 : fc_1 (20, [0], [50, 2, 0, 164, 165, 4, 7, 1, 3, 2, 0, 164, 0, 0, 0, 3, 2, 0, 165, 0, 23]) ws (vs ++ [Value.int x]) := by
    refine ⟨fun n hn => ?_, ?_⟩
    · have hn : n ∈ [0] := hn
      rw [List.length_append, hl]
      simp only [List.mem_cons, List.not_mem_nil, or_false] at hn
      show n < 10 + 1; omega
    · show (w_fi ws (n_v (vs ++ [Value.int x]) 0) 164 = 0) → (w_fi ws (n_v (vs ++ [Value.int x]) 0) 165 ≤ 23)
      rw [e_0]
      first | omega | grind
  have nf4 : fc_1 (20, [0], [30, (k + 1), 1, 1, 159]) ws (vs ++ [Value.int x]) := by
    refine ⟨fun n hn => ?_, ?_⟩
    · have hn : n ∈ [0] := hn
      rw [List.length_append, hl]
      simp only [List.mem_cons, List.not_mem_nil, or_false] at hn
      show n < 10 + 1; omega
    · show 1 * w_fi ws (n_v (vs ++ [Value.int x]) 0) 159 + 0 ≤ (k + 1)
      rw [e_0]
      omega
  have nf5 : fc_1 (20, [0], [30, (-k - 1), -1, 1, 159]) ws (vs ++ [Value.int x]) := by
    refine ⟨fun n hn => ?_, ?_⟩
    · have hn : n ∈ [0] := hn
      rw [List.length_append, hl]
      simp only [List.mem_cons, List.not_mem_nil, or_false] at hn
      show n < 10 + 1; omega
    · show (-1) * w_fi ws (n_v (vs ++ [Value.int x]) 0) 159 + 0 ≤ ((-k - 1))
      rw [e_0]
      omega
  have nf6 : fc_1 (23, [1, 10], [0, 1, -1]) ws (vs ++ [Value.int x]) := by
    refine ⟨fun n hn => ?_, ?_⟩
    · have hn : n ∈ [1, 10] := hn
      rw [List.length_append, hl]
      simp only [List.mem_cons, List.not_mem_nil, or_false] at hn
      show n < 10 + 1; omega
    · show 1 * v_iv (n_v (vs ++ [Value.int x]) 1) + ((-1) * v_iv (n_v (vs ++ [Value.int x]) 10) + 0) ≤ 0
      rw [e_1]
      rw [e_10]
      omega
  exact ⟨(fun _ h => (by cases h)), [Value.int x], ag_one hx, List.forall_mem_cons.mpr ⟨⟨show (20 : Nat) < 100 from by decide, nf0⟩, List.forall_mem_cons.mpr ⟨⟨show (20 : Nat) < 100 from by decide, nf1⟩, List.forall_mem_cons.mpr ⟨⟨show (20 : Nat) < 100 from by decide, nf2⟩, List.forall_mem_cons.mpr ⟨⟨show (20 : Nat) < 100 from by decide, nf3⟩, List.forall_mem_cons.mpr ⟨⟨show (20 : Nat) < 100 from by decide, nf4⟩, List.forall_mem_cons.mpr ⟨⟨show (20 : Nat) < 100 from by decide, nf5⟩, List.forall_mem_cons.mpr ⟨⟨show (23 : Nat) < 100 from by decide, nf6⟩, (fun _ h => (by cases h))⟩⟩⟩⟩⟩⟩⟩, (fun _ h => (by cases h))⟩
def o_Mo_oneTest_f_19 (k : Int) : or_T := (69, 13, [(0, (2, 0, 0, [150])), (1, (0, 0, 2009, [])), (7, (0, 0, 2009, [])), (10, (0, 0, 2009, []))], [(20, [0], [50, 2, 0, 164, 165, 4, 7, 1, 3, 2, 0, 164, 0, 0, 0, 3, 2, 0, 165, 0, 23]), (23, [1, 10], [0, 1, -1]), (23, [1, 7], [0, 1, -1]), (20, [0], [50, 2, 0, 164, 165, 4, 7, 1, 3, 2, 0, 164, 0, 0, 0, 3, 2, 0, 165, 0, 23]), (20, [0], [50, 2, 1, 158, 157, 160, 2, 12, 0, 7, 4, 3, 2, 0, 158, 0, 1, 2, 0, 157, 2, 7, 0, 3, 2, 0, 157, 0, 2010, 3, 14, 1, 10, 3, 0, 160, 5, 3, 2, 0, 157, 0, 1, 0, 0, 1, 10, 3, 0, 160, 5, 3, 2, 0, 157, 0, 1, 0, 4]), (20, [10, 0], [30, 0, 1, 0, 0, -1, 1, 158]), (20, [0], [30, (k + 1), 1, 1, 159]), (20, [0], [30, (-k - 1), -1, 1, 159]), (102, [10], [0, 13008, 13009, 13158, 13159]), (23, [1, 10], [0, 1, -1]), (23, [1, 7], [0, 1, -1]), (102, [7], [0, 13008, 13009, 13158, 13159]), (23, [1, 7], [0, 1, -1])], [], [(0, 0, 2009, [])], [(20, [0], [50, 2, 1, 158, 157, 160, 2, 12, 0, 7, 4, 3, 2, 0, 158, 0, 1, 2, 0, 157, 2, 7, 0, 3, 2, 0, 157, 0, 2010, 3, 14, 1, 10, 3, 0, 160, 5, 3, 2, 0, 157, 0, 1, 0, 0, 1, 10, 3, 0, 160, 5, 3, 2, 0, 157, 0, 1, 0, 4]), (20, [0, 13], [30, 0, 1, 1, 158, -1, 0, 0]), (20, [0, 13], [30, 0, -1, 1, 158, 1, 0, 0]), (23, [1, 13], [0, 1, -1])], [], [])
theorem oo_Mo_oneTest_f_19 {kA : Nat → ClassId} (k : Int) (hk0 : 0 ≤ k) (hk1 : k ≤ 12) : or_ok kA GG (o_Mo_oneTest_f_19 k) := by
  intro A ta ws vs hD hth hl hk hds hf
  have hl : vs.length = 13 := hl
  have hk : ∀ q ∈ ([(0, (2, 0, 0, [150])), (1, (0, 0, 2009, [])), (7, (0, 0, 2009, [])), (10, (0, 0, 2009, []))] : List (Nat × tv_T)), tv_ok ta q.2 (n_v vs q.1) := hk
  obtain ⟨t0, hk⟩ := List.forall_mem_cons.mp hk
  have t0 : tv_ok ta (2, 0, 0, [150]) (n_v vs 0) := t0
  have r0 : ta (v_ad (n_v vs 0)) = some 150 := tv_rg t0
  obtain ⟨t1, hk⟩ := List.forall_mem_cons.mp hk
  have t1 : tv_ok ta (0, 0, 2009, []) (n_v vs 1) := t1
  have k1 : 0 ≤ v_iv (n_v vs 1) ∧ v_iv (n_v vs 1) ≤ 2009 := tv_rng t1
  obtain ⟨t7, hk⟩ := List.forall_mem_cons.mp hk
  have t7 : tv_ok ta (0, 0, 2009, []) (n_v vs 7) := t7
  have k7 : 0 ≤ v_iv (n_v vs 7) ∧ v_iv (n_v vs 7) ≤ 2009 := tv_rng t7
  obtain ⟨t10, hk⟩ := List.forall_mem_cons.mp hk
  have t10 : tv_ok ta (0, 0, 2009, []) (n_v vs 10) := t10
  have k10 : 0 ≤ v_iv (n_v vs 10) ∧ v_iv (n_v vs 10) ≤ 2009 := tv_rng t10
  have hf : fc_ok [(20, [0], [50, 2, 0, 164, 165, 4, 7, 1, 3, 2, 0, 164, 0, 0, 0, 3, 2, 0, 165, 0, 23]), (23, [1, 10], [0, 1, -1]), (23, [1, 7], [0, 1, -1]), (20, [0], [50, 2, 0, 164, 165, 4, 7, 1, 3, 2, 0, 164, 0, 0, 0, 3, 2, 0, 165, 0, 23]), (20, [0], [50, 2, 1, 158, 157, 160, 2, 12, 0, 7, 4, 3, 2, 0, 158, 0, 1, 2, 0, 157, 2, 7, 0, 3, 2, 0, 157, 0, 2010, 3, 14, 1, 10, 3, 0, 160, 5, 3, 2, 0, 157, 0, 1, 0, 0, 1, 10, 3, 0, 160, 5, 3, 2, 0, 157, 0, 1, 0, 4]), (20, [10, 0], [30, 0, 1, 0, 0, -1, 1, 158]), (20, [0], [30, (k + 1), 1, 1, 159]), (20, [0], [30, (-k - 1), -1, 1, 159]), (102, [10], [0, 13008, 13009, 13158, 13159]), (23, [1, 10], [0, 1, -1]), (23, [1, 7], [0, 1, -1]), (102, [7], [0, 13008, 13009, 13158, 13159]), (23, [1, 7], [0, 1, -1])] ta ws vs := hf
  obtain ⟨f0, hf⟩ := fc_un (show (20 : Nat) < 100 from by decide) hf
  have f0 : (w_fi ws (n_v vs 0) 164 = 0) → (w_fi ws (n_v vs 0) 165 ≤ 23) := f0
  obtain ⟨f1, hf⟩ := fc_un (show (23 : Nat) < 100 from by decide) hf
  have f1 : 1 * v_iv (n_v vs 1) + ((-1) * v_iv (n_v vs 10) + 0) ≤ 0 := f1
  obtain ⟨f2, hf⟩ := fc_un (show (23 : Nat) < 100 from by decide) hf
  have f2 : 1 * v_iv (n_v vs 1) + ((-1) * v_iv (n_v vs 7) + 0) ≤ 0 := f2
  obtain ⟨f3, hf⟩ := fc_un (show (20 : Nat) < 100 from by decide) hf
  have f3 : (w_fi ws (n_v vs 0) 164 = 0) → (w_fi ws (n_v vs 0) 165 ≤ 23) := f3
  obtain ⟨f4, hf⟩ := fc_un (show (20 : Nat) < 100 from by decide) hf
  have f4 : ((w_fi ws (n_v vs 0) 158 + 1) ≤ w_fi ws (n_v vs 0) 157) ∧ ((w_fi ws (n_v vs 0) 157 ≤ 2010) ∧ ((w_ei ws (w_ar ws (n_v vs 0) 160) ((w_fi ws (n_v vs 0) 157 - 1)) = 0) ∨ (w_ei ws (w_ar ws (n_v vs 0) 160) ((w_fi ws (n_v vs 0) 157 - 1)) = 4))) := f4
  obtain ⟨f5, hf⟩ := fc_un (show (20 : Nat) < 100 from by decide) hf
  have f5 : 1 * v_iv (n_v vs 10) + ((-1) * w_fi ws (n_v vs 0) 158 + 0) ≤ 0 := f5
  obtain ⟨f6, hf⟩ := fc_un (show (20 : Nat) < 100 from by decide) hf
  have f6 : 1 * w_fi ws (n_v vs 0) 159 + 0 ≤ (k + 1) := f6
  obtain ⟨f7, hf⟩ := fc_un (show (20 : Nat) < 100 from by decide) hf
  have f7 : (-1) * w_fi ws (n_v vs 0) 159 + 0 ≤ ((-k - 1)) := f7
  obtain ⟨ta1, w1, le1, ⟨_, s1⟩, hf⟩ := fc_us (show ¬ (102 : Nat) < 100 from by decide) hf
  obtain ⟨f9, hf⟩ := fc_un (show (23 : Nat) < 100 from by decide) hf
  have f9 : 1 * v_iv (n_v vs 1) + ((-1) * v_iv (n_v vs 10) + 0) ≤ 0 := f9
  obtain ⟨f10, hf⟩ := fc_un (show (23 : Nat) < 100 from by decide) hf
  have f10 : 1 * v_iv (n_v vs 1) + ((-1) * v_iv (n_v vs 7) + 0) ≤ 0 := f10
  obtain ⟨ta2, w2, le2, ⟨_, s2⟩, hf⟩ := fc_us (show ¬ (102 : Nat) < 100 from by decide) hf
  obtain ⟨f12, hf⟩ := fc_un (show (23 : Nat) < 100 from by decide) hf
  have f12 : 1 * v_iv (n_v vs 1) + ((-1) * v_iv (n_v vs 7) + 0) ≤ 0 := f12
  have cr_0_160 : ta (w_ar ws (n_v vs 0) 160) = some 259 := tv_rg (th_fd hD hth r0 (g := GG_150) rfl (k := 160) (t := (2, 0, 0, [259])) rfl rfl)
  have hK_0_160 : ∀ j : Int, 0 ≤ j → j < 2010 → 0 ≤ w_ei ws (w_ar ws (n_v vs 0) 160) j ∧ w_ei ws (w_ar ws (n_v vs 0) 160) j ≤ 4 := fun j h0 h1 => th_el hD hth cr_0_160 (kd := 0) (n := 2010) (m := 2010) (lo := 0) (hi := 4) (rs := []) (L := []) rfl (by decide) (j := j.toNat) (by omega)
  have kz_0_157 : 0 ≤ w_fi ws (n_v vs 0) 157 ∧ w_fi ws (n_v vs 0) 157 ≤ 2010 := tv_rng (th_fd hD hth r0 (g := GG_150) rfl (k := 157) (t := (0, 0, 2010, [])) rfl rfl)
  have kz_0_158 : 0 ≤ w_fi ws (n_v vs 0) 158 ∧ w_fi ws (n_v vs 0) 158 ≤ 2009 := tv_rng (th_fd hD hth r0 (g := GG_150) rfl (k := 158) (t := (0, 0, 2009, [])) rfl rfl)
  have kz_0_159 : 0 ≤ w_fi ws (n_v vs 0) 159 ∧ w_fi ws (n_v vs 0) 159 ≤ 13 := tv_rng (th_fd hD hth r0 (g := GG_150) rfl (k := 159) (t := (0, 0, 13, [])) rfl rfl)
  have kz_0_164 : 0 ≤ w_fi ws (n_v vs 0) 164 ∧ w_fi ws (n_v vs 0) 164 ≤ 1 := tv_rng (th_fd hD hth r0 (g := GG_150) rfl (k := 164) (t := (0, 0, 1, [])) rfl rfl)
  have kz_0_165 : (-1) ≤ w_fi ws (n_v vs 0) 165 ∧ w_fi ws (n_v vs 0) 165 ≤ 47 := tv_rng (th_fd hD hth r0 (g := GG_150) rfl (k := 165) (t := (0, -1, 47, [])) rfl rfl)
  have kv0 : 0 ≤ w_fi ws (n_v vs 0) 158 ∧ w_fi ws (n_v vs 0) 158 ≤ 2009 := tv_rng (th_fd hD hth r0 (g := GG_150) rfl (k := 158) (t := (0, 0, 2009, [])) rfl rfl)
  obtain ⟨x, ex, hx⟩ := iv_ex (ta := ta) (lo := 0) (hi := 2009) (z := w_fi ws (n_v vs 0) 158) (by omega) (by omega) (by omega) (by omega)
  have ex2 : v_iv (Value.int x) = w_fi ws (n_v vs 0) 158 := ex
  have ex3 : 0 ≤ v_iv (Value.int x) ∧ v_iv (Value.int x) ≤ 2009 := tv_rng hx
  have e_0 : n_v (vs ++ [Value.int x]) 0 = n_v vs 0 := n_v_old (by rw [hl]; decide)
  have e_1 : n_v (vs ++ [Value.int x]) 1 = n_v vs 1 := n_v_old (by rw [hl]; decide)
  have e_13 : n_v (vs ++ [Value.int x]) 13 = Value.int x := n_v_new hl
  have nf0 : fc_1 (20, [0], [50, 2, 1, 158, 157, 160, 2, 12, 0, 7, 4, 3, 2, 0, 158, 0, 1, 2, 0, 157, 2, 7, 0, 3, 2, 0, 157, 0, 2010, 3, 14, 1, 10, 3, 0, 160, 5, 3, 2, 0, 157, 0, 1, 0, 0, 1, 10, 3, 0, 160, 5, 3, 2, 0, 157, 0, 1, 0, 4]) ws (vs ++ [Value.int x]) := by
    refine ⟨fun n hn => ?_, ?_⟩
    · have hn : n ∈ [0] := hn
      rw [List.length_append, hl]
      simp only [List.mem_cons, List.not_mem_nil, or_false] at hn
      show n < 13 + 1; omega
    · show ((w_fi ws (n_v (vs ++ [Value.int x]) 0) 158 + 1) ≤ w_fi ws (n_v (vs ++ [Value.int x]) 0) 157) ∧ ((w_fi ws (n_v (vs ++ [Value.int x]) 0) 157 ≤ 2010) ∧ ((w_ei ws (w_ar ws (n_v (vs ++ [Value.int x]) 0) 160) ((w_fi ws (n_v (vs ++ [Value.int x]) 0) 157 - 1)) = 0) ∨ (w_ei ws (w_ar ws (n_v (vs ++ [Value.int x]) 0) 160) ((w_fi ws (n_v (vs ++ [Value.int x]) 0) 157 - 1)) = 4)))
      rw [e_0]
      first | omega | grind
  have nf1 : fc_1 (20, [0, 13], [30, 0, 1, 1, 158, -1, 0, 0]) ws (vs ++ [Value.int x]) := by
    refine ⟨fun n hn => ?_, ?_⟩
    · have hn : n ∈ [0, 13] := hn
      rw [List.length_append, hl]
      simp only [List.mem_cons, List.not_mem_nil, or_false] at hn
      show n < 13 + 1; omega
    · show 1 * w_fi ws (n_v (vs ++ [Value.int x]) 0) 158 + ((-1) * v_iv (n_v (vs ++ [Value.int x]) 13) + 0) ≤ 0
      rw [e_0]
      rw [e_13]
      omega
  have nf2 : fc_1 (20, [0, 13], [30, 0, -1, 1, 158, 1, 0, 0]) ws (vs ++ [Value.int x]) := by
    refine ⟨fun n hn => ?_, ?_⟩
    · have hn : n ∈ [0, 13] := hn
      rw [List.length_append, hl]
      simp only [List.mem_cons, List.not_mem_nil, or_false] at hn
      show n < 13 + 1; omega
    · show (-1) * w_fi ws (n_v (vs ++ [Value.int x]) 0) 158 + (1 * v_iv (n_v (vs ++ [Value.int x]) 13) + 0) ≤ 0
      rw [e_0]
      rw [e_13]
      omega
  have nf3 : fc_1 (23, [1, 13], [0, 1, -1]) ws (vs ++ [Value.int x]) := by
    refine ⟨fun n hn => ?_, ?_⟩
    · have hn : n ∈ [1, 13] := hn
      rw [List.length_append, hl]
      simp only [List.mem_cons, List.not_mem_nil, or_false] at hn
      show n < 13 + 1; omega
    · show 1 * v_iv (n_v (vs ++ [Value.int x]) 1) + ((-1) * v_iv (n_v (vs ++ [Value.int x]) 13) + 0) ≤ 0
      rw [e_1]
      rw [e_13]
      omega
  exact ⟨(fun _ h => (by cases h)), [Value.int x], ag_one hx, List.forall_mem_cons.mpr ⟨⟨show (20 : Nat) < 100 from by decide, nf0⟩, List.forall_mem_cons.mpr ⟨⟨show (20 : Nat) < 100 from by decide, nf1⟩, List.forall_mem_cons.mpr ⟨⟨show (20 : Nat) < 100 from by decide, nf2⟩, List.forall_mem_cons.mpr ⟨⟨show (23 : Nat) < 100 from by decide, nf3⟩, (fun _ h => (by cases h))⟩⟩⟩⟩, (fun _ h => (by cases h))⟩
def o_Mo_oneTest_f_20 (k : Int) : or_T := (79, 17, [(0, (2, 0, 0, [150])), (1, (0, 0, 2009, [])), (7, (0, 0, 2009, [])), (10, (0, 0, 2009, [])), (13, (0, 0, 2009, [])), (14, (0, 0, 13, [])), (15, (0, 1, 1, [])), (16, (0, -1, 12, []))], [(2, [16, 14, 15], []), (9, [14, 0], [159]), (23, [1, 13], [0, 1, -1]), (20, [0], [50, 2, 0, 164, 165, 4, 7, 1, 3, 2, 0, 164, 0, 0, 0, 3, 2, 0, 165, 0, 23]), (23, [1, 10], [0, 1, -1]), (23, [1, 7], [0, 1, -1]), (20, [0], [50, 2, 0, 164, 165, 4, 7, 1, 3, 2, 0, 164, 0, 0, 0, 3, 2, 0, 165, 0, 23]), (20, [0], [30, (k + 1), 1, 1, 159]), (20, [0], [30, (-k - 1), -1, 1, 159]), (20, [0], [50, 2, 1, 158, 157, 160, 2, 12, 0, 7, 4, 3, 2, 0, 158, 0, 1, 2, 0, 157, 2, 7, 0, 3, 2, 0, 157, 0, 2010, 3, 14, 1, 10, 3, 0, 160, 5, 3, 2, 0, 157, 0, 1, 0, 0, 1, 10, 3, 0, 160, 5, 3, 2, 0, 157, 0, 1, 0, 4]), (20, [13, 0], [30, 0, 1, 0, 0, -1, 1, 158]), (102, [13], [0, 13008, 13009, 13158]), (23, [1, 13], [0, 1, -1]), (23, [1, 10], [0, 1, -1]), (23, [1, 7], [0, 1, -1]), (102, [10], [0, 13008, 13009, 13158, 13159]), (23, [1, 10], [0, 1, -1]), (23, [1, 7], [0, 1, -1]), (102, [7], [0, 13008, 13009, 13158, 13159]), (23, [1, 7], [0, 1, -1])], [(16, (0, 0, 12, []))], [], [], [], [(16, 14, -1, -1)])
theorem oo_Mo_oneTest_f_20 {kA : Nat → ClassId} (k : Int) (hk0 : 0 ≤ k) (hk1 : k ≤ 12) : or_ok kA GG (o_Mo_oneTest_f_20 k) := by
  intro A ta ws vs hD hth hl hk hds hf
  have hl : vs.length = 17 := hl
  have hk : ∀ q ∈ ([(0, (2, 0, 0, [150])), (1, (0, 0, 2009, [])), (7, (0, 0, 2009, [])), (10, (0, 0, 2009, [])), (13, (0, 0, 2009, [])), (14, (0, 0, 13, [])), (15, (0, 1, 1, [])), (16, (0, -1, 12, []))] : List (Nat × tv_T)), tv_ok ta q.2 (n_v vs q.1) := hk
  obtain ⟨t0, hk⟩ := List.forall_mem_cons.mp hk
  have t0 : tv_ok ta (2, 0, 0, [150]) (n_v vs 0) := t0
  have r0 : ta (v_ad (n_v vs 0)) = some 150 := tv_rg t0
  obtain ⟨t1, hk⟩ := List.forall_mem_cons.mp hk
  have t1 : tv_ok ta (0, 0, 2009, []) (n_v vs 1) := t1
  have k1 : 0 ≤ v_iv (n_v vs 1) ∧ v_iv (n_v vs 1) ≤ 2009 := tv_rng t1
  obtain ⟨t7, hk⟩ := List.forall_mem_cons.mp hk
  have t7 : tv_ok ta (0, 0, 2009, []) (n_v vs 7) := t7
  have k7 : 0 ≤ v_iv (n_v vs 7) ∧ v_iv (n_v vs 7) ≤ 2009 := tv_rng t7
  obtain ⟨t10, hk⟩ := List.forall_mem_cons.mp hk
  have t10 : tv_ok ta (0, 0, 2009, []) (n_v vs 10) := t10
  have k10 : 0 ≤ v_iv (n_v vs 10) ∧ v_iv (n_v vs 10) ≤ 2009 := tv_rng t10
  obtain ⟨t13, hk⟩ := List.forall_mem_cons.mp hk
  have t13 : tv_ok ta (0, 0, 2009, []) (n_v vs 13) := t13
  have k13 : 0 ≤ v_iv (n_v vs 13) ∧ v_iv (n_v vs 13) ≤ 2009 := tv_rng t13
  obtain ⟨t14, hk⟩ := List.forall_mem_cons.mp hk
  have t14 : tv_ok ta (0, 0, 13, []) (n_v vs 14) := t14
  have k14 : 0 ≤ v_iv (n_v vs 14) ∧ v_iv (n_v vs 14) ≤ 13 := tv_rng t14
  obtain ⟨t15, hk⟩ := List.forall_mem_cons.mp hk
  have t15 : tv_ok ta (0, 1, 1, []) (n_v vs 15) := t15
  have k15 : 1 ≤ v_iv (n_v vs 15) ∧ v_iv (n_v vs 15) ≤ 1 := tv_rng t15
  obtain ⟨t16, hk⟩ := List.forall_mem_cons.mp hk
  have t16 : tv_ok ta (0, -1, 12, []) (n_v vs 16) := t16
  have k16 : (-1) ≤ v_iv (n_v vs 16) ∧ v_iv (n_v vs 16) ≤ 12 := tv_rng t16
  have hds : ∀ q ∈ ([(16, 14, -1, -1)] : List of_T), n_iv vs q.2.1 + q.2.2.1 ≤ n_iv vs q.1 ∧ n_iv vs q.1 ≤ n_iv vs q.2.1 + q.2.2.2 := hds
  obtain ⟨d0, hds⟩ := List.forall_mem_cons.mp hds
  have d0 : v_iv (n_v vs 14) + (-1) ≤ v_iv (n_v vs 16) ∧ v_iv (n_v vs 16) ≤ v_iv (n_v vs 14) + (-1) := d0
  have hf : fc_ok [(2, [16, 14, 15], []), (9, [14, 0], [159]), (23, [1, 13], [0, 1, -1]), (20, [0], [50, 2, 0, 164, 165, 4, 7, 1, 3, 2, 0, 164, 0, 0, 0, 3, 2, 0, 165, 0, 23]), (23, [1, 10], [0, 1, -1]), (23, [1, 7], [0, 1, -1]), (20, [0], [50, 2, 0, 164, 165, 4, 7, 1, 3, 2, 0, 164, 0, 0, 0, 3, 2, 0, 165, 0, 23]), (20, [0], [30, (k + 1), 1, 1, 159]), (20, [0], [30, (-k - 1), -1, 1, 159]), (20, [0], [50, 2, 1, 158, 157, 160, 2, 12, 0, 7, 4, 3, 2, 0, 158, 0, 1, 2, 0, 157, 2, 7, 0, 3, 2, 0, 157, 0, 2010, 3, 14, 1, 10, 3, 0, 160, 5, 3, 2, 0, 157, 0, 1, 0, 0, 1, 10, 3, 0, 160, 5, 3, 2, 0, 157, 0, 1, 0, 4]), (20, [13, 0], [30, 0, 1, 0, 0, -1, 1, 158]), (102, [13], [0, 13008, 13009, 13158]), (23, [1, 13], [0, 1, -1]), (23, [1, 10], [0, 1, -1]), (23, [1, 7], [0, 1, -1]), (102, [10], [0, 13008, 13009, 13158, 13159]), (23, [1, 10], [0, 1, -1]), (23, [1, 7], [0, 1, -1]), (102, [7], [0, 13008, 13009, 13158, 13159]), (23, [1, 7], [0, 1, -1])] ta ws vs := hf
  obtain ⟨f0, hf⟩ := fc_un (show (2 : Nat) < 100 from by decide) hf
  have f0 : v_iv (n_v vs 16) = v_iv (n_v vs 14) - v_iv (n_v vs 15) := f0
  obtain ⟨f1, hf⟩ := fc_un (show (9 : Nat) < 100 from by decide) hf
  have f1 : n_v vs 14 = w_fd ws (v_ad (n_v vs 0)) 159 := f1
  obtain ⟨f2, hf⟩ := fc_un (show (23 : Nat) < 100 from by decide) hf
  have f2 : 1 * v_iv (n_v vs 1) + ((-1) * v_iv (n_v vs 13) + 0) ≤ 0 := f2
  obtain ⟨f3, hf⟩ := fc_un (show (20 : Nat) < 100 from by decide) hf
  have f3 : (w_fi ws (n_v vs 0) 164 = 0) → (w_fi ws (n_v vs 0) 165 ≤ 23) := f3
  obtain ⟨f4, hf⟩ := fc_un (show (23 : Nat) < 100 from by decide) hf
  have f4 : 1 * v_iv (n_v vs 1) + ((-1) * v_iv (n_v vs 10) + 0) ≤ 0 := f4
  obtain ⟨f5, hf⟩ := fc_un (show (23 : Nat) < 100 from by decide) hf
  have f5 : 1 * v_iv (n_v vs 1) + ((-1) * v_iv (n_v vs 7) + 0) ≤ 0 := f5
  obtain ⟨f6, hf⟩ := fc_un (show (20 : Nat) < 100 from by decide) hf
  have f6 : (w_fi ws (n_v vs 0) 164 = 0) → (w_fi ws (n_v vs 0) 165 ≤ 23) := f6
  obtain ⟨f7, hf⟩ := fc_un (show (20 : Nat) < 100 from by decide) hf
  have f7 : 1 * w_fi ws (n_v vs 0) 159 + 0 ≤ (k + 1) := f7
  obtain ⟨f8, hf⟩ := fc_un (show (20 : Nat) < 100 from by decide) hf
  have f8 : (-1) * w_fi ws (n_v vs 0) 159 + 0 ≤ ((-k - 1)) := f8
  obtain ⟨f9, hf⟩ := fc_un (show (20 : Nat) < 100 from by decide) hf
  have f9 : ((w_fi ws (n_v vs 0) 158 + 1) ≤ w_fi ws (n_v vs 0) 157) ∧ ((w_fi ws (n_v vs 0) 157 ≤ 2010) ∧ ((w_ei ws (w_ar ws (n_v vs 0) 160) ((w_fi ws (n_v vs 0) 157 - 1)) = 0) ∨ (w_ei ws (w_ar ws (n_v vs 0) 160) ((w_fi ws (n_v vs 0) 157 - 1)) = 4))) := f9
  obtain ⟨f10, hf⟩ := fc_un (show (20 : Nat) < 100 from by decide) hf
  have f10 : 1 * v_iv (n_v vs 13) + ((-1) * w_fi ws (n_v vs 0) 158 + 0) ≤ 0 := f10
  obtain ⟨ta1, w1, le1, ⟨_, s1⟩, hf⟩ := fc_us (show ¬ (102 : Nat) < 100 from by decide) hf
  obtain ⟨f12, hf⟩ := fc_un (show (23 : Nat) < 100 from by decide) hf
  have f12 : 1 * v_iv (n_v vs 1) + ((-1) * v_iv (n_v vs 13) + 0) ≤ 0 := f12
  obtain ⟨f13, hf⟩ := fc_un (show (23 : Nat) < 100 from by decide) hf
  have f13 : 1 * v_iv (n_v vs 1) + ((-1) * v_iv (n_v vs 10) + 0) ≤ 0 := f13
  obtain ⟨f14, hf⟩ := fc_un (show (23 : Nat) < 100 from by decide) hf
  have f14 : 1 * v_iv (n_v vs 1) + ((-1) * v_iv (n_v vs 7) + 0) ≤ 0 := f14
  obtain ⟨ta2, w2, le2, ⟨_, s2⟩, hf⟩ := fc_us (show ¬ (102 : Nat) < 100 from by decide) hf
  obtain ⟨f16, hf⟩ := fc_un (show (23 : Nat) < 100 from by decide) hf
  have f16 : 1 * v_iv (n_v vs 1) + ((-1) * v_iv (n_v vs 10) + 0) ≤ 0 := f16
  obtain ⟨f17, hf⟩ := fc_un (show (23 : Nat) < 100 from by decide) hf
  have f17 : 1 * v_iv (n_v vs 1) + ((-1) * v_iv (n_v vs 7) + 0) ≤ 0 := f17
  obtain ⟨ta3, w3, le3, ⟨_, s3⟩, hf⟩ := fc_us (show ¬ (102 : Nat) < 100 from by decide) hf
  obtain ⟨f19, hf⟩ := fc_un (show (23 : Nat) < 100 from by decide) hf
  have f19 : 1 * v_iv (n_v vs 1) + ((-1) * v_iv (n_v vs 7) + 0) ≤ 0 := f19
  have cr_0_160 : ta (w_ar ws (n_v vs 0) 160) = some 259 := tv_rg (th_fd hD hth r0 (g := GG_150) rfl (k := 160) (t := (2, 0, 0, [259])) rfl rfl)
  have g1 : v_iv (n_v vs 14) = w_fi ws (n_v vs 0) 159 := congrArg v_iv f1
  have hK_0_160 : ∀ j : Int, 0 ≤ j → j < 2010 → 0 ≤ w_ei ws (w_ar ws (n_v vs 0) 160) j ∧ w_ei ws (w_ar ws (n_v vs 0) 160) j ≤ 4 := fun j h0 h1 => th_el hD hth cr_0_160 (kd := 0) (n := 2010) (m := 2010) (lo := 0) (hi := 4) (rs := []) (L := []) rfl (by decide) (j := j.toNat) (by omega)
  have kz_0_157 : 0 ≤ w_fi ws (n_v vs 0) 157 ∧ w_fi ws (n_v vs 0) 157 ≤ 2010 := tv_rng (th_fd hD hth r0 (g := GG_150) rfl (k := 157) (t := (0, 0, 2010, [])) rfl rfl)
  have kz_0_158 : 0 ≤ w_fi ws (n_v vs 0) 158 ∧ w_fi ws (n_v vs 0) 158 ≤ 2009 := tv_rng (th_fd hD hth r0 (g := GG_150) rfl (k := 158) (t := (0, 0, 2009, [])) rfl rfl)
  have kz_0_159 : 0 ≤ w_fi ws (n_v vs 0) 159 ∧ w_fi ws (n_v vs 0) 159 ≤ 13 := tv_rng (th_fd hD hth r0 (g := GG_150) rfl (k := 159) (t := (0, 0, 13, [])) rfl rfl)
  have kz_0_164 : 0 ≤ w_fi ws (n_v vs 0) 164 ∧ w_fi ws (n_v vs 0) 164 ≤ 1 := tv_rng (th_fd hD hth r0 (g := GG_150) rfl (k := 164) (t := (0, 0, 1, [])) rfl rfl)
  have kz_0_165 : (-1) ≤ w_fi ws (n_v vs 0) 165 ∧ w_fi ws (n_v vs 0) 165 ≤ 47 := tv_rng (th_fd hD hth r0 (g := GG_150) rfl (k := 165) (t := (0, -1, 47, [])) rfl rfl)
  have rf16 : tv_ok ta (0, 0, 12, []) (n_v vs 16) := tv_in t16 (by first | omega | grind) (by first | omega | grind)
  refine ⟨List.forall_mem_cons.mpr ⟨rf16, (fun _ h => (by cases h))⟩, [], trivial, ?_, (fun _ h => (by cases h))⟩
  rw [List.append_nil]
  exact (fun _ h => (by cases h))
def o_Mo_oneTest_f_21 (k : Int) : or_T := (83, 17, [(0, (2, 0, 0, [150])), (1, (0, 0, 2009, [])), (7, (0, 0, 2009, [])), (10, (0, 0, 2009, [])), (13, (0, 0, 2009, [])), (14, (0, 0, 13, [])), (15, (0, 1, 1, [])), (16, (0, 0, 12, []))], [(23, [1, 13], [0, 1, -1]), (20, [0], [50, 2, 0, 164, 165, 4, 7, 1, 3, 2, 0, 164, 0, 0, 0, 3, 2, 0, 165, 0, 23]), (23, [1, 10], [0, 1, -1]), (23, [1, 7], [0, 1, -1]), (20, [0], [50, 2, 0, 164, 165, 4, 7, 1, 3, 2, 0, 164, 0, 0, 0, 3, 2, 0, 165, 0, 23]), (20, [0], [50, 2, 1, 158, 157, 160, 2, 12, 0, 7, 4, 3, 2, 0, 158, 0, 1, 2, 0, 157, 2, 7, 0, 3, 2, 0, 157, 0, 2010, 3, 14, 1, 10, 3, 0, 160, 5, 3, 2, 0, 157, 0, 1, 0, 0, 1, 10, 3, 0, 160, 5, 3, 2, 0, 157, 0, 1, 0, 4]), (20, [13, 0], [30, 0, 1, 0, 0, -1, 1, 158]), (101, [0, 16], [159]), (2, [16, 14, 15], []), (9, [14, 0], [159]), (23, [1, 13], [0, 1, -1]), (20, [0], [50, 2, 0, 164, 165, 4, 7, 1, 3, 2, 0, 164, 0, 0, 0, 3, 2, 0, 165, 0, 23]), (23, [1, 10], [0, 1, -1]), (23, [1, 7], [0, 1, -1]), (20, [0], [50, 2, 0, 164, 165, 4, 7, 1, 3, 2, 0, 164, 0, 0, 0, 3, 2, 0, 165, 0, 23]), (20, [0], [30, (k + 1), 1, 1, 159]), (20, [0], [30, (-k - 1), -1, 1, 159]), (20, [0], [50, 2, 1, 158, 157, 160, 2, 12, 0, 7, 4, 3, 2, 0, 158, 0, 1, 2, 0, 157, 2, 7, 0, 3, 2, 0, 157, 0, 2010, 3, 14, 1, 10, 3, 0, 160, 5, 3, 2, 0, 157, 0, 1, 0, 0, 1, 10, 3, 0, 160, 5, 3, 2, 0, 157, 0, 1, 0, 4]), (20, [13, 0], [30, 0, 1, 0, 0, -1, 1, 158]), (102, [13], [0, 13008, 13009, 13158]), (23, [1, 13], [0, 1, -1]), (23, [1, 10], [0, 1, -1]), (23, [1, 7], [0, 1, -1]), (102, [10], [0, 13008, 13009, 13158, 13159]), (23, [1, 10], [0, 1, -1]), (23, [1, 7], [0, 1, -1]), (102, [7], [0, 13008, 13009, 13158, 13159]), (23, [1, 7], [0, 1, -1])], [], [], [(20, [1, 0], [30, 0, 1, 0, 0, -1, 1, 158]), (20, [0], [30, k, 1, 1, 159]), (20, [0], [30, (-k), -1, 1, 159])], [], [(16, 14, -1, -1)])
theorem oo_Mo_oneTest_f_21 {kA : Nat → ClassId} (k : Int) (hk0 : 0 ≤ k) (hk1 : k ≤ 12) : or_ok kA GG (o_Mo_oneTest_f_21 k) := by
  intro A ta ws vs hD hth hl hk hds hf
  have hl : vs.length = 17 := hl
  have hk : ∀ q ∈ ([(0, (2, 0, 0, [150])), (1, (0, 0, 2009, [])), (7, (0, 0, 2009, [])), (10, (0, 0, 2009, [])), (13, (0, 0, 2009, [])), (14, (0, 0, 13, [])), (15, (0, 1, 1, [])), (16, (0, 0, 12, []))] : List (Nat × tv_T)), tv_ok ta q.2 (n_v vs q.1) := hk
  obtain ⟨t0, hk⟩ := List.forall_mem_cons.mp hk
  have t0 : tv_ok ta (2, 0, 0, [150]) (n_v vs 0) := t0
  have r0 : ta (v_ad (n_v vs 0)) = some 150 := tv_rg t0
  obtain ⟨t1, hk⟩ := List.forall_mem_cons.mp hk
  have t1 : tv_ok ta (0, 0, 2009, []) (n_v vs 1) := t1
  have k1 : 0 ≤ v_iv (n_v vs 1) ∧ v_iv (n_v vs 1) ≤ 2009 := tv_rng t1
  obtain ⟨t7, hk⟩ := List.forall_mem_cons.mp hk
  have t7 : tv_ok ta (0, 0, 2009, []) (n_v vs 7) := t7
  have k7 : 0 ≤ v_iv (n_v vs 7) ∧ v_iv (n_v vs 7) ≤ 2009 := tv_rng t7
  obtain ⟨t10, hk⟩ := List.forall_mem_cons.mp hk
  have t10 : tv_ok ta (0, 0, 2009, []) (n_v vs 10) := t10
  have k10 : 0 ≤ v_iv (n_v vs 10) ∧ v_iv (n_v vs 10) ≤ 2009 := tv_rng t10
  obtain ⟨t13, hk⟩ := List.forall_mem_cons.mp hk
  have t13 : tv_ok ta (0, 0, 2009, []) (n_v vs 13) := t13
  have k13 : 0 ≤ v_iv (n_v vs 13) ∧ v_iv (n_v vs 13) ≤ 2009 := tv_rng t13
  obtain ⟨t14, hk⟩ := List.forall_mem_cons.mp hk
  have t14 : tv_ok ta (0, 0, 13, []) (n_v vs 14) := t14
  have k14 : 0 ≤ v_iv (n_v vs 14) ∧ v_iv (n_v vs 14) ≤ 13 := tv_rng t14
  obtain ⟨t15, hk⟩ := List.forall_mem_cons.mp hk
  have t15 : tv_ok ta (0, 1, 1, []) (n_v vs 15) := t15
  have k15 : 1 ≤ v_iv (n_v vs 15) ∧ v_iv (n_v vs 15) ≤ 1 := tv_rng t15
  obtain ⟨t16, hk⟩ := List.forall_mem_cons.mp hk
  have t16 : tv_ok ta (0, 0, 12, []) (n_v vs 16) := t16
  have k16 : 0 ≤ v_iv (n_v vs 16) ∧ v_iv (n_v vs 16) ≤ 12 := tv_rng t16
  have hds : ∀ q ∈ ([(16, 14, -1, -1)] : List of_T), n_iv vs q.2.1 + q.2.2.1 ≤ n_iv vs q.1 ∧ n_iv vs q.1 ≤ n_iv vs q.2.1 + q.2.2.2 := hds
  obtain ⟨d0, hds⟩ := List.forall_mem_cons.mp hds
  have d0 : v_iv (n_v vs 14) + (-1) ≤ v_iv (n_v vs 16) ∧ v_iv (n_v vs 16) ≤ v_iv (n_v vs 14) + (-1) := d0
  have hf : fc_ok [(23, [1, 13], [0, 1, -1]), (20, [0], [50, 2, 0, 164, 165, 4, 7, 1, 3, 2, 0, 164, 0, 0, 0, 3, 2, 0, 165, 0, 23]), (23, [1, 10], [0, 1, -1]), (23, [1, 7], [0, 1, -1]), (20, [0], [50, 2, 0, 164, 165, 4, 7, 1, 3, 2, 0, 164, 0, 0, 0, 3, 2, 0, 165, 0, 23]), (20, [0], [50, 2, 1, 158, 157, 160, 2, 12, 0, 7, 4, 3, 2, 0, 158, 0, 1, 2, 0, 157, 2, 7, 0, 3, 2, 0, 157, 0, 2010, 3, 14, 1, 10, 3, 0, 160, 5, 3, 2, 0, 157, 0, 1, 0, 0, 1, 10, 3, 0, 160, 5, 3, 2, 0, 157, 0, 1, 0, 4]), (20, [13, 0], [30, 0, 1, 0, 0, -1, 1, 158]), (101, [0, 16], [159]), (2, [16, 14, 15], []), (9, [14, 0], [159]), (23, [1, 13], [0, 1, -1]), (20, [0], [50, 2, 0, 164, 165, 4, 7, 1, 3, 2, 0, 164, 0, 0, 0, 3, 2, 0, 165, 0, 23]), (23, [1, 10], [0, 1, -1]), (23, [1, 7], [0, 1, -1]), (20, [0], [50, 2, 0, 164, 165, 4, 7, 1, 3, 2, 0, 164, 0, 0, 0, 3, 2, 0, 165, 0, 23]), (20, [0], [30, (k + 1), 1, 1, 159]), (20, [0], [30, (-k - 1), -1, 1, 159]), (20, [0], [50, 2, 1, 158, 157, 160, 2, 12, 0, 7, 4, 3, 2, 0, 158, 0, 1, 2, 0, 157, 2, 7, 0, 3, 2, 0, 157, 0, 2010, 3, 14, 1, 10, 3, 0, 160, 5, 3, 2, 0, 157, 0, 1, 0, 0, 1, 10, 3, 0, 160, 5, 3, 2, 0, 157, 0, 1, 0, 4]), (20, [13, 0], [30, 0, 1, 0, 0, -1, 1, 158]), (102, [13], [0, 13008, 13009, 13158]), (23, [1, 13], [0, 1, -1]), (23, [1, 10], [0, 1, -1]), (23, [1, 7], [0, 1, -1]), (102, [10], [0, 13008, 13009, 13158, 13159]), (23, [1, 10], [0, 1, -1]), (23, [1, 7], [0, 1, -1]), (102, [7], [0, 13008, 13009, 13158, 13159]), (23, [1, 7], [0, 1, -1])] ta ws vs := hf
  obtain ⟨f0, hf⟩ := fc_un (show (23 : Nat) < 100 from by decide) hf
  have f0 : 1 * v_iv (n_v vs 1) + ((-1) * v_iv (n_v vs 13) + 0) ≤ 0 := f0
  obtain ⟨f1, hf⟩ := fc_un (show (20 : Nat) < 100 from by decide) hf
  have f1 : (w_fi ws (n_v vs 0) 164 = 0) → (w_fi ws (n_v vs 0) 165 ≤ 23) := f1
  obtain ⟨f2, hf⟩ := fc_un (show (23 : Nat) < 100 from by decide) hf
  have f2 : 1 * v_iv (n_v vs 1) + ((-1) * v_iv (n_v vs 10) + 0) ≤ 0 := f2
  obtain ⟨f3, hf⟩ := fc_un (show (23 : Nat) < 100 from by decide) hf
  have f3 : 1 * v_iv (n_v vs 1) + ((-1) * v_iv (n_v vs 7) + 0) ≤ 0 := f3
  obtain ⟨f4, hf⟩ := fc_un (show (20 : Nat) < 100 from by decide) hf
  have f4 : (w_fi ws (n_v vs 0) 164 = 0) → (w_fi ws (n_v vs 0) 165 ≤ 23) := f4
  obtain ⟨f5, hf⟩ := fc_un (show (20 : Nat) < 100 from by decide) hf
  have f5 : ((w_fi ws (n_v vs 0) 158 + 1) ≤ w_fi ws (n_v vs 0) 157) ∧ ((w_fi ws (n_v vs 0) 157 ≤ 2010) ∧ ((w_ei ws (w_ar ws (n_v vs 0) 160) ((w_fi ws (n_v vs 0) 157 - 1)) = 0) ∨ (w_ei ws (w_ar ws (n_v vs 0) 160) ((w_fi ws (n_v vs 0) 157 - 1)) = 4))) := f5
  obtain ⟨f6, hf⟩ := fc_un (show (20 : Nat) < 100 from by decide) hf
  have f6 : 1 * v_iv (n_v vs 13) + ((-1) * w_fi ws (n_v vs 0) 158 + 0) ≤ 0 := f6
  obtain ⟨ta1, w1, le1, ⟨_, s1⟩, hf⟩ := fc_us (show ¬ (101 : Nat) < 100 from by decide) hf
  have s1 : (∀ b j, w_el ws b j = w_el w1 b j) ∧ ∀ b j, w_fd ws b j = if b = v_ad (n_v vs 0) ∧ j = 159 then n_v vs 16 else w_fd w1 b j := s1
  obtain ⟨f8, hf⟩ := fc_un (show (2 : Nat) < 100 from by decide) hf
  have f8 : v_iv (n_v vs 16) = v_iv (n_v vs 14) - v_iv (n_v vs 15) := f8
  obtain ⟨f9, hf⟩ := fc_un (show (9 : Nat) < 100 from by decide) hf
  have f9 : n_v vs 14 = w_fd w1 (v_ad (n_v vs 0)) 159 := f9
  obtain ⟨f10, hf⟩ := fc_un (show (23 : Nat) < 100 from by decide) hf
  have f10 : 1 * v_iv (n_v vs 1) + ((-1) * v_iv (n_v vs 13) + 0) ≤ 0 := f10
  obtain ⟨f11, hf⟩ := fc_un (show (20 : Nat) < 100 from by decide) hf
  have f11 : (w_fi w1 (n_v vs 0) 164 = 0) → (w_fi w1 (n_v vs 0) 165 ≤ 23) := f11
  obtain ⟨f12, hf⟩ := fc_un (show (23 : Nat) < 100 from by decide) hf
  have f12 : 1 * v_iv (n_v vs 1) + ((-1) * v_iv (n_v vs 10) + 0) ≤ 0 := f12
  obtain ⟨f13, hf⟩ := fc_un (show (23 : Nat) < 100 from by decide) hf
  have f13 : 1 * v_iv (n_v vs 1) + ((-1) * v_iv (n_v vs 7) + 0) ≤ 0 := f13
  obtain ⟨f14, hf⟩ := fc_un (show (20 : Nat) < 100 from by decide) hf
  have f14 : (w_fi w1 (n_v vs 0) 164 = 0) → (w_fi w1 (n_v vs 0) 165 ≤ 23) := f14
  obtain ⟨f15, hf⟩ := fc_un (show (20 : Nat) < 100 from by decide) hf
  have f15 : 1 * w_fi w1 (n_v vs 0) 159 + 0 ≤ (k + 1) := f15
  obtain ⟨f16, hf⟩ := fc_un (show (20 : Nat) < 100 from by decide) hf
  have f16 : (-1) * w_fi w1 (n_v vs 0) 159 + 0 ≤ ((-k - 1)) := f16
  obtain ⟨f17, hf⟩ := fc_un (show (20 : Nat) < 100 from by decide) hf
  have f17 : ((w_fi w1 (n_v vs 0) 158 + 1) ≤ w_fi w1 (n_v vs 0) 157) ∧ ((w_fi w1 (n_v vs 0) 157 ≤ 2010) ∧ ((w_ei w1 (w_ar w1 (n_v vs 0) 160) ((w_fi w1 (n_v vs 0) 157 - 1)) = 0) ∨ (w_ei w1 (w_ar w1 (n_v vs 0) 160) ((w_fi w1 (n_v vs 0) 157 - 1)) = 4))) := f17
  obtain ⟨f18, hf⟩ := fc_un (show (20 : Nat) < 100 from by decide) hf
  have f18 : 1 * v_iv (n_v vs 13) + ((-1) * w_fi w1 (n_v vs 0) 158 + 0) ≤ 0 := f18
  obtain ⟨ta2, w2, le2, ⟨_, s2⟩, hf⟩ := fc_us (show ¬ (102 : Nat) < 100 from by decide) hf
  obtain ⟨f20, hf⟩ := fc_un (show (23 : Nat) < 100 from by decide) hf
  have f20 : 1 * v_iv (n_v vs 1) + ((-1) * v_iv (n_v vs 13) + 0) ≤ 0 := f20
  obtain ⟨f21, hf⟩ := fc_un (show (23 : Nat) < 100 from by decide) hf
  have f21 : 1 * v_iv (n_v vs 1) + ((-1) * v_iv (n_v vs 10) + 0) ≤ 0 := f21
  obtain ⟨f22, hf⟩ := fc_un (show (23 : Nat) < 100 from by decide) hf
  have f22 : 1 * v_iv (n_v vs 1) + ((-1) * v_iv (n_v vs 7) + 0) ≤ 0 := f22
  obtain ⟨ta3, w3, le3, ⟨_, s3⟩, hf⟩ := fc_us (show ¬ (102 : Nat) < 100 from by decide) hf
  obtain ⟨f24, hf⟩ := fc_un (show (23 : Nat) < 100 from by decide) hf
  have f24 : 1 * v_iv (n_v vs 1) + ((-1) * v_iv (n_v vs 10) + 0) ≤ 0 := f24
  obtain ⟨f25, hf⟩ := fc_un (show (23 : Nat) < 100 from by decide) hf
  have f25 : 1 * v_iv (n_v vs 1) + ((-1) * v_iv (n_v vs 7) + 0) ≤ 0 := f25
  obtain ⟨ta4, w4, le4, ⟨_, s4⟩, hf⟩ := fc_us (show ¬ (102 : Nat) < 100 from by decide) hf
  obtain ⟨f27, hf⟩ := fc_un (show (23 : Nat) < 100 from by decide) hf
  have f27 : 1 * v_iv (n_v vs 1) + ((-1) * v_iv (n_v vs 7) + 0) ≤ 0 := f27
  have ar_0_160_1 : w_ar w1 (n_v vs 0) 160 = w_ar ws (n_v vs 0) 160 := by show v_ad (w_fd w1 _ _) = v_ad (w_fd ws _ _); rw [s1.2, if_neg (fun e => absurd e.2 (by decide))]
  have cr_0_160 : ta (w_ar ws (n_v vs 0) 160) = some 259 := tv_rg (th_fd hD hth r0 (g := GG_150) rfl (k := 160) (t := (2, 0, 0, [259])) rfl rfl)
  have g9 : v_iv (n_v vs 14) = w_fi w1 (n_v vs 0) 159 := congrArg v_iv f9
  rw [ar_0_160_1] at f17
  have fe_0_157_1 : w_fi ws (n_v vs 0) 157 = w_fi w1 (n_v vs 0) 157 := by show v_iv (w_fd _ _ _) = v_iv (w_fd _ _ _); rw [s1.2, if_neg (fun e => absurd e.2 (by decide))]
  have fe_0_158_1 : w_fi ws (n_v vs 0) 158 = w_fi w1 (n_v vs 0) 158 := by show v_iv (w_fd _ _ _) = v_iv (w_fd _ _ _); rw [s1.2, if_neg (fun e => absurd e.2 (by decide))]
  have fe_0_159_1 : w_fi ws (n_v vs 0) 159 = v_iv (n_v vs 16) := by show v_iv (w_fd _ _ _) = _; rw [s1.2, if_pos ⟨rfl, rfl⟩]
  have fe_0_164_1 : w_fi ws (n_v vs 0) 164 = w_fi w1 (n_v vs 0) 164 := by show v_iv (w_fd _ _ _) = v_iv (w_fd _ _ _); rw [s1.2, if_neg (fun e => absurd e.2 (by decide))]
  have fe_0_165_1 : w_fi ws (n_v vs 0) 165 = w_fi w1 (n_v vs 0) 165 := by show v_iv (w_fd _ _ _) = v_iv (w_fd _ _ _); rw [s1.2, if_neg (fun e => absurd e.2 (by decide))]
  have hE_0_160_1 : ∀ j : Int, w_ei ws (w_ar ws (n_v vs 0) 160) j = w_ei w1 (w_ar ws (n_v vs 0) 160) j := fun j => s1.1 _ _
  have hK_0_160 : ∀ j : Int, 0 ≤ j → j < 2010 → 0 ≤ w_ei ws (w_ar ws (n_v vs 0) 160) j ∧ w_ei ws (w_ar ws (n_v vs 0) 160) j ≤ 4 := fun j h0 h1 => th_el hD hth cr_0_160 (kd := 0) (n := 2010) (m := 2010) (lo := 0) (hi := 4) (rs := []) (L := []) rfl (by decide) (j := j.toNat) (by omega)
  have kz_0_157 : 0 ≤ w_fi ws (n_v vs 0) 157 ∧ w_fi ws (n_v vs 0) 157 ≤ 2010 := tv_rng (th_fd hD hth r0 (g := GG_150) rfl (k := 157) (t := (0, 0, 2010, [])) rfl rfl)
  have kz_0_158 : 0 ≤ w_fi ws (n_v vs 0) 158 ∧ w_fi ws (n_v vs 0) 158 ≤ 2009 := tv_rng (th_fd hD hth r0 (g := GG_150) rfl (k := 158) (t := (0, 0, 2009, [])) rfl rfl)
  have kz_0_159 : 0 ≤ w_fi ws (n_v vs 0) 159 ∧ w_fi ws (n_v vs 0) 159 ≤ 13 := tv_rng (th_fd hD hth r0 (g := GG_150) rfl (k := 159) (t := (0, 0, 13, [])) rfl rfl)
  have kz_0_164 : 0 ≤ w_fi ws (n_v vs 0) 164 ∧ w_fi ws (n_v vs 0) 164 ≤ 1 := tv_rng (th_fd hD hth r0 (g := GG_150) rfl (k := 164) (t := (0, 0, 1, [])) rfl rfl)
  have kz_0_165 : (-1) ≤ w_fi ws (n_v vs 0) 165 ∧ w_fi ws (n_v vs 0) 165 ≤ 47 := tv_rng (th_fd hD hth r0 (g := GG_150) rfl (k := 165) (t := (0, -1, 47, [])) rfl rfl)
  have nf0 : fc_1 (20, [1, 0], [30, 0, 1, 0, 0, -1, 1, 158]) ws (vs) := by
    refine ⟨fun n hn => ?_, ?_⟩
    · have hn : n ∈ [1, 0] := hn
      rw [hl]
      simp only [List.mem_cons, List.not_mem_nil, or_false] at hn
      show n < 17; omega
    · show 1 * v_iv (n_v vs 1) + ((-1) * w_fi ws (n_v vs 0) 158 + 0) ≤ 0
      omega
  have nf1 : fc_1 (20, [0], [30, k, 1, 1, 159]) ws (vs) := by
    refine ⟨fun n hn => ?_, ?_⟩
    · have hn : n ∈ [0] := hn
      rw [hl]
      simp only [List.mem_cons, List.not_mem_nil, or_false] at hn
      show n < 17; omega
    · show 1 * w_fi ws (n_v vs 0) 159 + 0 ≤ k
      omega
  have nf2 : fc_1 (20, [0], [30, (-k), -1, 1, 159]) ws (vs) := by
    refine ⟨fun n hn => ?_, ?_⟩
    · have hn : n ∈ [0] := hn
      rw [hl]
      simp only [List.mem_cons, List.not_mem_nil, or_false] at hn
      show n < 17; omega
    · show (-1) * w_fi ws (n_v vs 0) 159 + 0 ≤ ((-k))
      omega
  refine ⟨(fun _ h => (by cases h)), [], trivial, ?_, (fun _ h => (by cases h))⟩
  rw [List.append_nil]
  exact List.forall_mem_cons.mpr ⟨⟨show (20 : Nat) < 100 from by decide, nf0⟩, List.forall_mem_cons.mpr ⟨⟨show (20 : Nat) < 100 from by decide, nf1⟩, List.forall_mem_cons.mpr ⟨⟨show (20 : Nat) < 100 from by decide, nf2⟩, (fun _ h => (by cases h))⟩⟩⟩
def o_Mo_oneTest_f_22 (k : Int) : or_T := (20, 5, [(0, (2, 0, 0, [150])), (1, (0, 0, 2009, [])), (4, (0, 1, 1, []))], [(8, [4], [1]), (20, [0], [50, 2, 1, 158, 157, 160, 2, 12, 0, 7, 4, 3, 2, 0, 158, 0, 1, 2, 0, 157, 2, 7, 0, 3, 2, 0, 157, 0, 2010, 3, 14, 1, 10, 3, 0, 160, 5, 3, 2, 0, 157, 0, 1, 0, 0, 1, 10, 3, 0, 160, 5, 3, 2, 0, 157, 0, 1, 0, 4]), (20, [0, 1], [30, 0, 1, 1, 158, -1, 0, 0]), (20, [0, 1], [30, 0, -1, 1, 158, 1, 0, 0]), (20, [0], [50, 2, 0, 164, 165, 4, 7, 1, 3, 2, 0, 164, 0, 0, 0, 3, 2, 0, 165, 0, 23]), (20, [0], [30, k, 1, 1, 159]), (20, [0], [30, (-k), -1, 1, 159]), (20, [4, 0], [50, 1, 1, 1158, 1160, 4, 6, 1, 2, 1, 0, 0, 1, 1, 6, 3, 1, 160, 2, 1, 158, 0, 1])], [], [(0, 0, 2009, [])], [(20, [0], [50, 2, 1, 158, 157, 160, 2, 12, 0, 7, 4, 3, 2, 0, 158, 0, 1, 2, 0, 157, 2, 7, 0, 3, 2, 0, 157, 0, 2010, 3, 14, 1, 10, 3, 0, 160, 5, 3, 2, 0, 157, 0, 1, 0, 0, 1, 10, 3, 0, 160, 5, 3, 2, 0, 157, 0, 1, 0, 4]), (20, [0, 5], [30, 0, 1, 1, 158, -1, 0, 0]), (20, [0, 5], [30, 0, -1, 1, 158, 1, 0, 0]), (20, [0], [50, 1, 1, 158, 160, 7, 6, 3, 0, 160, 2, 0, 158, 0, 0]), (20, [0], [50, 1, 1, 158, 160, 7, 6, 3, 0, 160, 2, 0, 158, 0, 4]), (20, [0], [30, k, 1, 1, 159]), (20, [0], [30, (-k), -1, 1, 159]), (23, [1, 5], [0, 1, -1])], [], [])
theorem oo_Mo_oneTest_f_22 {kA : Nat → ClassId} (k : Int) (hk0 : 0 ≤ k) (hk1 : k ≤ 12) : or_ok kA GG (o_Mo_oneTest_f_22 k) := by
  intro A ta ws vs hD hth hl hk hds hf
  have hl : vs.length = 5 := hl
  have hk : ∀ q ∈ ([(0, (2, 0, 0, [150])), (1, (0, 0, 2009, [])), (4, (0, 1, 1, []))] : List (Nat × tv_T)), tv_ok ta q.2 (n_v vs q.1) := hk
  obtain ⟨t0, hk⟩ := List.forall_mem_cons.mp hk
  have t0 : tv_ok ta (2, 0, 0, [150]) (n_v vs 0) := t0
  have r0 : ta (v_ad (n_v vs 0)) = some 150 := tv_rg t0
  obtain ⟨t1, hk⟩ := List.forall_mem_cons.mp hk
  have t1 : tv_ok ta (0, 0, 2009, []) (n_v vs 1) := t1
  have k1 : 0 ≤ v_iv (n_v vs 1) ∧ v_iv (n_v vs 1) ≤ 2009 := tv_rng t1
  obtain ⟨t4, hk⟩ := List.forall_mem_cons.mp hk
  have t4 : tv_ok ta (0, 1, 1, []) (n_v vs 4) := t4
  have k4 : 1 ≤ v_iv (n_v vs 4) ∧ v_iv (n_v vs 4) ≤ 1 := tv_rng t4
  have hf : fc_ok [(8, [4], [1]), (20, [0], [50, 2, 1, 158, 157, 160, 2, 12, 0, 7, 4, 3, 2, 0, 158, 0, 1, 2, 0, 157, 2, 7, 0, 3, 2, 0, 157, 0, 2010, 3, 14, 1, 10, 3, 0, 160, 5, 3, 2, 0, 157, 0, 1, 0, 0, 1, 10, 3, 0, 160, 5, 3, 2, 0, 157, 0, 1, 0, 4]), (20, [0, 1], [30, 0, 1, 1, 158, -1, 0, 0]), (20, [0, 1], [30, 0, -1, 1, 158, 1, 0, 0]), (20, [0], [50, 2, 0, 164, 165, 4, 7, 1, 3, 2, 0, 164, 0, 0, 0, 3, 2, 0, 165, 0, 23]), (20, [0], [30, k, 1, 1, 159]), (20, [0], [30, (-k), -1, 1, 159]), (20, [4, 0], [50, 1, 1, 1158, 1160, 4, 6, 1, 2, 1, 0, 0, 1, 1, 6, 3, 1, 160, 2, 1, 158, 0, 1])] ta ws vs := hf
  obtain ⟨f0, hf⟩ := fc_un (show (8 : Nat) < 100 from by decide) hf
  have f0 : v_iv (n_v vs 4) ≠ 0 := f0
  obtain ⟨f1, hf⟩ := fc_un (show (20 : Nat) < 100 from by decide) hf
  have f1 : ((w_fi ws (n_v vs 0) 158 + 1) ≤ w_fi ws (n_v vs 0) 157) ∧ ((w_fi ws (n_v vs 0) 157 ≤ 2010) ∧ ((w_ei ws (w_ar ws (n_v vs 0) 160) ((w_fi ws (n_v vs 0) 157 - 1)) = 0) ∨ (w_ei ws (w_ar ws (n_v vs 0) 160) ((w_fi ws (n_v vs 0) 157 - 1)) = 4))) := f1
  obtain ⟨f2, hf⟩ := fc_un (show (20 : Nat) < 100 from by decide) hf
  have f2 : 1 * w_fi ws (n_v vs 0) 158 + ((-1) * v_iv (n_v vs 1) + 0) ≤ 0 := f2
  obtain ⟨f3, hf⟩ := fc_un (show (20 : Nat) < 100 from by decide) hf
  have f3 : (-1) * w_fi ws (n_v vs 0) 158 + (1 * v_iv (n_v vs 1) + 0) ≤ 0 := f3
  obtain ⟨f4, hf⟩ := fc_un (show (20 : Nat) < 100 from by decide) hf
  have f4 : (w_fi ws (n_v vs 0) 164 = 0) → (w_fi ws (n_v vs 0) 165 ≤ 23) := f4
  obtain ⟨f5, hf⟩ := fc_un (show (20 : Nat) < 100 from by decide) hf
  have f5 : 1 * w_fi ws (n_v vs 0) 159 + 0 ≤ k := f5
  obtain ⟨f6, hf⟩ := fc_un (show (20 : Nat) < 100 from by decide) hf
  have f6 : (-1) * w_fi ws (n_v vs 0) 159 + 0 ≤ ((-k)) := f6
  obtain ⟨f7, hf⟩ := fc_un (show (20 : Nat) < 100 from by decide) hf
  have f7 : (v_iv (n_v vs 4) = 1) → (w_ei ws (w_ar ws (n_v vs 0) 160) (w_fi ws (n_v vs 0) 158) = 1) := f7
  have cr_0_160 : ta (w_ar ws (n_v vs 0) 160) = some 259 := tv_rg (th_fd hD hth r0 (g := GG_150) rfl (k := 160) (t := (2, 0, 0, [259])) rfl rfl)
  have hK_0_160 : ∀ j : Int, 0 ≤ j → j < 2010 → 0 ≤ w_ei ws (w_ar ws (n_v vs 0) 160) j ∧ w_ei ws (w_ar ws (n_v vs 0) 160) j ≤ 4 := fun j h0 h1 => th_el hD hth cr_0_160 (kd := 0) (n := 2010) (m := 2010) (lo := 0) (hi := 4) (rs := []) (L := []) rfl (by decide) (j := j.toNat) (by omega)
  have kz_0_157 : 0 ≤ w_fi ws (n_v vs 0) 157 ∧ w_fi ws (n_v vs 0) 157 ≤ 2010 := tv_rng (th_fd hD hth r0 (g := GG_150) rfl (k := 157) (t := (0, 0, 2010, [])) rfl rfl)
  have kz_0_158 : 0 ≤ w_fi ws (n_v vs 0) 158 ∧ w_fi ws (n_v vs 0) 158 ≤ 2009 := tv_rng (th_fd hD hth r0 (g := GG_150) rfl (k := 158) (t := (0, 0, 2009, [])) rfl rfl)
  have kz_0_159 : 0 ≤ w_fi ws (n_v vs 0) 159 ∧ w_fi ws (n_v vs 0) 159 ≤ 13 := tv_rng (th_fd hD hth r0 (g := GG_150) rfl (k := 159) (t := (0, 0, 13, [])) rfl rfl)
  have kz_0_164 : 0 ≤ w_fi ws (n_v vs 0) 164 ∧ w_fi ws (n_v vs 0) 164 ≤ 1 := tv_rng (th_fd hD hth r0 (g := GG_150) rfl (k := 164) (t := (0, 0, 1, [])) rfl rfl)
  have kz_0_165 : (-1) ≤ w_fi ws (n_v vs 0) 165 ∧ w_fi ws (n_v vs 0) 165 ≤ 47 := tv_rng (th_fd hD hth r0 (g := GG_150) rfl (k := 165) (t := (0, -1, 47, [])) rfl rfl)
  have kv0 : 0 ≤ w_fi ws (n_v vs 0) 158 ∧ w_fi ws (n_v vs 0) 158 ≤ 2009 := tv_rng (th_fd hD hth r0 (g := GG_150) rfl (k := 158) (t := (0, 0, 2009, [])) rfl rfl)
  obtain ⟨x, ex, hx⟩ := iv_ex (ta := ta) (lo := 0) (hi := 2009) (z := w_fi ws (n_v vs 0) 158) (by omega) (by omega) (by omega) (by omega)
  have ex2 : v_iv (Value.int x) = w_fi ws (n_v vs 0) 158 := ex
  have ex3 : 0 ≤ v_iv (Value.int x) ∧ v_iv (Value.int x) ≤ 2009 := tv_rng hx
  have e_0 : n_v (vs ++ [Value.int x]) 0 = n_v vs 0 := n_v_old (by rw [hl]; decide)
  have e_1 : n_v (vs ++ [Value.int x]) 1 = n_v vs 1 := n_v_old (by rw [hl]; decide)
  have e_5 : n_v (vs ++ [Value.int x]) 5 = Value.int x := n_v_new hl
  have nf0 : fc_1 (20, [0], [50, 2, 1, 158, 157, 160, 2, 12, 0, 7, 4, 3, 2, 0, 158, 0, 1, 2, 0, 157, 2, 7, 0, 3, 2, 0, 157, 0, 2010, 3, 14, 1, 10, 3, 0, 160, 5, 3, 2, 0, 157, 0, 1, 0, 0, 1, 10, 3, 0, 160, 5, 3, 2, 0, 157, 0, 1, 0, 4]) ws (vs ++ [Value.int x]) := by
    refine ⟨fun n hn => ?_, ?_⟩
    · have hn : n ∈ [0] := hn
      rw [List.length_append, hl]
      simp only [List.mem_cons, List.not_mem_nil, or_false] at hn
      show n < 5 + 1; omega
    · show ((w_fi ws (n_v (vs ++ [Value.int x]) 0) 158 + 1) ≤ w_fi ws (n_v (vs ++ [Value.int x]) 0) 157) ∧ ((w_fi ws (n_v (vs ++ [Value.int x]) 0) 157 ≤ 2010) ∧ ((w_ei ws (w_ar ws (n_v (vs ++ [Value.int x]) 0) 160) ((w_fi ws (n_v (vs ++ [Value.int x]) 0) 157 - 1)) = 0) ∨ (w_ei ws (w_ar ws (n_v (vs ++ [Value.int x]) 0) 160) ((w_fi ws (n_v (vs ++ [Value.int x]) 0) 157 - 1)) = 4)))
      rw [e_0]
      first | omega | grind
  have nf1 : fc_1 (20, [0, 5], [30, 0, 1, 1, 158, -1, 0, 0]) ws (vs ++ [Value.int x]) := by
    refine ⟨fun n hn => ?_, ?_⟩
    · have hn : n ∈ [0, 5] := hn
      rw [List.length_append, hl]
      simp only [List.mem_cons, List.not_mem_nil, or_false] at hn
      show n < 5 + 1; omega
    · show 1 * w_fi ws (n_v (vs ++ [Value.int x]) 0) 158 + ((-1) * v_iv (n_v (vs ++ [Value.int x]) 5) + 0) ≤ 0
      rw [e_0]
      rw [e_5]
      omega
  have nf2 : fc_1 (20, [0, 5], [30, 0, -1, 1, 158, 1, 0, 0]) ws (vs ++ [Value.int x]) := by
    refine ⟨fun n hn => ?_, ?_⟩
    · have hn : n ∈ [0, 5] := hn
      rw [List.length_append, hl]
      simp only [List.mem_cons, List.not_mem_nil, or_false] at hn
      show n < 5 + 1; omega
    · show (-1) * w_fi ws (n_v (vs ++ [Value.int x]) 0) 158 + (1 * v_iv (n_v (vs ++ [Value.int x]) 5) + 0) ≤ 0
      rw [e_0]
      rw [e_5]
      omega
  have nf3 : fc_1 (20, [0], [50, 1, 1, 158, 160, 7, 6, 3, 0, 160, 2, 0, 158, 0, 0]) ws (vs ++ [Value.int x]) := by
    refine ⟨fun n hn => ?_, ?_⟩
    · have hn : n ∈ [0] := hn
      rw [List.length_append, hl]
      simp only [List.mem_cons, List.not_mem_nil, or_false] at hn
      show n < 5 + 1; omega
    · show w_ei ws (w_ar ws (n_v (vs ++ [Value.int x]) 0) 160) (w_fi ws (n_v (vs ++ [Value.int x]) 0) 158) ≠ 0
      rw [e_0]
      first | omega | grind
  have nf4 : fc_1 (20, [0], [50, 1, 1, 158, 160, 7, 6, 3, 0, 160, 2, 0, 158, 0, 4]) ws (vs ++ [Value.int x]) := by
    refine ⟨fun n hn => ?_, ?_⟩
    · have hn : n ∈ [0] := hn
      rw [List.length_append, hl]
      simp only [List.mem_cons, List.not_mem_nil, or_false] at hn
      show n < 5 + 1; omega
    · show w_ei ws (w_ar ws (n_v (vs ++ [Value.int x]) 0) 160) (w_fi ws (n_v (vs ++ [Value.int x]) 0) 158) ≠ 4
      rw [e_0]
      first | omega | grind
  have nf5 : fc_1 (20, [0], [30, k, 1, 1, 159]) ws (vs ++ [Value.int x]) := by
    refine ⟨fun n hn => ?_, ?_⟩
    · have hn : n ∈ [0] := hn
      rw [List.length_append, hl]
      simp only [List.mem_cons, List.not_mem_nil, or_false] at hn
      show n < 5 + 1; omega
    · show 1 * w_fi ws (n_v (vs ++ [Value.int x]) 0) 159 + 0 ≤ k
      rw [e_0]
      omega
  have nf6 : fc_1 (20, [0], [30, (-k), -1, 1, 159]) ws (vs ++ [Value.int x]) := by
    refine ⟨fun n hn => ?_, ?_⟩
    · have hn : n ∈ [0] := hn
      rw [List.length_append, hl]
      simp only [List.mem_cons, List.not_mem_nil, or_false] at hn
      show n < 5 + 1; omega
    · show (-1) * w_fi ws (n_v (vs ++ [Value.int x]) 0) 159 + 0 ≤ ((-k))
      rw [e_0]
      omega
  have nf7 : fc_1 (23, [1, 5], [0, 1, -1]) ws (vs ++ [Value.int x]) := by
    refine ⟨fun n hn => ?_, ?_⟩
    · have hn : n ∈ [1, 5] := hn
      rw [List.length_append, hl]
      simp only [List.mem_cons, List.not_mem_nil, or_false] at hn
      show n < 5 + 1; omega
    · show 1 * v_iv (n_v (vs ++ [Value.int x]) 1) + ((-1) * v_iv (n_v (vs ++ [Value.int x]) 5) + 0) ≤ 0
      rw [e_1]
      rw [e_5]
      omega
  exact ⟨(fun _ h => (by cases h)), [Value.int x], ag_one hx, List.forall_mem_cons.mpr ⟨⟨show (20 : Nat) < 100 from by decide, nf0⟩, List.forall_mem_cons.mpr ⟨⟨show (20 : Nat) < 100 from by decide, nf1⟩, List.forall_mem_cons.mpr ⟨⟨show (20 : Nat) < 100 from by decide, nf2⟩, List.forall_mem_cons.mpr ⟨⟨show (20 : Nat) < 100 from by decide, nf3⟩, List.forall_mem_cons.mpr ⟨⟨show (20 : Nat) < 100 from by decide, nf4⟩, List.forall_mem_cons.mpr ⟨⟨show (20 : Nat) < 100 from by decide, nf5⟩, List.forall_mem_cons.mpr ⟨⟨show (20 : Nat) < 100 from by decide, nf6⟩, List.forall_mem_cons.mpr ⟨⟨show (23 : Nat) < 100 from by decide, nf7⟩, (fun _ h => (by cases h))⟩⟩⟩⟩⟩⟩⟩⟩, (fun _ h => (by cases h))⟩
def o_Mo_oneTest_f_23 (k : Int) : or_T := (24, 8, [(0, (2, 0, 0, [150])), (1, (0, 0, 2009, [])), (5, (0, 0, 2009, []))], [(23, [1, 5], [0, 1, -1]), (20, [0], [50, 2, 0, 164, 165, 4, 7, 1, 3, 2, 0, 164, 0, 0, 0, 3, 2, 0, 165, 0, 23]), (20, [0], [50, 2, 1, 158, 157, 160, 2, 12, 0, 7, 4, 3, 2, 0, 158, 0, 1, 2, 0, 157, 2, 7, 0, 3, 2, 0, 157, 0, 2010, 3, 14, 1, 10, 3, 0, 160, 5, 3, 2, 0, 157, 0, 1, 0, 0, 1, 10, 3, 0, 160, 5, 3, 2, 0, 157, 0, 1, 0, 4]), (20, [5, 0], [30, -1, 1, 0, 0, -1, 1, 158]), (20, [0], [30, (k + 1), 1, 1, 159]), (20, [0], [30, (-k - 1), -1, 1, 159]), (102, [5], [0, 13008, 13009, 13158, 13159]), (23, [1, 5], [0, 1, -1])], [], [(0, 0, 2009, [])], [(20, [0], [50, 2, 1, 158, 157, 160, 2, 12, 0, 7, 4, 3, 2, 0, 158, 0, 1, 2, 0, 157, 2, 7, 0, 3, 2, 0, 157, 0, 2010, 3, 14, 1, 10, 3, 0, 160, 5, 3, 2, 0, 157, 0, 1, 0, 0, 1, 10, 3, 0, 160, 5, 3, 2, 0, 157, 0, 1, 0, 4]), (20, [0, 8], [30, 0, 1, 1, 158, -1, 0, 0]), (20, [0, 8], [30, 0, -1, 1, 158, 1, 0, 0]), (20, [0], [50, 2, 0, 164, 165, 4, 7, 1, 3, 2, 0, 164, 0, 0, 0, 3, 2, 0, 165, 0, 23]), (20, [0], [30, (k + 1), 1, 1, 159]), (20, [0], [30, (-k - 1), -1, 1, 159]), (23, [1, 8], [0, 1, -1])], [], [])
theorem oo_Mo_oneTest_f_23 {kA : Nat → ClassId} (k : Int) (hk0 : 0 ≤ k) (hk1 : k ≤ 12) : or_ok kA GG (o_Mo_oneTest_f_23 k) := by
  intro A ta ws vs hD hth hl hk hds hf
  have hl : vs.length = 8 := hl
  have hk : ∀ q ∈ ([(0, (2, 0, 0, [150])), (1, (0, 0, 2009, [])), (5, (0, 0, 2009, []))] : List (Nat × tv_T)), tv_ok ta q.2 (n_v vs q.1) := hk
  obtain ⟨t0, hk⟩ := List.forall_mem_cons.mp hk
  have t0 : tv_ok ta (2, 0, 0, [150]) (n_v vs 0) := t0
  have r0 : ta (v_ad (n_v vs 0)) = some 150 := tv_rg t0
  obtain ⟨t1, hk⟩ := List.forall_mem_cons.mp hk
  have t1 : tv_ok ta (0, 0, 2009, []) (n_v vs 1) := t1
  have k1 : 0 ≤ v_iv (n_v vs 1) ∧ v_iv (n_v vs 1) ≤ 2009 := tv_rng t1
  obtain ⟨t5, hk⟩ := List.forall_mem_cons.mp hk
  have t5 : tv_ok ta (0, 0, 2009, []) (n_v vs 5) := t5
  have k5 : 0 ≤ v_iv (n_v vs 5) ∧ v_iv (n_v vs 5) ≤ 2009 := tv_rng t5
  have hf : fc_ok [(23, [1, 5], [0, 1, -1]), (20, [0], [50, 2, 0, 164, 165, 4, 7, 1, 3, 2, 0, 164, 0, 0, 0, 3, 2, 0, 165, 0, 23]), (20, [0], [50, 2, 1, 158, 157, 160, 2, 12, 0, 7, 4, 3, 2, 0, 158, 0, 1, 2, 0, 157, 2, 7, 0, 3, 2, 0, 157, 0, 2010, 3, 14, 1, 10, 3, 0, 160, 5, 3, 2, 0, 157, 0, 1, 0, 0, 1, 10, 3, 0, 160, 5, 3, 2, 0, 157, 0, 1, 0, 4]), (20, [5, 0], [30, -1, 1, 0, 0, -1, 1, 158]), (20, [0], [30, (k + 1), 1, 1, 159]), (20, [0], [30, (-k - 1), -1, 1, 159]), (102, [5], [0, 13008, 13009, 13158, 13159]), (23, [1, 5], [0, 1, -1])] ta ws vs := hf
  obtain ⟨f0, hf⟩ := fc_un (show (23 : Nat) < 100 from by decide) hf
  have f0 : 1 * v_iv (n_v vs 1) + ((-1) * v_iv (n_v vs 5) + 0) ≤ 0 := f0
  obtain ⟨f1, hf⟩ := fc_un (show (20 : Nat) < 100 from by decide) hf
  have f1 : (w_fi ws (n_v vs 0) 164 = 0) → (w_fi ws (n_v vs 0) 165 ≤ 23) := f1
  obtain ⟨f2, hf⟩ := fc_un (show (20 : Nat) < 100 from by decide) hf
  have f2 : ((w_fi ws (n_v vs 0) 158 + 1) ≤ w_fi ws (n_v vs 0) 157) ∧ ((w_fi ws (n_v vs 0) 157 ≤ 2010) ∧ ((w_ei ws (w_ar ws (n_v vs 0) 160) ((w_fi ws (n_v vs 0) 157 - 1)) = 0) ∨ (w_ei ws (w_ar ws (n_v vs 0) 160) ((w_fi ws (n_v vs 0) 157 - 1)) = 4))) := f2
  obtain ⟨f3, hf⟩ := fc_un (show (20 : Nat) < 100 from by decide) hf
  have f3 : 1 * v_iv (n_v vs 5) + ((-1) * w_fi ws (n_v vs 0) 158 + 0) ≤ (-1) := f3
  obtain ⟨f4, hf⟩ := fc_un (show (20 : Nat) < 100 from by decide) hf
  have f4 : 1 * w_fi ws (n_v vs 0) 159 + 0 ≤ (k + 1) := f4
  obtain ⟨f5, hf⟩ := fc_un (show (20 : Nat) < 100 from by decide) hf
  have f5 : (-1) * w_fi ws (n_v vs 0) 159 + 0 ≤ ((-k - 1)) := f5
  obtain ⟨ta1, w1, le1, ⟨_, s1⟩, hf⟩ := fc_us (show ¬ (102 : Nat) < 100 from by decide) hf
  obtain ⟨f7, hf⟩ := fc_un (show (23 : Nat) < 100 from by decide) hf
  have f7 : 1 * v_iv (n_v vs 1) + ((-1) * v_iv (n_v vs 5) + 0) ≤ 0 := f7
  have cr_0_160 : ta (w_ar ws (n_v vs 0) 160) = some 259 := tv_rg (th_fd hD hth r0 (g := GG_150) rfl (k := 160) (t := (2, 0, 0, [259])) rfl rfl)
  have hK_0_160 : ∀ j : Int, 0 ≤ j → j < 2010 → 0 ≤ w_ei ws (w_ar ws (n_v vs 0) 160) j ∧ w_ei ws (w_ar ws (n_v vs 0) 160) j ≤ 4 := fun j h0 h1 => th_el hD hth cr_0_160 (kd := 0) (n := 2010) (m := 2010) (lo := 0) (hi := 4) (rs := []) (L := []) rfl (by decide) (j := j.toNat) (by omega)
  have kz_0_157 : 0 ≤ w_fi ws (n_v vs 0) 157 ∧ w_fi ws (n_v vs 0) 157 ≤ 2010 := tv_rng (th_fd hD hth r0 (g := GG_150) rfl (k := 157) (t := (0, 0, 2010, [])) rfl rfl)
  have kz_0_158 : 0 ≤ w_fi ws (n_v vs 0) 158 ∧ w_fi ws (n_v vs 0) 158 ≤ 2009 := tv_rng (th_fd hD hth r0 (g := GG_150) rfl (k := 158) (t := (0, 0, 2009, [])) rfl rfl)
  have kz_0_159 : 0 ≤ w_fi ws (n_v vs 0) 159 ∧ w_fi ws (n_v vs 0) 159 ≤ 13 := tv_rng (th_fd hD hth r0 (g := GG_150) rfl (k := 159) (t := (0, 0, 13, [])) rfl rfl)
  have kz_0_164 : 0 ≤ w_fi ws (n_v vs 0) 164 ∧ w_fi ws (n_v vs 0) 164 ≤ 1 := tv_rng (th_fd hD hth r0 (g := GG_150) rfl (k := 164) (t := (0, 0, 1, [])) rfl rfl)
  have kz_0_165 : (-1) ≤ w_fi ws (n_v vs 0) 165 ∧ w_fi ws (n_v vs 0) 165 ≤ 47 := tv_rng (th_fd hD hth r0 (g := GG_150) rfl (k := 165) (t := (0, -1, 47, [])) rfl rfl)
  have kv0 : 0 ≤ w_fi ws (n_v vs 0) 158 ∧ w_fi ws (n_v vs 0) 158 ≤ 2009 := tv_rng (th_fd hD hth r0 (g := GG_150) rfl (k := 158) (t := (0, 0, 2009, [])) rfl rfl)
  obtain ⟨x, ex, hx⟩ := iv_ex (ta := ta) (lo := 0) (hi := 2009) (z := w_fi ws (n_v vs 0) 158) (by omega) (by omega) (by omega) (by omega)
  have ex2 : v_iv (Value.int x) = w_fi ws (n_v vs 0) 158 := ex
  have ex3 : 0 ≤ v_iv (Value.int x) ∧ v_iv (Value.int x) ≤ 2009 := tv_rng hx
  have e_0 : n_v (vs ++ [Value.int x]) 0 = n_v vs 0 := n_v_old (by rw [hl]; decide)
  have e_1 : n_v (vs ++ [Value.int x]) 1 = n_v vs 1 := n_v_old (by rw [hl]; decide)
  have e_8 : n_v (vs ++ [Value.int x]) 8 = Value.int x := n_v_new hl
  have nf0 : fc_1 (20, [0], [50, 2, 1, 158, 157, 160, 2, 12, 0, 7, 4, 3, 2, 0, 158, 0, 1, 2, 0, 157, 2, 7, 0, 3, 2, 0, 157, 0, 2010, 3, 14, 1, 10, 3, 0, 160, 5, 3, 2, 0, 157, 0, 1, 0, 0, 1, 10, 3, 0, 160, 5, 3, 2, 0, 157, 0, 1, 0, 4]) ws (vs ++ [Value.int x]) := by
    refine ⟨fun n hn => ?_, ?_⟩
    · have hn : n ∈ [0] := hn
      rw [List.length_append, hl]
      simp only [List.mem_cons, List.not_mem_nil, or_false] at hn
      show n < 8 + 1; omega
    · show ((w_fi ws (n_v (vs ++ [Value.int x]) 0) 158 + 1) ≤ w_fi ws (n_v (vs ++ [Value.int x]) 0) 157) ∧ ((w_fi ws (n_v (vs ++ [Value.int x]) 0) 157 ≤ 2010) ∧ ((w_ei ws (w_ar ws (n_v (vs ++ [Value.int x]) 0) 160) ((w_fi ws (n_v (vs ++ [Value.int x]) 0) 157 - 1)) = 0) ∨ (w_ei ws (w_ar ws (n_v (vs ++ [Value.int x]) 0) 160) ((w_fi ws (n_v (vs ++ [Value.int x]) 0) 157 - 1)) = 4)))
      rw [e_0]
      first | omega | grind
  have nf1 : fc_1 (20, [0, 8], [30, 0, 1, 1, 158, -1, 0, 0]) ws (vs ++ [Value.int x]) := by
    refine ⟨fun n hn => ?_, ?_⟩
    · have hn : n ∈ [0, 8] := hn
      rw [List.length_append, hl]
      simp only [List.mem_cons, List.not_mem_nil, or_false] at hn
      show n < 8 + 1; omega
    · show 1 * w_fi ws (n_v (vs ++ [Value.int x]) 0) 158 + ((-1) * v_iv (n_v (vs ++ [Value.int x]) 8) + 0) ≤ 0
      rw [e_0]
      rw [e_8]
      omega
  have nf2 : fc_1 (20, [0, 8], [30, 0, -1, 1, 158, 1, 0, 0]) ws (vs ++ [Value.int x]) := by
    refine ⟨fun n hn => ?_, ?_⟩
    · have hn : n ∈ [0, 8] := hn
      rw [List.length_append, hl]
      simp only [List.mem_cons, List.not_mem_nil, or_false] at hn
      show n < 8 + 1; omega
    · show (-1) * w_fi ws (n_v (vs ++ [Value.int x]) 0) 158 + (1 * v_iv (n_v (vs ++ [Value.int x]) 8) + 0) ≤ 0
      rw [e_0]
      rw [e_8]
      omega
  have nf3 : fc_1 (20, [0], [50, 2, 0, 164, 165, 4, 7, 1, 3, 2, 0, 164, 0, 0, 0, 3, 2, 0, 165, 0, 23]) ws (vs ++ [Value.int x]) := by
    refine ⟨fun n hn => ?_, ?_⟩
    · have hn : n ∈ [0] := hn
      rw [List.length_append, hl]
      simp only [List.mem_cons, List.not_mem_nil, or_false] at hn
      show n < 8 + 1; omega
    · show (w_fi ws (n_v (vs ++ [Value.int x]) 0) 164 = 0) → (w_fi ws (n_v (vs ++ [Value.int x]) 0) 165 ≤ 23)
      rw [e_0]
      first | omega | grind
  have nf4 : fc_1 (20, [0], [30, (k + 1), 1, 1, 159]) ws (vs ++ [Value.int x]) := by
    refine ⟨fun n hn => ?_, ?_⟩
    · have hn : n ∈ [0] := hn
      rw [List.length_append, hl]
      simp only [List.mem_cons, List.not_mem_nil, or_false] at hn
      show n < 8 + 1; omega
    · show 1 * w_fi ws (n_v (vs ++ [Value.int x]) 0) 159 + 0 ≤ (k + 1)
      rw [e_0]
      omega
  have nf5 : fc_1 (20, [0], [30, (-k - 1), -1, 1, 159]) ws (vs ++ [Value.int x]) := by
    refine ⟨fun n hn => ?_, ?_⟩
    · have hn : n ∈ [0] := hn
      rw [List.length_append, hl]
      simp only [List.mem_cons, List.not_mem_nil, or_false] at hn
      show n < 8 + 1; omega
    · show (-1) * w_fi ws (n_v (vs ++ [Value.int x]) 0) 159 + 0 ≤ ((-k - 1))
      rw [e_0]
      omega
  have nf6 : fc_1 (23, [1, 8], [0, 1, -1]) ws (vs ++ [Value.int x]) := by
    refine ⟨fun n hn => ?_, ?_⟩
    · have hn : n ∈ [1, 8] := hn
      rw [List.length_append, hl]
      simp only [List.mem_cons, List.not_mem_nil, or_false] at hn
      show n < 8 + 1; omega
    · show 1 * v_iv (n_v (vs ++ [Value.int x]) 1) + ((-1) * v_iv (n_v (vs ++ [Value.int x]) 8) + 0) ≤ 0
      rw [e_1]
      rw [e_8]
      omega
  exact ⟨(fun _ h => (by cases h)), [Value.int x], ag_one hx, List.forall_mem_cons.mpr ⟨⟨show (20 : Nat) < 100 from by decide, nf0⟩, List.forall_mem_cons.mpr ⟨⟨show (20 : Nat) < 100 from by decide, nf1⟩, List.forall_mem_cons.mpr ⟨⟨show (20 : Nat) < 100 from by decide, nf2⟩, List.forall_mem_cons.mpr ⟨⟨show (20 : Nat) < 100 from by decide, nf3⟩, List.forall_mem_cons.mpr ⟨⟨show (20 : Nat) < 100 from by decide, nf4⟩, List.forall_mem_cons.mpr ⟨⟨show (20 : Nat) < 100 from by decide, nf5⟩, List.forall_mem_cons.mpr ⟨⟨show (23 : Nat) < 100 from by decide, nf6⟩, (fun _ h => (by cases h))⟩⟩⟩⟩⟩⟩⟩, (fun _ h => (by cases h))⟩
def o_Mo_oneTest_f_24 (k : Int) : or_T := (43, 14, [(0, (2, 0, 0, [150])), (1, (0, 0, 2009, [])), (5, (0, 0, 2009, [])), (8, (0, 0, 2009, [])), (11, (0, 0, 13, [])), (12, (0, 1, 1, [])), (13, (0, -1, 12, []))], [(2, [13, 11, 12], []), (9, [11, 0], [159]), (20, [0], [50, 2, 0, 164, 165, 4, 7, 1, 3, 2, 0, 164, 0, 0, 0, 3, 2, 0, 165, 0, 23]), (23, [1, 8], [0, 1, -1]), (23, [1, 5], [0, 1, -1]), (20, [0], [50, 2, 0, 164, 165, 4, 7, 1, 3, 2, 0, 164, 0, 0, 0, 3, 2, 0, 165, 0, 23]), (20, [0], [50, 2, 1, 158, 157, 160, 2, 12, 0, 7, 4, 3, 2, 0, 158, 0, 1, 2, 0, 157, 2, 7, 0, 3, 2, 0, 157, 0, 2010, 3, 14, 1, 10, 3, 0, 160, 5, 3, 2, 0, 157, 0, 1, 0, 0, 1, 10, 3, 0, 160, 5, 3, 2, 0, 157, 0, 1, 0, 4]), (20, [8, 0], [30, 0, 1, 0, 0, -1, 1, 158]), (20, [0], [30, (k + 1), 1, 1, 159]), (20, [0], [30, (-k - 1), -1, 1, 159]), (102, [8], [0, 13008, 13009, 13158, 13159]), (23, [1, 8], [0, 1, -1]), (23, [1, 5], [0, 1, -1]), (102, [5], [0, 13008, 13009, 13158, 13159]), (23, [1, 5], [0, 1, -1])], [(13, (0, 0, 12, []))], [], [], [], [(13, 11, -1, -1)])
theorem oo_Mo_oneTest_f_24 {kA : Nat → ClassId} (k : Int) (hk0 : 0 ≤ k) (hk1 : k ≤ 12) : or_ok kA GG (o_Mo_oneTest_f_24 k) := by
  intro A ta ws vs hD hth hl hk hds hf
  have hl : vs.length = 14 := hl
  have hk : ∀ q ∈ ([(0, (2, 0, 0, [150])), (1, (0, 0, 2009, [])), (5, (0, 0, 2009, [])), (8, (0, 0, 2009, [])), (11, (0, 0, 13, [])), (12, (0, 1, 1, [])), (13, (0, -1, 12, []))] : List (Nat × tv_T)), tv_ok ta q.2 (n_v vs q.1) := hk
  obtain ⟨t0, hk⟩ := List.forall_mem_cons.mp hk
  have t0 : tv_ok ta (2, 0, 0, [150]) (n_v vs 0) := t0
  have r0 : ta (v_ad (n_v vs 0)) = some 150 := tv_rg t0
  obtain ⟨t1, hk⟩ := List.forall_mem_cons.mp hk
  have t1 : tv_ok ta (0, 0, 2009, []) (n_v vs 1) := t1
  have k1 : 0 ≤ v_iv (n_v vs 1) ∧ v_iv (n_v vs 1) ≤ 2009 := tv_rng t1
  obtain ⟨t5, hk⟩ := List.forall_mem_cons.mp hk
  have t5 : tv_ok ta (0, 0, 2009, []) (n_v vs 5) := t5
  have k5 : 0 ≤ v_iv (n_v vs 5) ∧ v_iv (n_v vs 5) ≤ 2009 := tv_rng t5
  obtain ⟨t8, hk⟩ := List.forall_mem_cons.mp hk
  have t8 : tv_ok ta (0, 0, 2009, []) (n_v vs 8) := t8
  have k8 : 0 ≤ v_iv (n_v vs 8) ∧ v_iv (n_v vs 8) ≤ 2009 := tv_rng t8
  obtain ⟨t11, hk⟩ := List.forall_mem_cons.mp hk
  have t11 : tv_ok ta (0, 0, 13, []) (n_v vs 11) := t11
  have k11 : 0 ≤ v_iv (n_v vs 11) ∧ v_iv (n_v vs 11) ≤ 13 := tv_rng t11
  obtain ⟨t12, hk⟩ := List.forall_mem_cons.mp hk
  have t12 : tv_ok ta (0, 1, 1, []) (n_v vs 12) := t12
  have k12 : 1 ≤ v_iv (n_v vs 12) ∧ v_iv (n_v vs 12) ≤ 1 := tv_rng t12
  obtain ⟨t13, hk⟩ := List.forall_mem_cons.mp hk
  have t13 : tv_ok ta (0, -1, 12, []) (n_v vs 13) := t13
  have k13 : (-1) ≤ v_iv (n_v vs 13) ∧ v_iv (n_v vs 13) ≤ 12 := tv_rng t13
  have hds : ∀ q ∈ ([(13, 11, -1, -1)] : List of_T), n_iv vs q.2.1 + q.2.2.1 ≤ n_iv vs q.1 ∧ n_iv vs q.1 ≤ n_iv vs q.2.1 + q.2.2.2 := hds
  obtain ⟨d0, hds⟩ := List.forall_mem_cons.mp hds
  have d0 : v_iv (n_v vs 11) + (-1) ≤ v_iv (n_v vs 13) ∧ v_iv (n_v vs 13) ≤ v_iv (n_v vs 11) + (-1) := d0
  have hf : fc_ok [(2, [13, 11, 12], []), (9, [11, 0], [159]), (20, [0], [50, 2, 0, 164, 165, 4, 7, 1, 3, 2, 0, 164, 0, 0, 0, 3, 2, 0, 165, 0, 23]), (23, [1, 8], [0, 1, -1]), (23, [1, 5], [0, 1, -1]), (20, [0], [50, 2, 0, 164, 165, 4, 7, 1, 3, 2, 0, 164, 0, 0, 0, 3, 2, 0, 165, 0, 23]), (20, [0], [50, 2, 1, 158, 157, 160, 2, 12, 0, 7, 4, 3, 2, 0, 158, 0, 1, 2, 0, 157, 2, 7, 0, 3, 2, 0, 157, 0, 2010, 3, 14, 1, 10, 3, 0, 160, 5, 3, 2, 0, 157, 0, 1, 0, 0, 1, 10, 3, 0, 160, 5, 3, 2, 0, 157, 0, 1, 0, 4]), (20, [8, 0], [30, 0, 1, 0, 0, -1, 1, 158]), (20, [0], [30, (k + 1), 1, 1, 159]), (20, [0], [30, (-k - 1), -1, 1, 159]), (102, [8], [0, 13008, 13009, 13158, 13159]), (23, [1, 8], [0, 1, -1]), (23, [1, 5], [0, 1, -1]), (102, [5], [0, 13008, 13009, 13158, 13159]), (23, [1, 5], [0, 1, -1])] ta ws vs := hf
  obtain ⟨f0, hf⟩ := fc_un (show (2 : Nat) < 100 from by decide) hf
  have f0 : v_iv (n_v vs 13) = v_iv (n_v vs 11) - v_iv (n_v vs 12) := f0
  obtain ⟨f1, hf⟩ := fc_un (show (9 : Nat) < 100 from by decide) hf
  have f1 : n_v vs 11 = w_fd ws (v_ad (n_v vs 0)) 159 := f1
  obtain ⟨f2, hf⟩ := fc_un (show (20 : Nat) < 100 from by decide) hf
  have f2 : (w_fi ws (n_v vs 0) 164 = 0) → (w_fi ws (n_v vs 0) 165 ≤ 23) := f2
  obtain ⟨f3, hf⟩ := fc_un (show (23 : Nat) < 100 from by decide) hf
  have f3 : 1 * v_iv (n_v vs 1) + ((-1) * v_iv (n_v vs 8) + 0) ≤ 0 := f3
  obtain ⟨f4, hf⟩ := fc_un (show (23 : Nat) < 100 from by decide) hf
  have f4 : 1 * v_iv (n_v vs 1) + ((-1) * v_iv (n_v vs 5) + 0) ≤ 0 := f4
  obtain ⟨f5, hf⟩ := fc_un (show (20 : Nat) < 100 from by decide) hf
  have f5 : (w_fi ws (n_v vs 0) 164 = 0) → (w_fi ws (n_v vs 0) 165 ≤ 23) := f5
  obtain ⟨f6, hf⟩ := fc_un (show (20 : Nat) < 100 from by decide) hf
  have f6 : ((w_fi ws (n_v vs 0) 158 + 1) ≤ w_fi ws (n_v vs 0) 157) ∧ ((w_fi ws (n_v vs 0) 157 ≤ 2010) ∧ ((w_ei ws (w_ar ws (n_v vs 0) 160) ((w_fi ws (n_v vs 0) 157 - 1)) = 0) ∨ (w_ei ws (w_ar ws (n_v vs 0) 160) ((w_fi ws (n_v vs 0) 157 - 1)) = 4))) := f6
  obtain ⟨f7, hf⟩ := fc_un (show (20 : Nat) < 100 from by decide) hf
  have f7 : 1 * v_iv (n_v vs 8) + ((-1) * w_fi ws (n_v vs 0) 158 + 0) ≤ 0 := f7
  obtain ⟨f8, hf⟩ := fc_un (show (20 : Nat) < 100 from by decide) hf
  have f8 : 1 * w_fi ws (n_v vs 0) 159 + 0 ≤ (k + 1) := f8
  obtain ⟨f9, hf⟩ := fc_un (show (20 : Nat) < 100 from by decide) hf
  have f9 : (-1) * w_fi ws (n_v vs 0) 159 + 0 ≤ ((-k - 1)) := f9
  obtain ⟨ta1, w1, le1, ⟨_, s1⟩, hf⟩ := fc_us (show ¬ (102 : Nat) < 100 from by decide) hf
  obtain ⟨f11, hf⟩ := fc_un (show (23 : Nat) < 100 from by decide) hf
  have f11 : 1 * v_iv (n_v vs 1) + ((-1) * v_iv (n_v vs 8) + 0) ≤ 0 := f11
  obtain ⟨f12, hf⟩ := fc_un (show (23 : Nat) < 100 from by decide) hf
  have f12 : 1 * v_iv (n_v vs 1) + ((-1) * v_iv (n_v vs 5) + 0) ≤ 0 := f12
  obtain ⟨ta2, w2, le2, ⟨_, s2⟩, hf⟩ := fc_us (show ¬ (102 : Nat) < 100 from by decide) hf
  obtain ⟨f14, hf⟩ := fc_un (show (23 : Nat) < 100 from by decide) hf
  have f14 : 1 * v_iv (n_v vs 1) + ((-1) * v_iv (n_v vs 5) + 0) ≤ 0 := f14
  have cr_0_160 : ta (w_ar ws (n_v vs 0) 160) = some 259 := tv_rg (th_fd hD hth r0 (g := GG_150) rfl (k := 160) (t := (2, 0, 0, [259])) rfl rfl)
  have g1 : v_iv (n_v vs 11) = w_fi ws (n_v vs 0) 159 := congrArg v_iv f1
  have hK_0_160 : ∀ j : Int, 0 ≤ j → j < 2010 → 0 ≤ w_ei ws (w_ar ws (n_v vs 0) 160) j ∧ w_ei ws (w_ar ws (n_v vs 0) 160) j ≤ 4 := fun j h0 h1 => th_el hD hth cr_0_160 (kd := 0) (n := 2010) (m := 2010) (lo := 0) (hi := 4) (rs := []) (L := []) rfl (by decide) (j := j.toNat) (by omega)
  have kz_0_157 : 0 ≤ w_fi ws (n_v vs 0) 157 ∧ w_fi ws (n_v vs 0) 157 ≤ 2010 := tv_rng (th_fd hD hth r0 (g := GG_150) rfl (k := 157) (t := (0, 0, 2010, [])) rfl rfl)
  have kz_0_158 : 0 ≤ w_fi ws (n_v vs 0) 158 ∧ w_fi ws (n_v vs 0) 158 ≤ 2009 := tv_rng (th_fd hD hth r0 (g := GG_150) rfl (k := 158) (t := (0, 0, 2009, [])) rfl rfl)
  have kz_0_159 : 0 ≤ w_fi ws (n_v vs 0) 159 ∧ w_fi ws (n_v vs 0) 159 ≤ 13 := tv_rng (th_fd hD hth r0 (g := GG_150) rfl (k := 159) (t := (0, 0, 13, [])) rfl rfl)
  have kz_0_164 : 0 ≤ w_fi ws (n_v vs 0) 164 ∧ w_fi ws (n_v vs 0) 164 ≤ 1 := tv_rng (th_fd hD hth r0 (g := GG_150) rfl (k := 164) (t := (0, 0, 1, [])) rfl rfl)
  have kz_0_165 : (-1) ≤ w_fi ws (n_v vs 0) 165 ∧ w_fi ws (n_v vs 0) 165 ≤ 47 := tv_rng (th_fd hD hth r0 (g := GG_150) rfl (k := 165) (t := (0, -1, 47, [])) rfl rfl)
  have rf13 : tv_ok ta (0, 0, 12, []) (n_v vs 13) := tv_in t13 (by first | omega | grind) (by first | omega | grind)
  refine ⟨List.forall_mem_cons.mpr ⟨rf13, (fun _ h => (by cases h))⟩, [], trivial, ?_, (fun _ h => (by cases h))⟩
  rw [List.append_nil]
  exact (fun _ h => (by cases h))
def o_Mo_oneTest_f_25 (k : Int) : or_T := (47, 14, [(0, (2, 0, 0, [150])), (1, (0, 0, 2009, [])), (5, (0, 0, 2009, [])), (8, (0, 0, 2009, [])), (11, (0, 0, 13, [])), (12, (0, 1, 1, [])), (13, (0, 0, 12, []))], [(20, [0], [50, 2, 0, 164, 165, 4, 7, 1, 3, 2, 0, 164, 0, 0, 0, 3, 2, 0, 165, 0, 23]), (23, [1, 8], [0, 1, -1]), (23, [1, 5], [0, 1, -1]), (20, [0], [50, 2, 0, 164, 165, 4, 7, 1, 3, 2, 0, 164, 0, 0, 0, 3, 2, 0, 165, 0, 23]), (20, [0], [50, 2, 1, 158, 157, 160, 2, 12, 0, 7, 4, 3, 2, 0, 158, 0, 1, 2, 0, 157, 2, 7, 0, 3, 2, 0, 157, 0, 2010, 3, 14, 1, 10, 3, 0, 160, 5, 3, 2, 0, 157, 0, 1, 0, 0, 1, 10, 3, 0, 160, 5, 3, 2, 0, 157, 0, 1, 0, 4]), (20, [8, 0], [30, 0, 1, 0, 0, -1, 1, 158]), (101, [0, 13], [159]), (2, [13, 11, 12], []), (9, [11, 0], [159]), (20, [0], [50, 2, 0, 164, 165, 4, 7, 1, 3, 2, 0, 164, 0, 0, 0, 3, 2, 0, 165, 0, 23]), (23, [1, 8], [0, 1, -1]), (23, [1, 5], [0, 1, -1]), (20, [0], [50, 2, 0, 164, 165, 4, 7, 1, 3, 2, 0, 164, 0, 0, 0, 3, 2, 0, 165, 0, 23]), (20, [0], [50, 2, 1, 158, 157, 160, 2, 12, 0, 7, 4, 3, 2, 0, 158, 0, 1, 2, 0, 157, 2, 7, 0, 3, 2, 0, 157, 0, 2010, 3, 14, 1, 10, 3, 0, 160, 5, 3, 2, 0, 157, 0, 1, 0, 0, 1, 10, 3, 0, 160, 5, 3, 2, 0, 157, 0, 1, 0, 4]), (20, [8, 0], [30, 0, 1, 0, 0, -1, 1, 158]), (20, [0], [30, (k + 1), 1, 1, 159]), (20, [0], [30, (-k - 1), -1, 1, 159]), (102, [8], [0, 13008, 13009, 13158, 13159]), (23, [1, 8], [0, 1, -1]), (23, [1, 5], [0, 1, -1]), (102, [5], [0, 13008, 13009, 13158, 13159]), (23, [1, 5], [0, 1, -1])], [], [], [(20, [1, 0], [30, 0, 1, 0, 0, -1, 1, 158]), (20, [0], [30, k, 1, 1, 159]), (20, [0], [30, (-k), -1, 1, 159])], [], [(13, 11, -1, -1)])
theorem oo_Mo_oneTest_f_25 {kA : Nat → ClassId} (k : Int) (hk0 : 0 ≤ k) (hk1 : k ≤ 12) : or_ok kA GG (o_Mo_oneTest_f_25 k) := by
  intro A ta ws vs hD hth hl hk hds hf
  have hl : vs.length = 14 := hl
  have hk : ∀ q ∈ ([(0, (2, 0, 0, [150])), (1, (0, 0, 2009, [])), (5, (0, 0, 2009, [])), (8, (0, 0, 2009, [])), (11, (0, 0, 13, [])), (12, (0, 1, 1, [])), (13, (0, 0, 12, []))] : List (Nat × tv_T)), tv_ok ta q.2 (n_v vs q.1) := hk
  obtain ⟨t0, hk⟩ := List.forall_mem_cons.mp hk
  have t0 : tv_ok ta (2, 0, 0, [150]) (n_v vs 0) := t0
  have r0 : ta (v_ad (n_v vs 0)) = some 150 := tv_rg t0
  obtain ⟨t1, hk⟩ := List.forall_mem_cons.mp hk
  have t1 : tv_ok ta (0, 0, 2009, []) (n_v vs 1) := t1
  have k1 : 0 ≤ v_iv (n_v vs 1) ∧ v_iv (n_v vs 1) ≤ 2009 := tv_rng t1
  obtain ⟨t5, hk⟩ := List.forall_mem_cons.mp hk
  have t5 : tv_ok ta (0, 0, 2009, []) (n_v vs 5) := t5
  have k5 : 0 ≤ v_iv (n_v vs 5) ∧ v_iv (n_v vs 5) ≤ 2009 := tv_rng t5
  obtain ⟨t8, hk⟩ := List.forall_mem_cons.mp hk
  have t8 : tv_ok ta (0, 0, 2009, []) (n_v vs 8) := t8
  have k8 : 0 ≤ v_iv (n_v vs 8) ∧ v_iv (n_v vs 8) ≤ 2009 := tv_rng t8
  obtain ⟨t11, hk⟩ := List.forall_mem_cons.mp hk
  have t11 : tv_ok ta (0, 0, 13, []) (n_v vs 11) := t11
  have k11 : 0 ≤ v_iv (n_v vs 11) ∧ v_iv (n_v vs 11) ≤ 13 := tv_rng t11
  obtain ⟨t12, hk⟩ := List.forall_mem_cons.mp hk
  have t12 : tv_ok ta (0, 1, 1, []) (n_v vs 12) := t12
  have k12 : 1 ≤ v_iv (n_v vs 12) ∧ v_iv (n_v vs 12) ≤ 1 := tv_rng t12
  obtain ⟨t13, hk⟩ := List.forall_mem_cons.mp hk
  have t13 : tv_ok ta (0, 0, 12, []) (n_v vs 13) := t13
  have k13 : 0 ≤ v_iv (n_v vs 13) ∧ v_iv (n_v vs 13) ≤ 12 := tv_rng t13
  have hds : ∀ q ∈ ([(13, 11, -1, -1)] : List of_T), n_iv vs q.2.1 + q.2.2.1 ≤ n_iv vs q.1 ∧ n_iv vs q.1 ≤ n_iv vs q.2.1 + q.2.2.2 := hds
  obtain ⟨d0, hds⟩ := List.forall_mem_cons.mp hds
  have d0 : v_iv (n_v vs 11) + (-1) ≤ v_iv (n_v vs 13) ∧ v_iv (n_v vs 13) ≤ v_iv (n_v vs 11) + (-1) := d0
  have hf : fc_ok [(20, [0], [50, 2, 0, 164, 165, 4, 7, 1, 3, 2, 0, 164, 0, 0, 0, 3, 2, 0, 165, 0, 23]), (23, [1, 8], [0, 1, -1]), (23, [1, 5], [0, 1, -1]), (20, [0], [50, 2, 0, 164, 165, 4, 7, 1, 3, 2, 0, 164, 0, 0, 0, 3, 2, 0, 165, 0, 23]), (20, [0], [50, 2, 1, 158, 157, 160, 2, 12, 0, 7, 4, 3, 2, 0, 158, 0, 1, 2, 0, 157, 2, 7, 0, 3, 2, 0, 157, 0, 2010, 3, 14, 1, 10, 3, 0, 160, 5, 3, 2, 0, 157, 0, 1, 0, 0, 1, 10, 3, 0, 160, 5, 3, 2, 0, 157, 0, 1, 0, 4]), (20, [8, 0], [30, 0, 1, 0, 0, -1, 1, 158]), (101, [0, 13], [159]), (2, [13, 11, 12], []), (9, [11, 0], [159]), (20, [0], [50, 2, 0, 164, 165, 4, 7, 1, 3, 2, 0, 164, 0, 0, 0, 3, 2, 0, 165, 0, 23]), (23, [1, 8], [0, 1, -1]), (23, [1, 5], [0, 1, -1]), (20, [0], [50, 2, 0, 164, 165, 4, 7, 1, 3, 2, 0, 164, 0, 0, 0, 3, 2, 0, 165, 0, 23]), (20, [0], [50, 2, 1, 158, 157, 160, 2, 12, 0, 7, 4, 3, 2, 0, 158, 0, 1, 2, 0, 157, 2, 7, 0, 3, 2, 0, 157, 0, 2010, 3, 14, 1, 10, 3, 0, 160, 5, 3, 2, 0, 157, 0, 1, 0, 0, 1, 10, 3, 0, 160, 5, 3, 2, 0, 157, 0, 1, 0, 4]), (20, [8, 0], [30, 0, 1, 0, 0, -1, 1, 158]), (20, [0], [30, (k + 1), 1, 1, 159]), (20, [0], [30, (-k - 1), -1, 1, 159]), (102, [8], [0, 13008, 13009, 13158, 13159]), (23, [1, 8], [0, 1, -1]), (23, [1, 5], [0, 1, -1]), (102, [5], [0, 13008, 13009, 13158, 13159]), (23, [1, 5], [0, 1, -1])] ta ws vs := hf
  obtain ⟨f0, hf⟩ := fc_un (show (20 : Nat) < 100 from by decide) hf
  have f0 : (w_fi ws (n_v vs 0) 164 = 0) → (w_fi ws (n_v vs 0) 165 ≤ 23) := f0
  obtain ⟨f1, hf⟩ := fc_un (show (23 : Nat) < 100 from by decide) hf
  have f1 : 1 * v_iv (n_v vs 1) + ((-1) * v_iv (n_v vs 8) + 0) ≤ 0 := f1
  obtain ⟨f2, hf⟩ := fc_un (show (23 : Nat) < 100 from by decide) hf
  have f2 : 1 * v_iv (n_v vs 1) + ((-1) * v_iv (n_v vs 5) + 0) ≤ 0 := f2
  obtain ⟨f3, hf⟩ := fc_un (show (20 : Nat) < 100 from by decide) hf
  have f3 : (w_fi ws (n_v vs 0) 164 = 0) → (w_fi ws (n_v vs 0) 165 ≤ 23) := f3
  obtain ⟨f4, hf⟩ := fc_un (show (20 : Nat) < 100 from by decide) hf
  have f4 : ((w_fi ws (n_v vs 0) 158 + 1) ≤ w_fi ws (n_v vs 0) 157) ∧ ((w_fi ws (n_v vs 0) 157 ≤ 2010) ∧ ((w_ei ws (w_ar ws (n_v vs 0) 160) ((w_fi ws (n_v vs 0) 157 - 1)) = 0) ∨ (w_ei ws (w_ar ws (n_v vs 0) 160) ((w_fi ws (n_v vs 0) 157 - 1)) = 4))) := f4
  obtain ⟨f5, hf⟩ := fc_un (show (20 : Nat) < 100 from by decide) hf
  have f5 : 1 * v_iv (n_v vs 8) + ((-1) * w_fi ws (n_v vs 0) 158 + 0) ≤ 0 := f5
  obtain ⟨ta1, w1, le1, ⟨_, s1⟩, hf⟩ := fc_us (show ¬ (101 : Nat) < 100 from by decide) hf
  have s1 : (∀ b j, w_el ws b j = w_el w1 b j) ∧ ∀ b j, w_fd ws b j = if b = v_ad (n_v vs 0) ∧ j = 159 then n_v vs 13 else w_fd w1 b j := s1
  obtain ⟨f7, hf⟩ := fc_un (show (2 : Nat) < 100 from by decide) hf
  have f7 : v_iv (n_v vs 13) = v_iv (n_v vs 11) - v_iv (n_v vs 12) := f7
  obtain ⟨f8, hf⟩ := fc_un (show (9 : Nat) < 100 from by decide) hf
  have f8 : n_v vs 11 = w_fd w1 (v_ad (n_v vs 0)) 159 := f8
  obtain ⟨f9, hf⟩ := fc_un (show (20 : Nat) < 100 from by decide) hf
  have f9 : (w_fi w1 (n_v vs 0) 164 = 0) → (w_fi w1 (n_v vs 0) 165 ≤ 23) := f9
  obtain ⟨f10, hf⟩ := fc_un (show (23 : Nat) < 100 from by decide) hf
  have f10 : 1 * v_iv (n_v vs 1) + ((-1) * v_iv (n_v vs 8) + 0) ≤ 0 := f10
  obtain ⟨f11, hf⟩ := fc_un (show (23 : Nat) < 100 from by decide) hf
  have f11 : 1 * v_iv (n_v vs 1) + ((-1) * v_iv (n_v vs 5) + 0) ≤ 0 := f11
  obtain ⟨f12, hf⟩ := fc_un (show (20 : Nat) < 100 from by decide) hf
  have f12 : (w_fi w1 (n_v vs 0) 164 = 0) → (w_fi w1 (n_v vs 0) 165 ≤ 23) := f12
  obtain ⟨f13, hf⟩ := fc_un (show (20 : Nat) < 100 from by decide) hf
  have f13 : ((w_fi w1 (n_v vs 0) 158 + 1) ≤ w_fi w1 (n_v vs 0) 157) ∧ ((w_fi w1 (n_v vs 0) 157 ≤ 2010) ∧ ((w_ei w1 (w_ar w1 (n_v vs 0) 160) ((w_fi w1 (n_v vs 0) 157 - 1)) = 0) ∨ (w_ei w1 (w_ar w1 (n_v vs 0) 160) ((w_fi w1 (n_v vs 0) 157 - 1)) = 4))) := f13
  obtain ⟨f14, hf⟩ := fc_un (show (20 : Nat) < 100 from by decide) hf
  have f14 : 1 * v_iv (n_v vs 8) + ((-1) * w_fi w1 (n_v vs 0) 158 + 0) ≤ 0 := f14
  obtain ⟨f15, hf⟩ := fc_un (show (20 : Nat) < 100 from by decide) hf
  have f15 : 1 * w_fi w1 (n_v vs 0) 159 + 0 ≤ (k + 1) := f15
  obtain ⟨f16, hf⟩ := fc_un (show (20 : Nat) < 100 from by decide) hf
  have f16 : (-1) * w_fi w1 (n_v vs 0) 159 + 0 ≤ ((-k - 1)) := f16
  obtain ⟨ta2, w2, le2, ⟨_, s2⟩, hf⟩ := fc_us (show ¬ (102 : Nat) < 100 from by decide) hf
  obtain ⟨f18, hf⟩ := fc_un (show (23 : Nat) < 100 from by decide) hf
  have f18 : 1 * v_iv (n_v vs 1) + ((-1) * v_iv (n_v vs 8) + 0) ≤ 0 := f18
  obtain ⟨f19, hf⟩ := fc_un (show (23 : Nat) < 100 from by decide) hf
  have f19 : 1 * v_iv (n_v vs 1) + ((-1) * v_iv (n_v vs 5) + 0) ≤ 0 := f19
  obtain ⟨ta3, w3, le3, ⟨_, s3⟩, hf⟩ := fc_us (show ¬ (102 : Nat) < 100 from by decide) hf
  obtain ⟨f21, hf⟩ := fc_un (show (23 : Nat) < 100 from by decide) hf
  have f21 : 1 * v_iv (n_v vs 1) + ((-1) * v_iv (n_v vs 5) + 0) ≤ 0 := f21
  have ar_0_160_1 : w_ar w1 (n_v vs 0) 160 = w_ar ws (n_v vs 0) 160 := by show v_ad (w_fd w1 _ _) = v_ad (w_fd ws _ _); rw [s1.2, if_neg (fun e => absurd e.2 (by decide))]
  have cr_0_160 : ta (w_ar ws (n_v vs 0) 160) = some 259 := tv_rg (th_fd hD hth r0 (g := GG_150) rfl (k := 160) (t := (2, 0, 0, [259])) rfl rfl)
  have g8 : v_iv (n_v vs 11) = w_fi w1 (n_v vs 0) 159 := congrArg v_iv f8
  rw [ar_0_160_1] at f13
  have fe_0_157_1 : w_fi ws (n_v vs 0) 157 = w_fi w1 (n_v vs 0) 157 := by show v_iv (w_fd _ _ _) = v_iv (w_fd _ _ _); rw [s1.2, if_neg (fun e => absurd e.2 (by decide))]
  have fe_0_158_1 : w_fi ws (n_v vs 0) 158 = w_fi w1 (n_v vs 0) 158 := by show v_iv (w_fd _ _ _) = v_iv (w_fd _ _ _); rw [s1.2, if_neg (fun e => absurd e.2 (by decide))]
  have fe_0_159_1 : w_fi ws (n_v vs 0) 159 = v_iv (n_v vs 13) := by show v_iv (w_fd _ _ _) = _; rw [s1.2, if_pos ⟨rfl, rfl⟩]
  have fe_0_164_1 : w_fi ws (n_v vs 0) 164 = w_fi w1 (n_v vs 0) 164 := by show v_iv (w_fd _ _ _) = v_iv (w_fd _ _ _); rw [s1.2, if_neg (fun e => absurd e.2 (by decide))]
  have fe_0_165_1 : w_fi ws (n_v vs 0) 165 = w_fi w1 (n_v vs 0) 165 := by show v_iv (w_fd _ _ _) = v_iv (w_fd _ _ _); rw [s1.2, if_neg (fun e => absurd e.2 (by decide))]
  have hE_0_160_1 : ∀ j : Int, w_ei ws (w_ar ws (n_v vs 0) 160) j = w_ei w1 (w_ar ws (n_v vs 0) 160) j := fun j => s1.1 _ _
  have hK_0_160 : ∀ j : Int, 0 ≤ j → j < 2010 → 0 ≤ w_ei ws (w_ar ws (n_v vs 0) 160) j ∧ w_ei ws (w_ar ws (n_v vs 0) 160) j ≤ 4 := fun j h0 h1 => th_el hD hth cr_0_160 (kd := 0) (n := 2010) (m := 2010) (lo := 0) (hi := 4) (rs := []) (L := []) rfl (by decide) (j := j.toNat) (by omega)
  have kz_0_157 : 0 ≤ w_fi ws (n_v vs 0) 157 ∧ w_fi ws (n_v vs 0) 157 ≤ 2010 := tv_rng (th_fd hD hth r0 (g := GG_150) rfl (k := 157) (t := (0, 0, 2010, [])) rfl rfl)
  have kz_0_158 : 0 ≤ w_fi ws (n_v vs 0) 158 ∧ w_fi ws (n_v vs 0) 158 ≤ 2009 := tv_rng (th_fd hD hth r0 (g := GG_150) rfl (k := 158) (t := (0, 0, 2009, [])) rfl rfl)
  have kz_0_159 : 0 ≤ w_fi ws (n_v vs 0) 159 ∧ w_fi ws (n_v vs 0) 159 ≤ 13 := tv_rng (th_fd hD hth r0 (g := GG_150) rfl (k := 159) (t := (0, 0, 13, [])) rfl rfl)
  have kz_0_164 : 0 ≤ w_fi ws (n_v vs 0) 164 ∧ w_fi ws (n_v vs 0) 164 ≤ 1 := tv_rng (th_fd hD hth r0 (g := GG_150) rfl (k := 164) (t := (0, 0, 1, [])) rfl rfl)
  have kz_0_165 : (-1) ≤ w_fi ws (n_v vs 0) 165 ∧ w_fi ws (n_v vs 0) 165 ≤ 47 := tv_rng (th_fd hD hth r0 (g := GG_150) rfl (k := 165) (t := (0, -1, 47, [])) rfl rfl)
  have nf0 : fc_1 (20, [1, 0], [30, 0, 1, 0, 0, -1, 1, 158]) ws (vs) := by
    refine ⟨fun n hn => ?_, ?_⟩
    · have hn : n ∈ [1, 0] := hn
      rw [hl]
      simp only [List.mem_cons, List.not_mem_nil, or_false] at hn
      show n < 14; omega
    · show 1 * v_iv (n_v vs 1) + ((-1) * w_fi ws (n_v vs 0) 158 + 0) ≤ 0
      omega
  have nf1 : fc_1 (20, [0], [30, k, 1, 1, 159]) ws (vs) := by
    refine ⟨fun n hn => ?_, ?_⟩
    · have hn : n ∈ [0] := hn
      rw [hl]
      simp only [List.mem_cons, List.not_mem_nil, or_false] at hn
      show n < 14; omega
    · show 1 * w_fi ws (n_v vs 0) 159 + 0 ≤ k
      omega
  have nf2 : fc_1 (20, [0], [30, (-k), -1, 1, 159]) ws (vs) := by
    refine ⟨fun n hn => ?_, ?_⟩
    · have hn : n ∈ [0] := hn
      rw [hl]
      simp only [List.mem_cons, List.not_mem_nil, or_false] at hn
      show n < 14; omega
    · show (-1) * w_fi ws (n_v vs 0) 159 + 0 ≤ ((-k))
      omega
  refine ⟨(fun _ h => (by cases h)), [], trivial, ?_, (fun _ h => (by cases h))⟩
  rw [List.append_nil]
  exact List.forall_mem_cons.mpr ⟨⟨show (20 : Nat) < 100 from by decide, nf0⟩, List.forall_mem_cons.mpr ⟨⟨show (20 : Nat) < 100 from by decide, nf1⟩, List.forall_mem_cons.mpr ⟨⟨show (20 : Nat) < 100 from by decide, nf2⟩, (fun _ h => (by cases h))⟩⟩⟩
def o_Mo_oneTest_f_26 (k : Int) : or_T := (8, 4, [(0, (2, 0, 0, [150])), (1, (0, 0, 2009, []))], [(20, [0], [50, 2, 1, 158, 157, 160, 2, 12, 0, 7, 4, 3, 2, 0, 158, 0, 1, 2, 0, 157, 2, 7, 0, 3, 2, 0, 157, 0, 2010, 3, 14, 1, 10, 3, 0, 160, 5, 3, 2, 0, 157, 0, 1, 0, 0, 1, 10, 3, 0, 160, 5, 3, 2, 0, 157, 0, 1, 0, 4]), (20, [0, 1], [30, 0, 1, 1, 158, -1, 0, 0]), (20, [0, 1], [30, 0, -1, 1, 158, 1, 0, 0]), (20, [0], [50, 2, 0, 164, 165, 4, 7, 1, 3, 2, 0, 164, 0, 0, 0, 3, 2, 0, 165, 0, 23]), (20, [0], [30, k, 1, 1, 159]), (20, [0], [30, (-k), -1, 1, 159])], [], [], [(20, [1, 0], [30, 0, 1, 0, 0, -1, 1, 158])], [], [])
theorem oo_Mo_oneTest_f_26 {kA : Nat → ClassId} (k : Int) (hk0 : 0 ≤ k) (hk1 : k ≤ 12) : or_ok kA GG (o_Mo_oneTest_f_26 k) := by
  intro A ta ws vs hD hth hl hk hds hf
  have hl : vs.length = 4 := hl
  have hk : ∀ q ∈ ([(0, (2, 0, 0, [150])), (1, (0, 0, 2009, []))] : List (Nat × tv_T)), tv_ok ta q.2 (n_v vs q.1) := hk
  obtain ⟨t0, hk⟩ := List.forall_mem_cons.mp hk
  have t0 : tv_ok ta (2, 0, 0, [150]) (n_v vs 0) := t0
  have r0 : ta (v_ad (n_v vs 0)) = some 150 := tv_rg t0
  obtain ⟨t1, hk⟩ := List.forall_mem_cons.mp hk
  have t1 : tv_ok ta (0, 0, 2009, []) (n_v vs 1) := t1
  have k1 : 0 ≤ v_iv (n_v vs 1) ∧ v_iv (n_v vs 1) ≤ 2009 := tv_rng t1
  have hf : fc_ok [(20, [0], [50, 2, 1, 158, 157, 160, 2, 12, 0, 7, 4, 3, 2, 0, 158, 0, 1, 2, 0, 157, 2, 7, 0, 3, 2, 0, 157, 0, 2010, 3, 14, 1, 10, 3, 0, 160, 5, 3, 2, 0, 157, 0, 1, 0, 0, 1, 10, 3, 0, 160, 5, 3, 2, 0, 157, 0, 1, 0, 4]), (20, [0, 1], [30, 0, 1, 1, 158, -1, 0, 0]), (20, [0, 1], [30, 0, -1, 1, 158, 1, 0, 0]), (20, [0], [50, 2, 0, 164, 165, 4, 7, 1, 3, 2, 0, 164, 0, 0, 0, 3, 2, 0, 165, 0, 23]), (20, [0], [30, k, 1, 1, 159]), (20, [0], [30, (-k), -1, 1, 159])] ta ws vs := hf
  obtain ⟨f0, hf⟩ := fc_un (show (20 : Nat) < 100 from by decide) hf
  have f0 : ((w_fi ws (n_v vs 0) 158 + 1) ≤ w_fi ws (n_v vs 0) 157) ∧ ((w_fi ws (n_v vs 0) 157 ≤ 2010) ∧ ((w_ei ws (w_ar ws (n_v vs 0) 160) ((w_fi ws (n_v vs 0) 157 - 1)) = 0) ∨ (w_ei ws (w_ar ws (n_v vs 0) 160) ((w_fi ws (n_v vs 0) 157 - 1)) = 4))) := f0
  obtain ⟨f1, hf⟩ := fc_un (show (20 : Nat) < 100 from by decide) hf
  have f1 : 1 * w_fi ws (n_v vs 0) 158 + ((-1) * v_iv (n_v vs 1) + 0) ≤ 0 := f1
  obtain ⟨f2, hf⟩ := fc_un (show (20 : Nat) < 100 from by decide) hf
  have f2 : (-1) * w_fi ws (n_v vs 0) 158 + (1 * v_iv (n_v vs 1) + 0) ≤ 0 := f2
  obtain ⟨f3, hf⟩ := fc_un (show (20 : Nat) < 100 from by decide) hf
  have f3 : (w_fi ws (n_v vs 0) 164 = 0) → (w_fi ws (n_v vs 0) 165 ≤ 23) := f3
  obtain ⟨f4, hf⟩ := fc_un (show (20 : Nat) < 100 from by decide) hf
  have f4 : 1 * w_fi ws (n_v vs 0) 159 + 0 ≤ k := f4
  obtain ⟨f5, hf⟩ := fc_un (show (20 : Nat) < 100 from by decide) hf
  have f5 : (-1) * w_fi ws (n_v vs 0) 159 + 0 ≤ ((-k)) := f5
  have cr_0_160 : ta (w_ar ws (n_v vs 0) 160) = some 259 := tv_rg (th_fd hD hth r0 (g := GG_150) rfl (k := 160) (t := (2, 0, 0, [259])) rfl rfl)
  have hK_0_160 : ∀ j : Int, 0 ≤ j → j < 2010 → 0 ≤ w_ei ws (w_ar ws (n_v vs 0) 160) j ∧ w_ei ws (w_ar ws (n_v vs 0) 160) j ≤ 4 := fun j h0 h1 => th_el hD hth cr_0_160 (kd := 0) (n := 2010) (m := 2010) (lo := 0) (hi := 4) (rs := []) (L := []) rfl (by decide) (j := j.toNat) (by omega)
  have kz_0_157 : 0 ≤ w_fi ws (n_v vs 0) 157 ∧ w_fi ws (n_v vs 0) 157 ≤ 2010 := tv_rng (th_fd hD hth r0 (g := GG_150) rfl (k := 157) (t := (0, 0, 2010, [])) rfl rfl)
  have kz_0_158 : 0 ≤ w_fi ws (n_v vs 0) 158 ∧ w_fi ws (n_v vs 0) 158 ≤ 2009 := tv_rng (th_fd hD hth r0 (g := GG_150) rfl (k := 158) (t := (0, 0, 2009, [])) rfl rfl)
  have kz_0_159 : 0 ≤ w_fi ws (n_v vs 0) 159 ∧ w_fi ws (n_v vs 0) 159 ≤ 13 := tv_rng (th_fd hD hth r0 (g := GG_150) rfl (k := 159) (t := (0, 0, 13, [])) rfl rfl)
  have kz_0_164 : 0 ≤ w_fi ws (n_v vs 0) 164 ∧ w_fi ws (n_v vs 0) 164 ≤ 1 := tv_rng (th_fd hD hth r0 (g := GG_150) rfl (k := 164) (t := (0, 0, 1, [])) rfl rfl)
  have kz_0_165 : (-1) ≤ w_fi ws (n_v vs 0) 165 ∧ w_fi ws (n_v vs 0) 165 ≤ 47 := tv_rng (th_fd hD hth r0 (g := GG_150) rfl (k := 165) (t := (0, -1, 47, [])) rfl rfl)
  have nf0 : fc_1 (20, [1, 0], [30, 0, 1, 0, 0, -1, 1, 158]) ws (vs) := by
    refine ⟨fun n hn => ?_, ?_⟩
    · have hn : n ∈ [1, 0] := hn
      rw [hl]
      simp only [List.mem_cons, List.not_mem_nil, or_false] at hn
      show n < 4; omega
    · show 1 * v_iv (n_v vs 1) + ((-1) * w_fi ws (n_v vs 0) 158 + 0) ≤ 0
      omega
  refine ⟨(fun _ h => (by cases h)), [], trivial, ?_, (fun _ h => (by cases h))⟩
  rw [List.append_nil]
  exact List.forall_mem_cons.mpr ⟨⟨show (20 : Nat) < 100 from by decide, nf0⟩, (fun _ h => (by cases h))⟩
def o_Mo_product_f_0 (k : Int) : or_T := (1, 2, [(0, (2, 0, 0, [150])), (1, (0, 0, 2009, []))], [(20, [0], [50, 2, 1, 158, 157, 160, 2, 12, 0, 7, 4, 3, 2, 0, 158, 0, 1, 2, 0, 157, 2, 7, 0, 3, 2, 0, 157, 0, 2010, 3, 14, 1, 10, 3, 0, 160, 5, 3, 2, 0, 157, 0, 1, 0, 0, 1, 10, 3, 0, 160, 5, 3, 2, 0, 157, 0, 1, 0, 4]), (20, [0, 1], [30, 0, 1, 1, 158, -1, 0, 0]), (20, [0, 1], [30, 0, -1, 1, 158, 1, 0, 0]), (20, [0], [50, 2, 0, 164, 165, 4, 7, 1, 3, 2, 0, 164, 0, 0, 0, 3, 2, 0, 165, 0, 23]), (20, [0], [30, k, 1, 1, 159]), (20, [0], [30, (-k), -1, 1, 159])], [], [(0, 0, 2009, [])], [(20, [0], [50, 2, 1, 158, 157, 160, 2, 12, 0, 7, 4, 3, 2, 0, 158, 0, 1, 2, 0, 157, 2, 7, 0, 3, 2, 0, 157, 0, 2010, 3, 14, 1, 10, 3, 0, 160, 5, 3, 2, 0, 157, 0, 1, 0, 0, 1, 10, 3, 0, 160, 5, 3, 2, 0, 157, 0, 1, 0, 4]), (20, [0, 2], [30, 0, 1, 1, 158, -1, 0, 0]), (20, [0, 2], [30, 0, -1, 1, 158, 1, 0, 0]), (20, [0], [50, 2, 0, 164, 165, 4, 7, 1, 3, 2, 0, 164, 0, 0, 0, 3, 2, 0, 165, 0, 23]), (20, [0], [30, k, 1, 1, 159]), (20, [0], [30, (-k), -1, 1, 159]), (23, [1, 2], [0, 1, -1])], [], [])
theorem oo_Mo_product_f_0 {kA : Nat → ClassId} (k : Int) (hk0 : 0 ≤ k) (hk1 : k ≤ 12) : or_ok kA GG (o_Mo_product_f_0 k) := by
  intro A ta ws vs hD hth hl hk hds hf
  have hl : vs.length = 2 := hl
  have hk : ∀ q ∈ ([(0, (2, 0, 0, [150])), (1, (0, 0, 2009, []))] : List (Nat × tv_T)), tv_ok ta q.2 (n_v vs q.1) := hk
  obtain ⟨t0, hk⟩ := List.forall_mem_cons.mp hk
  have t0 : tv_ok ta (2, 0, 0, [150]) (n_v vs 0) := t0
  have r0 : ta (v_ad (n_v vs 0)) = some 150 := tv_rg t0
  obtain ⟨t1, hk⟩ := List.forall_mem_cons.mp hk
  have t1 : tv_ok ta (0, 0, 2009, []) (n_v vs 1) := t1
  have k1 : 0 ≤ v_iv (n_v vs 1) ∧ v_iv (n_v vs 1) ≤ 2009 := tv_rng t1
  have hf : fc_ok [(20, [0], [50, 2, 1, 158, 157, 160, 2, 12, 0, 7, 4, 3, 2, 0, 158, 0, 1, 2, 0, 157, 2, 7, 0, 3, 2, 0, 157, 0, 2010, 3, 14, 1, 10, 3, 0, 160, 5, 3, 2, 0, 157, 0, 1, 0, 0, 1, 10, 3, 0, 160, 5, 3, 2, 0, 157, 0, 1, 0, 4]), (20, [0, 1], [30, 0, 1, 1, 158, -1, 0, 0]), (20, [0, 1], [30, 0, -1, 1, 158, 1, 0, 0]), (20, [0], [50, 2, 0, 164, 165, 4, 7, 1, 3, 2, 0, 164, 0, 0, 0, 3, 2, 0, 165, 0, 23]), (20, [0], [30, k, 1, 1, 159]), (20, [0], [30, (-k), -1, 1, 159])] ta ws vs := hf
  obtain ⟨f0, hf⟩ := fc_un (show (20 : Nat) < 100 from by decide) hf
  have f0 : ((w_fi ws (n_v vs 0) 158 + 1) ≤ w_fi ws (n_v vs 0) 157) ∧ ((w_fi ws (n_v vs 0) 157 ≤ 2010) ∧ ((w_ei ws (w_ar ws (n_v vs 0) 160) ((w_fi ws (n_v vs 0) 157 - 1)) = 0) ∨ (w_ei ws (w_ar ws (n_v vs 0) 160) ((w_fi ws (n_v vs 0) 157 - 1)) = 4))) := f0
  obtain ⟨f1, hf⟩ := fc_un (show (20 : Nat) < 100 from by decide) hf
  have f1 : 1 * w_fi ws (n_v vs 0) 158 + ((-1) * v_iv (n_v vs 1) + 0) ≤ 0 := f1
  obtain ⟨f2, hf⟩ := fc_un (show (20 : Nat) < 100 from by decide) hf
  have f2 : (-1) * w_fi ws (n_v vs 0) 158 + (1 * v_iv (n_v vs 1) + 0) ≤ 0 := f2
  obtain ⟨f3, hf⟩ := fc_un (show (20 : Nat) < 100 from by decide) hf
  have f3 : (w_fi ws (n_v vs 0) 164 = 0) → (w_fi ws (n_v vs 0) 165 ≤ 23) := f3
  obtain ⟨f4, hf⟩ := fc_un (show (20 : Nat) < 100 from by decide) hf
  have f4 : 1 * w_fi ws (n_v vs 0) 159 + 0 ≤ k := f4
  obtain ⟨f5, hf⟩ := fc_un (show (20 : Nat) < 100 from by decide) hf
  have f5 : (-1) * w_fi ws (n_v vs 0) 159 + 0 ≤ ((-k)) := f5
  have cr_0_160 : ta (w_ar ws (n_v vs 0) 160) = some 259 := tv_rg (th_fd hD hth r0 (g := GG_150) rfl (k := 160) (t := (2, 0, 0, [259])) rfl rfl)
  have hK_0_160 : ∀ j : Int, 0 ≤ j → j < 2010 → 0 ≤ w_ei ws (w_ar ws (n_v vs 0) 160) j ∧ w_ei ws (w_ar ws (n_v vs 0) 160) j ≤ 4 := fun j h0 h1 => th_el hD hth cr_0_160 (kd := 0) (n := 2010) (m := 2010) (lo := 0) (hi := 4) (rs := []) (L := []) rfl (by decide) (j := j.toNat) (by omega)
  have kz_0_157 : 0 ≤ w_fi ws (n_v vs 0) 157 ∧ w_fi ws (n_v vs 0) 157 ≤ 2010 := tv_rng (th_fd hD hth r0 (g := GG_150) rfl (k := 157) (t := (0, 0, 2010, [])) rfl rfl)
  have kz_0_158 : 0 ≤ w_fi ws (n_v vs 0) 158 ∧ w_fi ws (n_v vs 0) 158 ≤ 2009 := tv_rng (th_fd hD hth r0 (g := GG_150) rfl (k := 158) (t := (0, 0, 2009, [])) rfl rfl)
  have kz_0_159 : 0 ≤ w_fi ws (n_v vs 0) 159 ∧ w_fi ws (n_v vs 0) 159 ≤ 13 := tv_rng (th_fd hD hth r0 (g := GG_150) rfl (k := 159) (t := (0, 0, 13, [])) rfl rfl)
  have kz_0_164 : 0 ≤ w_fi ws (n_v vs 0) 164 ∧ w_fi ws (n_v vs 0) 164 ≤ 1 := tv_rng (th_fd hD hth r0 (g := GG_150) rfl (k := 164) (t := (0, 0, 1, [])) rfl rfl)
  have kz_0_165 : (-1) ≤ w_fi ws (n_v vs 0) 165 ∧ w_fi ws (n_v vs 0) 165 ≤ 47 := tv_rng (th_fd hD hth r0 (g := GG_150) rfl (k := 165) (t := (0, -1, 47, [])) rfl rfl)
  have kv0 : 0 ≤ w_fi ws (n_v vs 0) 158 ∧ w_fi ws (n_v vs 0) 158 ≤ 2009 := tv_rng (th_fd hD hth r0 (g := GG_150) rfl (k := 158) (t := (0, 0, 2009, [])) rfl rfl)
  obtain ⟨x, ex, hx⟩ := iv_ex (ta := ta) (lo := 0) (hi := 2009) (z := w_fi ws (n_v vs 0) 158) (by omega) (by omega) (by omega) (by omega)
  have ex2 : v_iv (Value.int x) = w_fi ws (n_v vs 0) 158 := ex
  have ex3 : 0 ≤ v_iv (Value.int x) ∧ v_iv (Value.int x) ≤ 2009 := tv_rng hx
  have e_0 : n_v (vs ++ [Value.int x]) 0 = n_v vs 0 := n_v_old (by rw [hl]; decide)
  have e_1 : n_v (vs ++ [Value.int x]) 1 = n_v vs 1 := n_v_old (by rw [hl]; decide)
  have e_2 : n_v (vs ++ [Value.int x]) 2 = Value.int x := n_v_new hl
  have nf0 : fc_1 (20, [0], [50, 2, 1, 158, 157, 160, 2, 12, 0, 7, 4, 3, 2, 0, 158, 0, 1, 2, 0, 157, 2, 7, 0, 3, 2, 0, 157, 0, 2010, 3, 14, 1, 10, 3, 0, 160, 5, 3, 2, 0, 157, 0, 1, 0, 0, 1, 10, 3, 0, 160, 5, 3, 2, 0, 157, 0, 1, 0, 4]) ws (vs ++ [Value.int x]) := by
    refine ⟨fun n hn => ?_, ?_⟩
    · have hn : n ∈ [0] := hn
      rw [List.length_append, hl]
      simp only [List.mem_cons, List.not_mem_nil, or_false] at hn
      show n < 2 + 1; omega
    · show ((w_fi ws (n_v (vs ++ [Value.int x]) 0) 158 + 1) ≤ w_fi ws (n_v (vs ++ [Value.int x]) 0) 157) ∧ ((w_fi ws (n_v (vs ++ [Value.int x]) 0) 157 ≤ 2010) ∧ ((w_ei ws (w_ar ws (n_v (vs ++ [Value.int x]) 0) 160) ((w_fi ws (n_v (vs ++ [Value.int x]) 0) 157 - 1)) = 0) ∨ (w_ei ws (w_ar ws (n_v (vs ++ [Value.int x]) 0) 160) ((w_fi ws (n_v (vs ++ [Value.int x]) 0) 157 - 1)) = 4)))
      rw [e_0]
      first | omega | grind
  have nf1 : fc_1 (20, [0, 2], [30, 0, 1, 1, 158, -1, 0, 0]) ws (vs ++ [Value.int x]) := by
    refine ⟨fun n hn => ?_, ?_⟩
    · have hn : n ∈ [0, 2] := hn
      rw [List.length_append, hl]
      simp only [List.mem_cons, List.not_mem_nil, or_false] at hn
      show n < 2 + 1; omega
    · show 1 * w_fi ws (n_v (vs ++ [Value.int x]) 0) 158 + ((-1) * v_iv (n_v (vs ++ [Value.int x]) 2) + 0) ≤ 0
      rw [e_0]
      rw [e_2]
      omega
  have nf2 : fc_1 (20, [0, 2], [30, 0, -1, 1, 158, 1, 0, 0]) ws (vs ++ [Value.int x]) := by
    refine ⟨fun n hn => ?_, ?_⟩
    · have hn : n ∈ [0, 2] := hn
      rw [List.length_append, hl]
      simp only [List.mem_cons, List.not_mem_nil, or_false] at hn
      show n < 2 + 1; omega
    · show (-1) * w_fi ws (n_v (vs ++ [Value.int x]) 0) 158 + (1 * v_iv (n_v (vs ++ [Value.int x]) 2) + 0) ≤ 0
      rw [e_0]
      rw [e_2]
      omega
  have nf3 : fc_1 (20, [0], [50, 2, 0, 164, 165, 4, 7, 1, 3, 2, 0, 164, 0, 0, 0, 3, 2, 0, 165, 0, 23]) ws (vs ++ [Value.int x]) := by
    refine ⟨fun n hn => ?_, ?_⟩
    · have hn : n ∈ [0] := hn
      rw [List.length_append, hl]
      simp only [List.mem_cons, List.not_mem_nil, or_false] at hn
      show n < 2 + 1; omega
    · show (w_fi ws (n_v (vs ++ [Value.int x]) 0) 164 = 0) → (w_fi ws (n_v (vs ++ [Value.int x]) 0) 165 ≤ 23)
      rw [e_0]
      first | omega | grind
  have nf4 : fc_1 (20, [0], [30, k, 1, 1, 159]) ws (vs ++ [Value.int x]) := by
    refine ⟨fun n hn => ?_, ?_⟩
    · have hn : n ∈ [0] := hn
      rw [List.length_append, hl]
      simp only [List.mem_cons, List.not_mem_nil, or_false] at hn
      show n < 2 + 1; omega
    · show 1 * w_fi ws (n_v (vs ++ [Value.int x]) 0) 159 + 0 ≤ k
      rw [e_0]
      omega
  have nf5 : fc_1 (20, [0], [30, (-k), -1, 1, 159]) ws (vs ++ [Value.int x]) := by
    refine ⟨fun n hn => ?_, ?_⟩
    · have hn : n ∈ [0] := hn
      rw [List.length_append, hl]
      simp only [List.mem_cons, List.not_mem_nil, or_false] at hn
      show n < 2 + 1; omega
    · show (-1) * w_fi ws (n_v (vs ++ [Value.int x]) 0) 159 + 0 ≤ ((-k))
      rw [e_0]
      omega
  have nf6 : fc_1 (23, [1, 2], [0, 1, -1]) ws (vs ++ [Value.int x]) := by
    refine ⟨fun n hn => ?_, ?_⟩
    · have hn : n ∈ [1, 2] := hn
      rw [List.length_append, hl]
      simp only [List.mem_cons, List.not_mem_nil, or_false] at hn
      show n < 2 + 1; omega
    · show 1 * v_iv (n_v (vs ++ [Value.int x]) 1) + ((-1) * v_iv (n_v (vs ++ [Value.int x]) 2) + 0) ≤ 0
      rw [e_1]
      rw [e_2]
      omega
  exact ⟨(fun _ h => (by cases h)), [Value.int x], ag_one hx, List.forall_mem_cons.mpr ⟨⟨show (20 : Nat) < 100 from by decide, nf0⟩, List.forall_mem_cons.mpr ⟨⟨show (20 : Nat) < 100 from by decide, nf1⟩, List.forall_mem_cons.mpr ⟨⟨show (20 : Nat) < 100 from by decide, nf2⟩, List.forall_mem_cons.mpr ⟨⟨show (20 : Nat) < 100 from by decide, nf3⟩, List.forall_mem_cons.mpr ⟨⟨show (20 : Nat) < 100 from by decide, nf4⟩, List.forall_mem_cons.mpr ⟨⟨show (20 : Nat) < 100 from by decide, nf5⟩, List.forall_mem_cons.mpr ⟨⟨show (23 : Nat) < 100 from by decide, nf6⟩, (fun _ h => (by cases h))⟩⟩⟩⟩⟩⟩⟩, (fun _ h => (by cases h))⟩
def o_Mo_product_f_1 (k : Int) : or_T := (5, 4, [(0, (2, 0, 0, [150])), (1, (0, 0, 2009, [])), (2, (0, 0, 2009, []))], [(20, [0], [50, 2, 0, 164, 165, 4, 7, 1, 3, 2, 0, 164, 0, 0, 0, 3, 2, 0, 165, 0, 23]), (23, [1, 2], [0, 1, -1]), (20, [0], [50, 2, 0, 164, 165, 4, 7, 1, 3, 2, 0, 164, 0, 0, 0, 3, 2, 0, 165, 0, 23]), (20, [0], [50, 2, 1, 158, 157, 160, 2, 12, 0, 7, 4, 3, 2, 0, 158, 0, 1, 2, 0, 157, 2, 7, 0, 3, 2, 0, 157, 0, 2010, 3, 14, 1, 10, 3, 0, 160, 5, 3, 2, 0, 157, 0, 1, 0, 0, 1, 10, 3, 0, 160, 5, 3, 2, 0, 157, 0, 1, 0, 4]), (20, [2, 0], [30, 0, 1, 0, 0, -1, 1, 158]), (20, [0], [30, k, 1, 1, 159]), (20, [0], [30, (-k), -1, 1, 159]), (102, [2], [0, 13008, 13009, 13158, 13159]), (23, [1, 2], [0, 1, -1])], [], [(0, 0, 2010, [])], [(20, [0], [50, 2, 1, 158, 157, 160, 2, 12, 0, 7, 4, 3, 2, 0, 158, 0, 1, 2, 0, 157, 2, 7, 0, 3, 2, 0, 157, 0, 2010, 3, 14, 1, 10, 3, 0, 160, 5, 3, 2, 0, 157, 0, 1, 0, 0, 1, 10, 3, 0, 160, 5, 3, 2, 0, 157, 0, 1, 0, 4]), (20, [1, 0], [30, 0, 1, 0, 0, -1, 1, 158]), (20, [0], [50, 2, 0, 164, 165, 4, 7, 1, 3, 2, 0, 164, 0, 0, 0, 3, 2, 0, 165, 0, 23]), (20, [0], [30, k, 1, 1, 159]), (20, [0], [30, (-k), -1, 1, 159]), (24, [0, 0], []), (20, [4, 0], [30, 2010, 1, 0, 0, 1, 1, 158]), (20, [4, 0], [30, -2010, -1, 0, 0, -1, 1, 158])], [], [])
theorem oo_Mo_product_f_1 {kA : Nat → ClassId} (k : Int) (hk0 : 0 ≤ k) (hk1 : k ≤ 12) : or_ok kA GG (o_Mo_product_f_1 k) := by
  intro A ta ws vs hD hth hl hk hds hf
  have hl : vs.length = 4 := hl
  have hk : ∀ q ∈ ([(0, (2, 0, 0, [150])), (1, (0, 0, 2009, [])), (2, (0, 0, 2009, []))] : List (Nat × tv_T)), tv_ok ta q.2 (n_v vs q.1) := hk
  obtain ⟨t0, hk⟩ := List.forall_mem_cons.mp hk
  have t0 : tv_ok ta (2, 0, 0, [150]) (n_v vs 0) := t0
  have r0 : ta (v_ad (n_v vs 0)) = some 150 := tv_rg t0
  obtain ⟨t1, hk⟩ := List.forall_mem_cons.mp hk
  have t1 : tv_ok ta (0, 0, 2009, []) (n_v vs 1) := t1
  have k1 : 0 ≤ v_iv (n_v vs 1) ∧ v_iv (n_v vs 1) ≤ 2009 := tv_rng t1
  obtain ⟨t2, hk⟩ := List.forall_mem_cons.mp hk
  have t2 : tv_ok ta (0, 0, 2009, []) (n_v vs 2) := t2
  have k2 : 0 ≤ v_iv (n_v vs 2) ∧ v_iv (n_v vs 2) ≤ 2009 := tv_rng t2
  have hf : fc_ok [(20, [0], [50, 2, 0, 164, 165, 4, 7, 1, 3, 2, 0, 164, 0, 0, 0, 3, 2, 0, 165, 0, 23]), (23, [1, 2], [0, 1, -1]), (20, [0], [50, 2, 0, 164, 165, 4, 7, 1, 3, 2, 0, 164, 0, 0, 0, 3, 2, 0, 165, 0, 23]), (20, [0], [50, 2, 1, 158, 157, 160, 2, 12, 0, 7, 4, 3, 2, 0, 158, 0, 1, 2, 0, 157, 2, 7, 0, 3, 2, 0, 157, 0, 2010, 3, 14, 1, 10, 3, 0, 160, 5, 3, 2, 0, 157, 0, 1, 0, 0, 1, 10, 3, 0, 160, 5, 3, 2, 0, 157, 0, 1, 0, 4]), (20, [2, 0], [30, 0, 1, 0, 0, -1, 1, 158]), (20, [0], [30, k, 1, 1, 159]), (20, [0], [30, (-k), -1, 1, 159]), (102, [2], [0, 13008, 13009, 13158, 13159]), (23, [1, 2], [0, 1, -1])] ta ws vs := hf
  obtain ⟨f0, hf⟩ := fc_un (show (20 : Nat) < 100 from by decide) hf
  have f0 : (w_fi ws (n_v vs 0) 164 = 0) → (w_fi ws (n_v vs 0) 165 ≤ 23) := f0
  obtain ⟨f1, hf⟩ := fc_un (show (23 : Nat) < 100 from by decide) hf
  have f1 : 1 * v_iv (n_v vs 1) + ((-1) * v_iv (n_v vs 2) + 0) ≤ 0 := f1
  obtain ⟨f2, hf⟩ := fc_un (show (20 : Nat) < 100 from by decide) hf
  have f2 : (w_fi ws (n_v vs 0) 164 = 0) → (w_fi ws (n_v vs 0) 165 ≤ 23) := f2
  obtain ⟨f3, hf⟩ := fc_un (show (20 : Nat) < 100 from by decide) hf
  have f3 : ((w_fi ws (n_v vs 0) 158 + 1) ≤ w_fi ws (n_v vs 0) 157) ∧ ((w_fi ws (n_v vs 0) 157 ≤ 2010) ∧ ((w_ei ws (w_ar ws (n_v vs 0) 160) ((w_fi ws (n_v vs 0) 157 - 1)) = 0) ∨ (w_ei ws (w_ar ws (n_v vs 0) 160) ((w_fi ws (n_v vs 0) 157 - 1)) = 4))) := f3
  obtain ⟨f4, hf⟩ := fc_un (show (20 : Nat) < 100 from by decide) hf
  have f4 : 1 * v_iv (n_v vs 2) + ((-1) * w_fi ws (n_v vs 0) 158 + 0) ≤ 0 := f4
  obtain ⟨f5, hf⟩ := fc_un (show (20 : Nat) < 100 from by decide) hf
  have f5 : 1 * w_fi ws (n_v vs 0) 159 + 0 ≤ k := f5
  obtain ⟨f6, hf⟩ := fc_un (show (20 : Nat) < 100 from by decide) hf
  have f6 : (-1) * w_fi ws (n_v vs 0) 159 + 0 ≤ ((-k)) := f6
  obtain ⟨ta1, w1, le1, ⟨_, s1⟩, hf⟩ := fc_us (show ¬ (102 : Nat) < 100 from by decide) hf
  obtain ⟨f8, hf⟩ := fc_un (show (23 : Nat) < 100 from by decide) hf
  have f8 : 1 * v_iv (n_v vs 1) + ((-1) * v_iv (n_v vs 2) + 0) ≤ 0 := f8
  have cr_0_160 : ta (w_ar ws (n_v vs 0) 160) = some 259 := tv_rg (th_fd hD hth r0 (g := GG_150) rfl (k := 160) (t := (2, 0, 0, [259])) rfl rfl)
  have hK_0_160 : ∀ j : Int, 0 ≤ j → j < 2010 → 0 ≤ w_ei ws (w_ar ws (n_v vs 0) 160) j ∧ w_ei ws (w_ar ws (n_v vs 0) 160) j ≤ 4 := fun j h0 h1 => th_el hD hth cr_0_160 (kd := 0) (n := 2010) (m := 2010) (lo := 0) (hi := 4) (rs := []) (L := []) rfl (by decide) (j := j.toNat) (by omega)
  have kz_0_157 : 0 ≤ w_fi ws (n_v vs 0) 157 ∧ w_fi ws (n_v vs 0) 157 ≤ 2010 := tv_rng (th_fd hD hth r0 (g := GG_150) rfl (k := 157) (t := (0, 0, 2010, [])) rfl rfl)
  have kz_0_158 : 0 ≤ w_fi ws (n_v vs 0) 158 ∧ w_fi ws (n_v vs 0) 158 ≤ 2009 := tv_rng (th_fd hD hth r0 (g := GG_150) rfl (k := 158) (t := (0, 0, 2009, [])) rfl rfl)
  have kz_0_159 : 0 ≤ w_fi ws (n_v vs 0) 159 ∧ w_fi ws (n_v vs 0) 159 ≤ 13 := tv_rng (th_fd hD hth r0 (g := GG_150) rfl (k := 159) (t := (0, 0, 13, [])) rfl rfl)
  have kz_0_164 : 0 ≤ w_fi ws (n_v vs 0) 164 ∧ w_fi ws (n_v vs 0) 164 ≤ 1 := tv_rng (th_fd hD hth r0 (g := GG_150) rfl (k := 164) (t := (0, 0, 1, [])) rfl rfl)
  have kz_0_165 : (-1) ≤ w_fi ws (n_v vs 0) 165 ∧ w_fi ws (n_v vs 0) 165 ≤ 47 := tv_rng (th_fd hD hth r0 (g := GG_150) rfl (k := 165) (t := (0, -1, 47, [])) rfl rfl)
  have kb_0_158 : 0 ≤ w_fi ws (n_v vs 0) 158 ∧ w_fi ws (n_v vs 0) 158 ≤ 2009 := tv_rng (th_fd hD hth r0 (g := GG_150) rfl (k := 158) (t := (0, 0, 2009, [])) rfl rfl)
  obtain ⟨x, ex, hx⟩ := iv_ex (ta := ta) (lo := 0) (hi := 2010) (z := 2010 + ((-1) * w_fi ws (n_v vs 0) 158 + 0)) (by omega) (by omega) (by omega) (by omega)
  have ex2 : v_iv (Value.int x) = 2010 + ((-1) * w_fi ws (n_v vs 0) 158 + 0) := ex
  have ex3 : 0 ≤ v_iv (Value.int x) ∧ v_iv (Value.int x) ≤ 2010 := tv_rng hx
  have e_0 : n_v (vs ++ [Value.int x]) 0 = n_v vs 0 := n_v_old (by rw [hl]; decide)
  have e_1 : n_v (vs ++ [Value.int x]) 1 = n_v vs 1 := n_v_old (by rw [hl]; decide)
  have e_4 : n_v (vs ++ [Value.int x]) 4 = Value.int x := n_v_new hl
  have nf0 : fc_1 (20, [0], [50, 2, 1, 158, 157, 160, 2, 12, 0, 7, 4, 3, 2, 0, 158, 0, 1, 2, 0, 157, 2, 7, 0, 3, 2, 0, 157, 0, 2010, 3, 14, 1, 10, 3, 0, 160, 5, 3, 2, 0, 157, 0, 1, 0, 0, 1, 10, 3, 0, 160, 5, 3, 2, 0, 157, 0, 1, 0, 4]) ws (vs ++ [Value.int x]) := by
    refine ⟨fun n hn => ?_, ?_⟩
    · have hn : n ∈ [0] := hn
      rw [List.length_append, hl]
      simp only [List.mem_cons, List.not_mem_nil, or_false] at hn
      show n < 4 + 1; omega
    · show ((w_fi ws (n_v (vs ++ [Value.int x]) 0) 158 + 1) ≤ w_fi ws (n_v (vs ++ [Value.int x]) 0) 157) ∧ ((w_fi ws (n_v (vs ++ [Value.int x]) 0) 157 ≤ 2010) ∧ ((w_ei ws (w_ar ws (n_v (vs ++ [Value.int x]) 0) 160) ((w_fi ws (n_v (vs ++ [Value.int x]) 0) 157 - 1)) = 0) ∨ (w_ei ws (w_ar ws (n_v (vs ++ [Value.int x]) 0) 160) ((w_fi ws (n_v (vs ++ [Value.int x]) 0) 157 - 1)) = 4)))
      rw [e_0]
      first | omega | grind
  have nf1 : fc_1 (20, [1, 0], [30, 0, 1, 0, 0, -1, 1, 158]) ws (vs ++ [Value.int x]) := by
    refine ⟨fun n hn => ?_, ?_⟩
    · have hn : n ∈ [1, 0] := hn
      rw [List.length_append, hl]
      simp only [List.mem_cons, List.not_mem_nil, or_false] at hn
      show n < 4 + 1; omega
    · show 1 * v_iv (n_v (vs ++ [Value.int x]) 1) + ((-1) * w_fi ws (n_v (vs ++ [Value.int x]) 0) 158 + 0) ≤ 0
      rw [e_0]
      rw [e_1]
      omega
  have nf2 : fc_1 (20, [0], [50, 2, 0, 164, 165, 4, 7, 1, 3, 2, 0, 164, 0, 0, 0, 3, 2, 0, 165, 0, 23]) ws (vs ++ [Value.int x]) := by
    refine ⟨fun n hn => ?_, ?_⟩
    · have hn : n ∈ [0] := hn
      rw [List.length_append, hl]
      simp only [List.mem_cons, List.not_mem_nil, or_false] at hn
      show n < 4 + 1; omega
    · show (w_fi ws (n_v (vs ++ [Value.int x]) 0) 164 = 0) → (w_fi ws (n_v (vs ++ [Value.int x]) 0) 165 ≤ 23)
      rw [e_0]
      first | omega | grind
  have nf3 : fc_1 (20, [0], [30, k, 1, 1, 159]) ws (vs ++ [Value.int x]) := by
    refine ⟨fun n hn => ?_, ?_⟩
    · have hn : n ∈ [0] := hn
      rw [List.length_append, hl]
      simp only [List.mem_cons, List.not_mem_nil, or_false] at hn
      show n < 4 + 1; omega
    · show 1 * w_fi ws (n_v (vs ++ [Value.int x]) 0) 159 + 0 ≤ k
      rw [e_0]
      omega
  have nf4 : fc_1 (20, [0], [30, (-k), -1, 1, 159]) ws (vs ++ [Value.int x]) := by
    refine ⟨fun n hn => ?_, ?_⟩
    · have hn : n ∈ [0] := hn
      rw [List.length_append, hl]
      simp only [List.mem_cons, List.not_mem_nil, or_false] at hn
      show n < 4 + 1; omega
    · show (-1) * w_fi ws (n_v (vs ++ [Value.int x]) 0) 159 + 0 ≤ ((-k))
      rw [e_0]
      omega
  have nf5 : fc_1 (24, [0, 0], []) ws (vs ++ [Value.int x]) := by
    refine ⟨fun n hn => ?_, ?_⟩
    · have hn : n ∈ [0, 0] := hn
      rw [List.length_append, hl]
      simp only [List.mem_cons, List.not_mem_nil, or_false] at hn
      show n < 4 + 1; omega
    · show n_v (vs ++ [Value.int x]) 0 = n_v (vs ++ [Value.int x]) 0
      first | rfl | simp only [e_0]
  have nf6 : fc_1 (20, [4, 0], [30, 2010, 1, 0, 0, 1, 1, 158]) ws (vs ++ [Value.int x]) := by
    refine ⟨fun n hn => ?_, ?_⟩
    · have hn : n ∈ [4, 0] := hn
      rw [List.length_append, hl]
      simp only [List.mem_cons, List.not_mem_nil, or_false] at hn
      show n < 4 + 1; omega
    · show 1 * v_iv (n_v (vs ++ [Value.int x]) 4) + (1 * w_fi ws (n_v (vs ++ [Value.int x]) 0) 158 + 0) ≤ 2010
      rw [e_0]
      rw [e_4]
      omega
  have nf7 : fc_1 (20, [4, 0], [30, -2010, -1, 0, 0, -1, 1, 158]) ws (vs ++ [Value.int x]) := by
    refine ⟨fun n hn => ?_, ?_⟩
    · have hn : n ∈ [4, 0] := hn
      rw [List.length_append, hl]
      simp only [List.mem_cons, List.not_mem_nil, or_false] at hn
      show n < 4 + 1; omega
    · show (-1) * v_iv (n_v (vs ++ [Value.int x]) 4) + ((-1) * w_fi ws (n_v (vs ++ [Value.int x]) 0) 158 + 0) ≤ (-2010)
      rw [e_0]
      rw [e_4]
      omega
  exact ⟨(fun _ h => (by cases h)), [Value.int x], ag_one hx, List.forall_mem_cons.mpr ⟨⟨show (20 : Nat) < 100 from by decide, nf0⟩, List.forall_mem_cons.mpr ⟨⟨show (20 : Nat) < 100 from by decide, nf1⟩, List.forall_mem_cons.mpr ⟨⟨show (20 : Nat) < 100 from by decide, nf2⟩, List.forall_mem_cons.mpr ⟨⟨show (20 : Nat) < 100 from by decide, nf3⟩, List.forall_mem_cons.mpr ⟨⟨show (20 : Nat) < 100 from by decide, nf4⟩, List.forall_mem_cons.mpr ⟨⟨show (24 : Nat) < 100 from by decide, nf5⟩, List.forall_mem_cons.mpr ⟨⟨show (20 : Nat) < 100 from by decide, nf6⟩, List.forall_mem_cons.mpr ⟨⟨show (20 : Nat) < 100 from by decide, nf7⟩, (fun _ h => (by cases h))⟩⟩⟩⟩⟩⟩⟩⟩, (fun _ h => (by cases h))⟩
def o_Mo_product_f_2 (k : Int) : or_T := (79, 10, [(0, (2, 0, 0, [150])), (1, (0, 0, 2009, [])), (2, (2, 0, 0, [150])), (5, (0, 0, 2010, [])), (7, (0, 0, 0, [])), (9, (0, 0, 0, []))], [(8, [9], [0]), (20, [9, 2], [50, 1, 1, 1158, 1160, 4, 6, 1, 2, 1, 0, 0, 1, 1, 6, 3, 1, 160, 2, 1, 158, 0, 3]), (8, [7], [0]), (20, [7, 2], [50, 1, 1, 1158, 1160, 4, 6, 1, 2, 1, 0, 0, 1, 1, 6, 3, 1, 160, 2, 1, 158, 0, 3]), (20, [2], [50, 2, 1, 158, 157, 160, 2, 12, 0, 7, 4, 3, 2, 0, 158, 0, 1, 2, 0, 157, 2, 7, 0, 3, 2, 0, 157, 0, 2010, 3, 14, 1, 10, 3, 0, 160, 5, 3, 2, 0, 157, 0, 1, 0, 0, 1, 10, 3, 0, 160, 5, 3, 2, 0, 157, 0, 1, 0, 4]), (20, [1, 2], [30, 0, 1, 0, 0, -1, 1, 158]), (20, [2], [30, k, 1, 1, 159]), (20, [2], [30, (-k), -1, 1, 159]), (24, [0, 2], []), (20, [5, 2], [30, 2010, 1, 0, 0, 1, 1, 158]), (20, [5, 2], [30, -2010, -1, 0, 0, -1, 1, 158])], [], [], [(20, [0], [50, 2, 1, 158, 157, 160, 2, 12, 0, 7, 4, 3, 2, 0, 158, 0, 1, 2, 0, 157, 2, 7, 0, 3, 2, 0, 157, 0, 2010, 3, 14, 1, 10, 3, 0, 160, 5, 3, 2, 0, 157, 0, 1, 0, 0, 1, 10, 3, 0, 160, 5, 3, 2, 0, 157, 0, 1, 0, 4]), (20, [1, 0], [30, 0, 1, 0, 0, -1, 1, 158]), (20, [0], [30, k, 1, 1, 159]), (20, [0], [30, (-k), -1, 1, 159])], [], [])
theorem oo_Mo_product_f_2 {kA : Nat → ClassId} (k : Int) (hk0 : 0 ≤ k) (hk1 : k ≤ 12) : or_ok kA GG (o_Mo_product_f_2 k) := by
  intro A ta ws vs hD hth hl hk hds hf
  have hl : vs.length = 10 := hl
  have hk : ∀ q ∈ ([(0, (2, 0, 0, [150])), (1, (0, 0, 2009, [])), (2, (2, 0, 0, [150])), (5, (0, 0, 2010, [])), (7, (0, 0, 0, [])), (9, (0, 0, 0, []))] : List (Nat × tv_T)), tv_ok ta q.2 (n_v vs q.1) := hk
  obtain ⟨t0, hk⟩ := List.forall_mem_cons.mp hk
  have t0 : tv_ok ta (2, 0, 0, [150]) (n_v vs 0) := t0
  have r0 : ta (v_ad (n_v vs 0)) = some 150 := tv_rg t0
  obtain ⟨t1, hk⟩ := List.forall_mem_cons.mp hk
  have t1 : tv_ok ta (0, 0, 2009, []) (n_v vs 1) := t1
  have k1 : 0 ≤ v_iv (n_v vs 1) ∧ v_iv (n_v vs 1) ≤ 2009 := tv_rng t1
  obtain ⟨t2, hk⟩ := List.forall_mem_cons.mp hk
  have t2 : tv_ok ta (2, 0, 0, [150]) (n_v vs 2) := t2
  have r2 : ta (v_ad (n_v vs 2)) = some 150 := tv_rg t2
  obtain ⟨t5, hk⟩ := List.forall_mem_cons.mp hk
  have t5 : tv_ok ta (0, 0, 2010, []) (n_v vs 5) := t5
  have k5 : 0 ≤ v_iv (n_v vs 5) ∧ v_iv (n_v vs 5) ≤ 2010 := tv_rng t5
  obtain ⟨t7, hk⟩ := List.forall_mem_cons.mp hk
  have t7 : tv_ok ta (0, 0, 0, []) (n_v vs 7) := t7
  have k7 : 0 ≤ v_iv (n_v vs 7) ∧ v_iv (n_v vs 7) ≤ 0 := tv_rng t7
  obtain ⟨t9, hk⟩ := List.forall_mem_cons.mp hk
  have t9 : tv_ok ta (0, 0, 0, []) (n_v vs 9) := t9
  have k9 : 0 ≤ v_iv (n_v vs 9) ∧ v_iv (n_v vs 9) ≤ 0 := tv_rng t9
  have hf : fc_ok [(8, [9], [0]), (20, [9, 2], [50, 1, 1, 1158, 1160, 4, 6, 1, 2, 1, 0, 0, 1, 1, 6, 3, 1, 160, 2, 1, 158, 0, 3]), (8, [7], [0]), (20, [7, 2], [50, 1, 1, 1158, 1160, 4, 6, 1, 2, 1, 0, 0, 1, 1, 6, 3, 1, 160, 2, 1, 158, 0, 3]), (20, [2], [50, 2, 1, 158, 157, 160, 2, 12, 0, 7, 4, 3, 2, 0, 158, 0, 1, 2, 0, 157, 2, 7, 0, 3, 2, 0, 157, 0, 2010, 3, 14, 1, 10, 3, 0, 160, 5, 3, 2, 0, 157, 0, 1, 0, 0, 1, 10, 3, 0, 160, 5, 3, 2, 0, 157, 0, 1, 0, 4]), (20, [1, 2], [30, 0, 1, 0, 0, -1, 1, 158]), (20, [2], [30, k, 1, 1, 159]), (20, [2], [30, (-k), -1, 1, 159]), (24, [0, 2], []), (20, [5, 2], [30, 2010, 1, 0, 0, 1, 1, 158]), (20, [5, 2], [30, -2010, -1, 0, 0, -1, 1, 158])] ta ws vs := hf
  obtain ⟨f0, hf⟩ := fc_un (show (8 : Nat) < 100 from by decide) hf
  have f0 : v_iv (n_v vs 9) = 0 := f0
  obtain ⟨f1, hf⟩ := fc_un (show (20 : Nat) < 100 from by decide) hf
  have f1 : (v_iv (n_v vs 9) = 1) → (w_ei ws (w_ar ws (n_v vs 2) 160) (w_fi ws (n_v vs 2) 158) = 3) := f1
  obtain ⟨f2, hf⟩ := fc_un (show (8 : Nat) < 100 from by decide) hf
  have f2 : v_iv (n_v vs 7) = 0 := f2
  obtain ⟨f3, hf⟩ := fc_un (show (20 : Nat) < 100 from by decide) hf
  have f3 : (v_iv (n_v vs 7) = 1) → (w_ei ws (w_ar ws (n_v vs 2) 160) (w_fi ws (n_v vs 2) 158) = 3) := f3
  obtain ⟨f4, hf⟩ := fc_un (show (20 : Nat) < 100 from by decide) hf
  have f4 : ((w_fi ws (n_v vs 2) 158 + 1) ≤ w_fi ws (n_v vs 2) 157) ∧ ((w_fi ws (n_v vs 2) 157 ≤ 2010) ∧ ((w_ei ws (w_ar ws (n_v vs 2) 160) ((w_fi ws (n_v vs 2) 157 - 1)) = 0) ∨ (w_ei ws (w_ar ws (n_v vs 2) 160) ((w_fi ws (n_v vs 2) 157 - 1)) = 4))) := f4
  obtain ⟨f5, hf⟩ := fc_un (show (20 : Nat) < 100 from by decide) hf
  have f5 : 1 * v_iv (n_v vs 1) + ((-1) * w_fi ws (n_v vs 2) 158 + 0) ≤ 0 := f5
  obtain ⟨f6, hf⟩ := fc_un (show (20 : Nat) < 100 from by decide) hf
  have f6 : 1 * w_fi ws (n_v vs 2) 159 + 0 ≤ k := f6
  obtain ⟨f7, hf⟩ := fc_un (show (20 : Nat) < 100 from by decide) hf
  have f7 : (-1) * w_fi ws (n_v vs 2) 159 + 0 ≤ ((-k)) := f7
  obtain ⟨f8, hf⟩ := fc_un (show (24 : Nat) < 100 from by decide) hf
  have f8 : n_v vs 0 = n_v vs 2 := f8
  obtain ⟨f9, hf⟩ := fc_un (show (20 : Nat) < 100 from by decide) hf
  have f9 : 1 * v_iv (n_v vs 5) + (1 * w_fi ws (n_v vs 2) 158 + 0) ≤ 2010 := f9
  obtain ⟨f10, hf⟩ := fc_un (show (20 : Nat) < 100 from by decide) hf
  have f10 : (-1) * v_iv (n_v vs 5) + ((-1) * w_fi ws (n_v vs 2) 158 + 0) ≤ (-2010) := f10
  have q2 : n_v vs 2 = n_v vs 0 := f8.symm
  rw [q2] at f1
  rw [q2] at f3
  rw [q2] at f4
  rw [q2] at f5
  rw [q2] at f6
  rw [q2] at f7
  rw [q2] at f9
  rw [q2] at f10
  have cr_0_160 : ta (w_ar ws (n_v vs 0) 160) = some 259 := tv_rg (th_fd hD hth r0 (g := GG_150) rfl (k := 160) (t := (2, 0, 0, [259])) rfl rfl)
  have hK_0_160 : ∀ j : Int, 0 ≤ j → j < 2010 → 0 ≤ w_ei ws (w_ar ws (n_v vs 0) 160) j ∧ w_ei ws (w_ar ws (n_v vs 0) 160) j ≤ 4 := fun j h0 h1 => th_el hD hth cr_0_160 (kd := 0) (n := 2010) (m := 2010) (lo := 0) (hi := 4) (rs := []) (L := []) rfl (by decide) (j := j.toNat) (by omega)
  have kz_0_157 : 0 ≤ w_fi ws (n_v vs 0) 157 ∧ w_fi ws (n_v vs 0) 157 ≤ 2010 := tv_rng (th_fd hD hth r0 (g := GG_150) rfl (k := 157) (t := (0, 0, 2010, [])) rfl rfl)
  have kz_0_158 : 0 ≤ w_fi ws (n_v vs 0) 158 ∧ w_fi ws (n_v vs 0) 158 ≤ 2009 := tv_rng (th_fd hD hth r0 (g := GG_150) rfl (k := 158) (t := (0, 0, 2009, [])) rfl rfl)
  have kz_0_159 : 0 ≤ w_fi ws (n_v vs 0) 159 ∧ w_fi ws (n_v vs 0) 159 ≤ 13 := tv_rng (th_fd hD hth r0 (g := GG_150) rfl (k := 159) (t := (0, 0, 13, [])) rfl rfl)
  have nf0 : fc_1 (20, [0], [50, 2, 1, 158, 157, 160, 2, 12, 0, 7, 4, 3, 2, 0, 158, 0, 1, 2, 0, 157, 2, 7, 0, 3, 2, 0, 157, 0, 2010, 3, 14, 1, 10, 3, 0, 160, 5, 3, 2, 0, 157, 0, 1, 0, 0, 1, 10, 3, 0, 160, 5, 3, 2, 0, 157, 0, 1, 0, 4]) ws (vs) := by
    refine ⟨fun n hn => ?_, ?_⟩
    · have hn : n ∈ [0] := hn
      rw [hl]
      simp only [List.mem_cons, List.not_mem_nil, or_false] at hn
      show n < 10; omega
    · show ((w_fi ws (n_v vs 0) 158 + 1) ≤ w_fi ws (n_v vs 0) 157) ∧ ((w_fi ws (n_v vs 0) 157 ≤ 2010) ∧ ((w_ei ws (w_ar ws (n_v vs 0) 160) ((w_fi ws (n_v vs 0) 157 - 1)) = 0) ∨ (w_ei ws (w_ar ws (n_v vs 0) 160) ((w_fi ws (n_v vs 0) 157 - 1)) = 4)))
      first | omega | grind
  have nf1 : fc_1 (20, [1, 0], [30, 0, 1, 0, 0, -1, 1, 158]) ws (vs) := by
    refine ⟨fun n hn => ?_, ?_⟩
    · have hn : n ∈ [1, 0] := hn
      rw [hl]
      simp only [List.mem_cons, List.not_mem_nil, or_false] at hn
      show n < 10; omega
    · show 1 * v_iv (n_v vs 1) + ((-1) * w_fi ws (n_v vs 0) 158 + 0) ≤ 0
      omega
  have nf2 : fc_1 (20, [0], [30, k, 1, 1, 159]) ws (vs) := by
    refine ⟨fun n hn => ?_, ?_⟩
    · have hn : n ∈ [0] := hn
      rw [hl]
      simp only [List.mem_cons, List.not_mem_nil, or_false] at hn
      show n < 10; omega
    · show 1 * w_fi ws (n_v vs 0) 159 + 0 ≤ k
      omega
  have nf3 : fc_1 (20, [0], [30, (-k), -1, 1, 159]) ws (vs) := by
    refine ⟨fun n hn => ?_, ?_⟩
    · have hn : n ∈ [0] := hn
      rw [hl]
      simp only [List.mem_cons, List.not_mem_nil, or_false] at hn
      show n < 10; omega
    · show (-1) * w_fi ws (n_v vs 0) 159 + 0 ≤ ((-k))
      omega
  refine ⟨(fun _ h => (by cases h)), [], trivial, ?_, (fun _ h => (by cases h))⟩
  rw [List.append_nil]
  exact List.forall_mem_cons.mpr ⟨⟨show (20 : Nat) < 100 from by decide, nf0⟩, List.forall_mem_cons.mpr ⟨⟨show (20 : Nat) < 100 from by decide, nf1⟩, List.forall_mem_cons.mpr ⟨⟨show (20 : Nat) < 100 from by decide, nf2⟩, List.forall_mem_cons.mpr ⟨⟨show (20 : Nat) < 100 from by decide, nf3⟩, (fun _ h => (by cases h))⟩⟩⟩⟩
def o_Mo_product_f_3 (k : Int) : or_T := (37, 14, [(0, (2, 0, 0, [150])), (1, (0, 0, 2009, [])), (2, (2, 0, 0, [150])), (4, (0, 0, 2009, [])), (5, (0, 0, 2010, [])), (7, (0, 0, 0, [])), (9, (0, 1, 1, [])), (11, (0, 0, 0, [])), (12, (0, 1, 1, [])), (13, (0, 1, 2010, []))], [(1, [13, 4, 12], []), (9, [4, 2], [158]), (20, [11, 2], [50, 1, 1, 1158, 1160, 4, 6, 1, 2, 1, 0, 0, 1, 1, 6, 3, 1, 160, 2, 1, 158, 0, 3]), (8, [9], [1]), (20, [9, 2], [50, 1, 1, 1158, 1160, 4, 6, 1, 2, 1, 0, 0, 1, 1, 6, 3, 1, 160, 2, 1, 158, 0, 3]), (8, [7], [0]), (20, [7, 2], [50, 1, 1, 1158, 1160, 4, 6, 1, 2, 1, 0, 0, 1, 1, 6, 3, 1, 160, 2, 1, 158, 0, 3]), (20, [2], [50, 2, 1, 158, 157, 160, 2, 12, 0, 7, 4, 3, 2, 0, 158, 0, 1, 2, 0, 157, 2, 7, 0, 3, 2, 0, 157, 0, 2010, 3, 14, 1, 10, 3, 0, 160, 5, 3, 2, 0, 157, 0, 1, 0, 0, 1, 10, 3, 0, 160, 5, 3, 2, 0, 157, 0, 1, 0, 4]), (20, [1, 2], [30, 0, 1, 0, 0, -1, 1, 158]), (24, [0, 2], []), (20, [5, 2], [30, 2010, 1, 0, 0, 1, 1, 158]), (20, [5, 2], [30, -2010, -1, 0, 0, -1, 1, 158])], [(13, (0, 1, 2009, []))], [], [], [], [(13, 4, 1, 1), (13, 1, -4294967296, 2010), (1, 4, -4294967296, 2009), (4, 1, -4294967296, 2009)])
theorem oo_Mo_product_f_3 {kA : Nat → ClassId} (k : Int) (hk0 : 0 ≤ k) (hk1 : k ≤ 12) : or_ok kA GG (o_Mo_product_f_3 k) := by
  intro A ta ws vs hD hth hl hk hds hf
  have hl : vs.length = 14 := hl
  have hk : ∀ q ∈ ([(0, (2, 0, 0, [150])), (1, (0, 0, 2009, [])), (2, (2, 0, 0, [150])), (4, (0, 0, 2009, [])), (5, (0, 0, 2010, [])), (7, (0, 0, 0, [])), (9, (0, 1, 1, [])), (11, (0, 0, 0, [])), (12, (0, 1, 1, [])), (13, (0, 1, 2010, []))] : List (Nat × tv_T)), tv_ok ta q.2 (n_v vs q.1) := hk
  obtain ⟨t0, hk⟩ := List.forall_mem_cons.mp hk
  have t0 : tv_ok ta (2, 0, 0, [150]) (n_v vs 0) := t0
  have r0 : ta (v_ad (n_v vs 0)) = some 150 := tv_rg t0
  obtain ⟨t1, hk⟩ := List.forall_mem_cons.mp hk
  have t1 : tv_ok ta (0, 0, 2009, []) (n_v vs 1) := t1
  have k1 : 0 ≤ v_iv (n_v vs 1) ∧ v_iv (n_v vs 1) ≤ 2009 := tv_rng t1
  obtain ⟨t2, hk⟩ := List.forall_mem_cons.mp hk
  have t2 : tv_ok ta (2, 0, 0, [150]) (n_v vs 2) := t2
  have r2 : ta (v_ad (n_v vs 2)) = some 150 := tv_rg t2
  obtain ⟨t4, hk⟩ := List.forall_mem_cons.mp hk
  have t4 : tv_ok ta (0, 0, 2009, []) (n_v vs 4) := t4
  have k4 : 0 ≤ v_iv (n_v vs 4) ∧ v_iv (n_v vs 4) ≤ 2009 := tv_rng t4
  obtain ⟨t5, hk⟩ := List.forall_mem_cons.mp hk
  have t5 : tv_ok ta (0, 0, 2010, []) (n_v vs 5) := t5
  have k5 : 0 ≤ v_iv (n_v vs 5) ∧ v_iv (n_v vs 5) ≤ 2010 := tv_rng t5
  obtain ⟨t7, hk⟩ := List.forall_mem_cons.mp hk
  have t7 : tv_ok ta (0, 0, 0, []) (n_v vs 7) := t7
  have k7 : 0 ≤ v_iv (n_v vs 7) ∧ v_iv (n_v vs 7) ≤ 0 := tv_rng t7
  obtain ⟨t9, hk⟩ := List.forall_mem_cons.mp hk
  have t9 : tv_ok ta (0, 1, 1, []) (n_v vs 9) := t9
  have k9 : 1 ≤ v_iv (n_v vs 9) ∧ v_iv (n_v vs 9) ≤ 1 := tv_rng t9
  obtain ⟨t11, hk⟩ := List.forall_mem_cons.mp hk
  have t11 : tv_ok ta (0, 0, 0, []) (n_v vs 11) := t11
  have k11 : 0 ≤ v_iv (n_v vs 11) ∧ v_iv (n_v vs 11) ≤ 0 := tv_rng t11
  obtain ⟨t12, hk⟩ := List.forall_mem_cons.mp hk
  have t12 : tv_ok ta (0, 1, 1, []) (n_v vs 12) := t12
  have k12 : 1 ≤ v_iv (n_v vs 12) ∧ v_iv (n_v vs 12) ≤ 1 := tv_rng t12
  obtain ⟨t13, hk⟩ := List.forall_mem_cons.mp hk
  have t13 : tv_ok ta (0, 1, 2010, []) (n_v vs 13) := t13
  have k13 : 1 ≤ v_iv (n_v vs 13) ∧ v_iv (n_v vs 13) ≤ 2010 := tv_rng t13
  have hds : ∀ q ∈ ([(13, 4, 1, 1), (13, 1, -4294967296, 2010), (1, 4, -4294967296, 2009), (4, 1, -4294967296, 2009)] : List of_T), n_iv vs q.2.1 + q.2.2.1 ≤ n_iv vs q.1 ∧ n_iv vs q.1 ≤ n_iv vs q.2.1 + q.2.2.2 := hds
  obtain ⟨d0, hds⟩ := List.forall_mem_cons.mp hds
  have d0 : v_iv (n_v vs 4) + 1 ≤ v_iv (n_v vs 13) ∧ v_iv (n_v vs 13) ≤ v_iv (n_v vs 4) + 1 := d0
  obtain ⟨d1, hds⟩ := List.forall_mem_cons.mp hds
  have d1 : v_iv (n_v vs 1) + (-4294967296) ≤ v_iv (n_v vs 13) ∧ v_iv (n_v vs 13) ≤ v_iv (n_v vs 1) + 2010 := d1
  obtain ⟨d2, hds⟩ := List.forall_mem_cons.mp hds
  have d2 : v_iv (n_v vs 4) + (-4294967296) ≤ v_iv (n_v vs 1) ∧ v_iv (n_v vs 1) ≤ v_iv (n_v vs 4) + 2009 := d2
  obtain ⟨d3, hds⟩ := List.forall_mem_cons.mp hds
  have d3 : v_iv (n_v vs 1) + (-4294967296) ≤ v_iv (n_v vs 4) ∧ v_iv (n_v vs 4) ≤ v_iv (n_v vs 1) + 2009 := d3
  have hf : fc_ok [(1, [13, 4, 12], []), (9, [4, 2], [158]), (20, [11, 2], [50, 1, 1, 1158, 1160, 4, 6, 1, 2, 1, 0, 0, 1, 1, 6, 3, 1, 160, 2, 1, 158, 0, 3]), (8, [9], [1]), (20, [9, 2], [50, 1, 1, 1158, 1160, 4, 6, 1, 2, 1, 0, 0, 1, 1, 6, 3, 1, 160, 2, 1, 158, 0, 3]), (8, [7], [0]), (20, [7, 2], [50, 1, 1, 1158, 1160, 4, 6, 1, 2, 1, 0, 0, 1, 1, 6, 3, 1, 160, 2, 1, 158, 0, 3]), (20, [2], [50, 2, 1, 158, 157, 160, 2, 12, 0, 7, 4, 3, 2, 0, 158, 0, 1, 2, 0, 157, 2, 7, 0, 3, 2, 0, 157, 0, 2010, 3, 14, 1, 10, 3, 0, 160, 5, 3, 2, 0, 157, 0, 1, 0, 0, 1, 10, 3, 0, 160, 5, 3, 2, 0, 157, 0, 1, 0, 4]), (20, [1, 2], [30, 0, 1, 0, 0, -1, 1, 158]), (24, [0, 2], []), (20, [5, 2], [30, 2010, 1, 0, 0, 1, 1, 158]), (20, [5, 2], [30, -2010, -1, 0, 0, -1, 1, 158])] ta ws vs := hf
  obtain ⟨f0, hf⟩ := fc_un (show (1 : Nat) < 100 from by decide) hf
  have f0 : v_iv (n_v vs 13) = v_iv (n_v vs 4) + v_iv (n_v vs 12) := f0
  obtain ⟨f1, hf⟩ := fc_un (show (9 : Nat) < 100 from by decide) hf
  have f1 : n_v vs 4 = w_fd ws (v_ad (n_v vs 2)) 158 := f1
  obtain ⟨f2, hf⟩ := fc_un (show (20 : Nat) < 100 from by decide) hf
  have f2 : (v_iv (n_v vs 11) = 1) → (w_ei ws (w_ar ws (n_v vs 2) 160) (w_fi ws (n_v vs 2) 158) = 3) := f2
  obtain ⟨f3, hf⟩ := fc_un (show (8 : Nat) < 100 from by decide) hf
  have f3 : v_iv (n_v vs 9) ≠ 0 := f3
  obtain ⟨f4, hf⟩ := fc_un (show (20 : Nat) < 100 from by decide) hf
  have f4 : (v_iv (n_v vs 9) = 1) → (w_ei ws (w_ar ws (n_v vs 2) 160) (w_fi ws (n_v vs 2) 158) = 3) := f4
  obtain ⟨f5, hf⟩ := fc_un (show (8 : Nat) < 100 from by decide) hf
  have f5 : v_iv (n_v vs 7) = 0 := f5
  obtain ⟨f6, hf⟩ := fc_un (show (20 : Nat) < 100 from by decide) hf
  have f6 : (v_iv (n_v vs 7) = 1) → (w_ei ws (w_ar ws (n_v vs 2) 160) (w_fi ws (n_v vs 2) 158) = 3) := f6
  obtain ⟨f7, hf⟩ := fc_un (show (20 : Nat) < 100 from by decide) hf
  have f7 : ((w_fi ws (n_v vs 2) 158 + 1) ≤ w_fi ws (n_v vs 2) 157) ∧ ((w_fi ws (n_v vs 2) 157 ≤ 2010) ∧ ((w_ei ws (w_ar ws (n_v vs 2) 160) ((w_fi ws (n_v vs 2) 157 - 1)) = 0) ∨ (w_ei ws (w_ar ws (n_v vs 2) 160) ((w_fi ws (n_v vs 2) 157 - 1)) = 4))) := f7
  obtain ⟨f8, hf⟩ := fc_un (show (20 : Nat) < 100 from by decide) hf
  have f8 : 1 * v_iv (n_v vs 1) + ((-1) * w_fi ws (n_v vs 2) 158 + 0) ≤ 0 := f8
  obtain ⟨f9, hf⟩ := fc_un (show (24 : Nat) < 100 from by decide) hf
  have f9 : n_v vs 0 = n_v vs 2 := f9
  obtain ⟨f10, hf⟩ := fc_un (show (20 : Nat) < 100 from by decide) hf
  have f10 : 1 * v_iv (n_v vs 5) + (1 * w_fi ws (n_v vs 2) 158 + 0) ≤ 2010 := f10
  obtain ⟨f11, hf⟩ := fc_un (show (20 : Nat) < 100 from by decide) hf
  have f11 : (-1) * v_iv (n_v vs 5) + ((-1) * w_fi ws (n_v vs 2) 158 + 0) ≤ (-2010) := f11
  have q2 : n_v vs 2 = n_v vs 0 := f9.symm
  rw [q2] at f1
  rw [q2] at f2
  rw [q2] at f4
  rw [q2] at f6
  rw [q2] at f7
  rw [q2] at f8
  rw [q2] at f10
  rw [q2] at f11
  have cr_0_160 : ta (w_ar ws (n_v vs 0) 160) = some 259 := tv_rg (th_fd hD hth r0 (g := GG_150) rfl (k := 160) (t := (2, 0, 0, [259])) rfl rfl)
  have g1 : v_iv (n_v vs 4) = w_fi ws (n_v vs 0) 158 := congrArg v_iv f1
  have hK_0_160 : ∀ j : Int, 0 ≤ j → j < 2010 → 0 ≤ w_ei ws (w_ar ws (n_v vs 0) 160) j ∧ w_ei ws (w_ar ws (n_v vs 0) 160) j ≤ 4 := fun j h0 h1 => th_el hD hth cr_0_160 (kd := 0) (n := 2010) (m := 2010) (lo := 0) (hi := 4) (rs := []) (L := []) rfl (by decide) (j := j.toNat) (by omega)
  have kz_0_157 : 0 ≤ w_fi ws (n_v vs 0) 157 ∧ w_fi ws (n_v vs 0) 157 ≤ 2010 := tv_rng (th_fd hD hth r0 (g := GG_150) rfl (k := 157) (t := (0, 0, 2010, [])) rfl rfl)
  have kz_0_158 : 0 ≤ w_fi ws (n_v vs 0) 158 ∧ w_fi ws (n_v vs 0) 158 ≤ 2009 := tv_rng (th_fd hD hth r0 (g := GG_150) rfl (k := 158) (t := (0, 0, 2009, [])) rfl rfl)
  have rf13 : tv_ok ta (0, 1, 2009, []) (n_v vs 13) := tv_in t13 (by first | omega | grind) (by first | omega | grind)
  refine ⟨List.forall_mem_cons.mpr ⟨rf13, (fun _ h => (by cases h))⟩, [], trivial, ?_, (fun _ h => (by cases h))⟩
  rw [List.append_nil]
  exact (fun _ h => (by cases h))
