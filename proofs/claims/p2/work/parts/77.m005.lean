def o_Mo_styleTokens_118 : or_T := (103, 18, [(0, (2, 0, 0, [150])), (2, (2, 0, 0, [150])), (5, (0, 0, 1999, [])), (6, (0, 0, 4001, [])), (7, (0, 0, 255, [])), (8, (0, 32, 32, [])), (9, (0, -1, -1, [])), (10, (0, 10, 10, [])), (11, (0, 0, 4001, [])), (12, (0, 97, 122, []))], [(8, [12], [3]), (9, [5, 2], [11]), (20, [5, 2, 12], [50, 1, 1, 1010, 1001, 4, 11, 0, 6, 4, 2, 1, 0, 0, 1, 2, 1, 10, 1, 2, 1, 2, 9, 5, 3, 1, 1, 1, 0, 0, 256]), (20, [2, 5, 12], [50, 1, 0, 10, 4, 7, 0, 3, 2, 0, 10, 1, 1, 1, 2, 1, 2, 0, -1]), (20, [2], [50, 2, 0, 157, 11, 0, 3, 2, 0, 157, 2, 0, 11]), (20, [11, 2], [30, -4001, -1, 0, 0, -2, 1, 11]), (24, [0, 2], []), (7, [9, 10], [1]), (20, [5, 2, 9], [50, 1, 1, 1010, 1001, 4, 11, 0, 6, 4, 2, 1, 0, 0, 1, 2, 1, 10, 1, 2, 1, 2, 9, 5, 3, 1, 1, 1, 0, 0, 256]), (20, [2, 5, 9], [50, 1, 0, 10, 4, 7, 0, 3, 2, 0, 10, 1, 1, 1, 2, 1, 2, 0, -1]), (7, [7, 8], [1]), (20, [5, 2, 7], [50, 1, 1, 1010, 1001, 4, 11, 0, 6, 4, 2, 1, 0, 0, 1, 2, 1, 10, 1, 2, 1, 2, 9, 5, 3, 1, 1, 1, 0, 0, 256]), (20, [2, 5, 7], [50, 1, 0, 10, 4, 7, 0, 3, 2, 0, 10, 1, 1, 1, 2, 1, 2, 0, -1]), (20, [2], [50, 2, 0, 157, 11, 0, 3, 2, 0, 157, 2, 0, 11]), (20, [6, 2], [30, -4001, -1, 0, 0, -2, 1, 11])], [], [(0, 0, 4001, [])], [(20, [2, 5], [50, 3, 1, 157, 11, 10, 1, 2, 7, 0, 3, 2, 0, 157, 1, 1, 2, 7, 0, 2, 1, 1, 2, 0, 11, 3, 11, 0, 6, 4, 2, 1, 1, 0, 1, 2, 0, 11, 2, 7, 1, 3, 2, 0, 11, 1, 1, 2, 11, 0, 6, 4, 2, 1, 1, 0, 1, 2, 0, 10, 2, 13, 0, 2, 0, 97, 9, 5, 3, 0, 1, 1, 1, 0, 256, 0, 9, 9, 5, 3, 0, 1, 1, 1, 0, 256, 0, 122]), (20, [18, 5], [30, -4001, -1, 0, 0, -2, 0, 0]), (24, [0, 2], [])], [(18, 6, 0, 0)], [(11, 6, 0, 0)])
theorem oo_Mo_styleTokens_118 {kA : Nat → ClassId} : or_ok kA GG o_Mo_styleTokens_118 := by
  intro A ta ws vs hD hth hl hk hds hf
  have hl : vs.length = 18 := hl
  have hk : ∀ q ∈ ([(0, (2, 0, 0, [150])), (2, (2, 0, 0, [150])), (5, (0, 0, 1999, [])), (6, (0, 0, 4001, [])), (7, (0, 0, 255, [])), (8, (0, 32, 32, [])), (9, (0, -1, -1, [])), (10, (0, 10, 10, [])), (11, (0, 0, 4001, [])), (12, (0, 97, 122, []))] : List (Nat × tv_T)), tv_ok ta q.2 (n_v vs q.1) := hk
  obtain ⟨t0, hk⟩ := List.forall_mem_cons.mp hk
  have t0 : tv_ok ta (2, 0, 0, [150]) (n_v vs 0) := t0
  have r0 : ta (v_ad (n_v vs 0)) = some 150 := tv_rg t0
  obtain ⟨t2, hk⟩ := List.forall_mem_cons.mp hk
  have t2 : tv_ok ta (2, 0, 0, [150]) (n_v vs 2) := t2
  have r2 : ta (v_ad (n_v vs 2)) = some 150 := tv_rg t2
  obtain ⟨t5, hk⟩ := List.forall_mem_cons.mp hk
  have t5 : tv_ok ta (0, 0, 1999, []) (n_v vs 5) := t5
  have k5 : 0 ≤ v_iv (n_v vs 5) ∧ v_iv (n_v vs 5) ≤ 1999 := tv_rng t5
  obtain ⟨t6, hk⟩ := List.forall_mem_cons.mp hk
  have t6 : tv_ok ta (0, 0, 4001, []) (n_v vs 6) := t6
  have k6 : 0 ≤ v_iv (n_v vs 6) ∧ v_iv (n_v vs 6) ≤ 4001 := tv_rng t6
  obtain ⟨t7, hk⟩ := List.forall_mem_cons.mp hk
  have t7 : tv_ok ta (0, 0, 255, []) (n_v vs 7) := t7
  have k7 : 0 ≤ v_iv (n_v vs 7) ∧ v_iv (n_v vs 7) ≤ 255 := tv_rng t7
  obtain ⟨t8, hk⟩ := List.forall_mem_cons.mp hk
  have t8 : tv_ok ta (0, 32, 32, []) (n_v vs 8) := t8
  have k8 : 32 ≤ v_iv (n_v vs 8) ∧ v_iv (n_v vs 8) ≤ 32 := tv_rng t8
  obtain ⟨t9, hk⟩ := List.forall_mem_cons.mp hk
  have t9 : tv_ok ta (0, -1, -1, []) (n_v vs 9) := t9
  have k9 : (-1) ≤ v_iv (n_v vs 9) ∧ v_iv (n_v vs 9) ≤ (-1) := tv_rng t9
  obtain ⟨t10, hk⟩ := List.forall_mem_cons.mp hk
  have t10 : tv_ok ta (0, 10, 10, []) (n_v vs 10) := t10
  have k10 : 10 ≤ v_iv (n_v vs 10) ∧ v_iv (n_v vs 10) ≤ 10 := tv_rng t10
  obtain ⟨t11, hk⟩ := List.forall_mem_cons.mp hk
  have t11 : tv_ok ta (0, 0, 4001, []) (n_v vs 11) := t11
  have k11 : 0 ≤ v_iv (n_v vs 11) ∧ v_iv (n_v vs 11) ≤ 4001 := tv_rng t11
  obtain ⟨t12, hk⟩ := List.forall_mem_cons.mp hk
  have t12 : tv_ok ta (0, 97, 122, []) (n_v vs 12) := t12
  have k12 : 97 ≤ v_iv (n_v vs 12) ∧ v_iv (n_v vs 12) ≤ 122 := tv_rng t12
  have hds : ∀ q ∈ ([(11, 6, 0, 0)] : List of_T), n_iv vs q.2.1 + q.2.2.1 ≤ n_iv vs q.1 ∧ n_iv vs q.1 ≤ n_iv vs q.2.1 + q.2.2.2 := hds
  obtain ⟨d0, hds⟩ := List.forall_mem_cons.mp hds
  have d0 : v_iv (n_v vs 6) + 0 ≤ v_iv (n_v vs 11) ∧ v_iv (n_v vs 11) ≤ v_iv (n_v vs 6) + 0 := d0
  have hf : fc_ok [(8, [12], [3]), (9, [5, 2], [11]), (20, [5, 2, 12], [50, 1, 1, 1010, 1001, 4, 11, 0, 6, 4, 2, 1, 0, 0, 1, 2, 1, 10, 1, 2, 1, 2, 9, 5, 3, 1, 1, 1, 0, 0, 256]), (20, [2, 5, 12], [50, 1, 0, 10, 4, 7, 0, 3, 2, 0, 10, 1, 1, 1, 2, 1, 2, 0, -1]), (20, [2], [50, 2, 0, 157, 11, 0, 3, 2, 0, 157, 2, 0, 11]), (20, [11, 2], [30, -4001, -1, 0, 0, -2, 1, 11]), (24, [0, 2], []), (7, [9, 10], [1]), (20, [5, 2, 9], [50, 1, 1, 1010, 1001, 4, 11, 0, 6, 4, 2, 1, 0, 0, 1, 2, 1, 10, 1, 2, 1, 2, 9, 5, 3, 1, 1, 1, 0, 0, 256]), (20, [2, 5, 9], [50, 1, 0, 10, 4, 7, 0, 3, 2, 0, 10, 1, 1, 1, 2, 1, 2, 0, -1]), (7, [7, 8], [1]), (20, [5, 2, 7], [50, 1, 1, 1010, 1001, 4, 11, 0, 6, 4, 2, 1, 0, 0, 1, 2, 1, 10, 1, 2, 1, 2, 9, 5, 3, 1, 1, 1, 0, 0, 256]), (20, [2, 5, 7], [50, 1, 0, 10, 4, 7, 0, 3, 2, 0, 10, 1, 1, 1, 2, 1, 2, 0, -1]), (20, [2], [50, 2, 0, 157, 11, 0, 3, 2, 0, 157, 2, 0, 11]), (20, [6, 2], [30, -4001, -1, 0, 0, -2, 1, 11])] ta ws vs := hf
  obtain ⟨f0, hf⟩ := fc_un (by decide) hf
  have f0 : 0 ≤ v_iv (n_v vs 12) := f0
  obtain ⟨f1, hf⟩ := fc_un (by decide) hf
  have f1 : n_v vs 5 = w_fd ws (v_ad (n_v vs 2)) 11 := f1
  obtain ⟨f2, hf⟩ := fc_un (by decide) hf
  have f2 : ((v_iv (n_v vs 5) + 1) ≤ w_fi ws (n_v vs 2) 10) → (v_iv (n_v vs 12) = (w_ei ws (w_ar ws (n_v vs 2) 1) (v_iv (n_v vs 5)) % 256)) := f2
  obtain ⟨f3, hf⟩ := fc_un (by decide) hf
  have f3 : (w_fi ws (n_v vs 2) 10 ≤ v_iv (n_v vs 5)) → (v_iv (n_v vs 12) = (-1)) := f3
  obtain ⟨f4, hf⟩ := fc_un (by decide) hf
  have f4 : w_fi ws (n_v vs 2) 157 ≤ w_fi ws (n_v vs 2) 11 := f4
  obtain ⟨f5, hf⟩ := fc_un (by decide) hf
  have f5 : (-1) * v_iv (n_v vs 11) + ((-2) * w_fi ws (n_v vs 2) 11 + 0) ≤ (-4001) := f5
  obtain ⟨f6, hf⟩ := fc_un (by decide) hf
  have f6 : n_v vs 0 = n_v vs 2 := f6
  obtain ⟨f7, hf⟩ := fc_un (by decide) hf
  have f7 : v_iv (n_v vs 9) ≠ v_iv (n_v vs 10) := f7
  obtain ⟨f8, hf⟩ := fc_un (by decide) hf
  have f8 : ((v_iv (n_v vs 5) + 1) ≤ w_fi ws (n_v vs 2) 10) → (v_iv (n_v vs 9) = (w_ei ws (w_ar ws (n_v vs 2) 1) (v_iv (n_v vs 5)) % 256)) := f8
  obtain ⟨f9, hf⟩ := fc_un (by decide) hf
  have f9 : (w_fi ws (n_v vs 2) 10 ≤ v_iv (n_v vs 5)) → (v_iv (n_v vs 9) = (-1)) := f9
  obtain ⟨f10, hf⟩ := fc_un (by decide) hf
  have f10 : v_iv (n_v vs 7) ≠ v_iv (n_v vs 8) := f10
  obtain ⟨f11, hf⟩ := fc_un (by decide) hf
  have f11 : ((v_iv (n_v vs 5) + 1) ≤ w_fi ws (n_v vs 2) 10) → (v_iv (n_v vs 7) = (w_ei ws (w_ar ws (n_v vs 2) 1) (v_iv (n_v vs 5)) % 256)) := f11
  obtain ⟨f12, hf⟩ := fc_un (by decide) hf
  have f12 : (w_fi ws (n_v vs 2) 10 ≤ v_iv (n_v vs 5)) → (v_iv (n_v vs 7) = (-1)) := f12
  obtain ⟨f13, hf⟩ := fc_un (by decide) hf
  have f13 : w_fi ws (n_v vs 2) 157 ≤ w_fi ws (n_v vs 2) 11 := f13
  obtain ⟨f14, hf⟩ := fc_un (by decide) hf
  have f14 : (-1) * v_iv (n_v vs 6) + ((-2) * w_fi ws (n_v vs 2) 11 + 0) ≤ (-4001) := f14
  have q2 : n_v vs 2 = n_v vs 0 := f6.symm
  rw [q2] at f1
  rw [q2] at f2
  rw [q2] at f3
  rw [q2] at f4
  rw [q2] at f5
  rw [q2] at f8
  rw [q2] at f9
  rw [q2] at f11
  rw [q2] at f12
  rw [q2] at f13
  rw [q2] at f14
  have cr_0_1 : ta (w_ar ws (n_v vs 0) 1) = some 151 := tv_rg (th_fd hD hth r0 (g := GG_150) rfl (k := 1) (t := (2, 0, 0, [151])) rfl rfl)
  have g1 : v_iv (n_v vs 5) = w_fi ws (n_v vs 0) 11 := congrArg v_iv f1
  have hK_0_1 : ∀ j : Int, 0 ≤ j → j < 2000 → (-128) ≤ w_ei ws (w_ar ws (n_v vs 0) 1) j ∧ w_ei ws (w_ar ws (n_v vs 0) 1) j ≤ 127 := fun j h0 h1 => th_el hD hth cr_0_1 (kd := 1) (n := 2000) (m := 2000) (lo := (-128)) (hi := 127) (rs := []) (L := []) rfl (by decide) (j := j.toNat) (by omega)
  have kz_0_10 : 0 ≤ w_fi ws (n_v vs 0) 10 ∧ w_fi ws (n_v vs 0) 10 ≤ 2000 := tv_rng (th_fd hD hth r0 (g := GG_150) rfl (k := 10) (t := (0, 0, 2000, [])) rfl rfl)
  have kz_0_11 : 0 ≤ w_fi ws (n_v vs 0) 11 ∧ w_fi ws (n_v vs 0) 11 ≤ 2000 := tv_rng (th_fd hD hth r0 (g := GG_150) rfl (k := 11) (t := (0, 0, 2000, [])) rfl rfl)
  have kz_0_157 : 0 ≤ w_fi ws (n_v vs 0) 157 ∧ w_fi ws (n_v vs 0) 157 ≤ 2010 := tv_rng (th_fd hD hth r0 (g := GG_150) rfl (k := 157) (t := (0, 0, 2010, [])) rfl rfl)
  obtain ⟨x, ex, hx⟩ := iv_ex (ta := ta) (lo := 0) (hi := 4001) (z := 0 + (1 * v_iv (n_v vs 6) + 0)) (by omega) (by omega) (by decide) (by decide)
  have ex2 : v_iv (Value.int x) = 0 + (1 * v_iv (n_v vs 6) + 0) := ex
  have ex3 : 0 ≤ v_iv (Value.int x) ∧ v_iv (Value.int x) ≤ 4001 := tv_rng hx
  have e_0 : n_v (vs ++ [Value.int x]) 0 = n_v vs 0 := n_v_old (by rw [hl]; decide)
  have e_2 : n_v (vs ++ [Value.int x]) 2 = n_v vs 2 := n_v_old (by rw [hl]; decide)
  have e_5 : n_v (vs ++ [Value.int x]) 5 = n_v vs 5 := n_v_old (by rw [hl]; decide)
  have e_18 : n_v (vs ++ [Value.int x]) 18 = Value.int x := n_v_new hl
  have nf0 : fc_1 (20, [2, 5], [50, 3, 1, 157, 11, 10, 1, 2, 7, 0, 3, 2, 0, 157, 1, 1, 2, 7, 0, 2, 1, 1, 2, 0, 11, 3, 11, 0, 6, 4, 2, 1, 1, 0, 1, 2, 0, 11, 2, 7, 1, 3, 2, 0, 11, 1, 1, 2, 11, 0, 6, 4, 2, 1, 1, 0, 1, 2, 0, 10, 2, 13, 0, 2, 0, 97, 9, 5, 3, 0, 1, 1, 1, 0, 256, 0, 9, 9, 5, 3, 0, 1, 1, 1, 0, 256, 0, 122]) ws (vs ++ [Value.int x]) := by
    refine ⟨fun n hn => ?_, ?_⟩
    · have hn : n ∈ [2, 5] := hn
      rw [List.length_append, hl]
      simp only [List.mem_cons, List.not_mem_nil, or_false] at hn
      show n < 18 + 1; omega
    · show (w_fi ws (n_v (vs ++ [Value.int x]) 2) 157 ≤ v_iv (n_v (vs ++ [Value.int x]) 5)) ∧ ((v_iv (n_v (vs ++ [Value.int x]) 5) ≤ w_fi ws (n_v (vs ++ [Value.int x]) 2) 11) ∧ (((v_iv (n_v (vs ++ [Value.int x]) 5) + 1) ≤ w_fi ws (n_v (vs ++ [Value.int x]) 2) 11) ∨ ((w_fi ws (n_v (vs ++ [Value.int x]) 2) 11 = v_iv (n_v (vs ++ [Value.int x]) 5)) ∧ (((v_iv (n_v (vs ++ [Value.int x]) 5) + 1) ≤ w_fi ws (n_v (vs ++ [Value.int x]) 2) 10) ∧ ((97 ≤ (w_ei ws (w_ar ws (n_v (vs ++ [Value.int x]) 2) 1) (v_iv (n_v (vs ++ [Value.int x]) 5)) % 256)) ∧ ((w_ei ws (w_ar ws (n_v (vs ++ [Value.int x]) 2) 1) (v_iv (n_v (vs ++ [Value.int x]) 5)) % 256) ≤ 122))))))
      rw [e_2]
      rw [e_5]
      rw [q2]
      first | omega | grind
  have nf1 : fc_1 (20, [18, 5], [30, -4001, -1, 0, 0, -2, 0, 0]) ws (vs ++ [Value.int x]) := by
    refine ⟨fun n hn => ?_, ?_⟩
    · have hn : n ∈ [18, 5] := hn
      rw [List.length_append, hl]
      simp only [List.mem_cons, List.not_mem_nil, or_false] at hn
      show n < 18 + 1; omega
    · show (-1) * v_iv (n_v (vs ++ [Value.int x]) 18) + ((-2) * v_iv (n_v (vs ++ [Value.int x]) 5) + 0) ≤ (-4001)
      rw [e_5]
      rw [e_18]
      omega
  have nf2 : fc_1 (24, [0, 2], []) ws (vs ++ [Value.int x]) := by
    refine ⟨fun n hn => ?_, ?_⟩
    · have hn : n ∈ [0, 2] := hn
      rw [List.length_append, hl]
      simp only [List.mem_cons, List.not_mem_nil, or_false] at hn
      show n < 18 + 1; omega
    · show n_v (vs ++ [Value.int x]) 0 = n_v (vs ++ [Value.int x]) 2
      first | rfl | simp only [e_0, e_2, q2]
  obtain ⟨x0, e0, _, _⟩ := tv_int t6 rfl
  have e1 : v_iv (n_v vs 6) = x0.toInt := by rw [e0]; rfl
  have ho : sy_ofs (vs ++ [Value.int x]) (18, 6, 0, 0) := by
    refine ⟨x, x0, by rw [List.getElem?_append_right (by rw [hl]; decide), hl]; rfl, ?_, ?_, ?_⟩
    · rw [List.getElem?_append_left (by rw [hl]; decide)]; exact n_v_some (by rw [hl]; decide) e0
    · show x0.toInt + 0 ≤ x.toInt; omega
    · show x.toInt ≤ x0.toInt + 0; omega
  exact ⟨fun q hq => (by cases hq), [Value.int x], ag_one hx, List.forall_mem_cons.mpr ⟨⟨by decide, nf0⟩, List.forall_mem_cons.mpr ⟨⟨by decide, nf1⟩, List.forall_mem_cons.mpr ⟨⟨by decide, nf2⟩, (fun _ h => (by cases h))⟩⟩⟩, List.forall_mem_cons.mpr ⟨ho, (fun _ h => (by cases h))⟩⟩
def o_Mo_styleTokens_119 : or_T := (60, 11, [(0, (2, 0, 0, [150])), (2, (2, 0, 0, [150])), (5, (0, 0, 1999, [])), (6, (0, 0, 4001, [])), (7, (0, 0, 255, [])), (8, (0, 32, 32, [])), (9, (0, 0, 255, [])), (10, (0, 10, 10, []))], [(7, [9, 10], [1]), (20, [5, 2, 9], [50, 1, 1, 1010, 1001, 4, 11, 0, 6, 4, 2, 1, 0, 0, 1, 2, 1, 10, 1, 2, 1, 2, 9, 5, 3, 1, 1, 1, 0, 0, 256]), (20, [2, 5, 9], [50, 1, 0, 10, 4, 7, 0, 3, 2, 0, 10, 1, 1, 1, 2, 1, 2, 0, -1]), (9, [5, 2], [11]), (7, [7, 8], [1]), (20, [5, 2, 7], [50, 1, 1, 1010, 1001, 4, 11, 0, 6, 4, 2, 1, 0, 0, 1, 2, 1, 10, 1, 2, 1, 2, 9, 5, 3, 1, 1, 1, 0, 0, 256]), (20, [2, 5, 7], [50, 1, 0, 10, 4, 7, 0, 3, 2, 0, 10, 1, 1, 1, 2, 1, 2, 0, -1]), (20, [2], [50, 2, 0, 157, 11, 0, 3, 2, 0, 157, 2, 0, 11]), (20, [6, 2], [30, -4001, -1, 0, 0, -2, 1, 11]), (24, [0, 2], [])], [], [(0, 0, 4001, [])], [(20, [2], [50, 2, 0, 157, 11, 0, 3, 2, 0, 157, 2, 0, 11]), (20, [11, 2], [30, -4001, -1, 0, 0, -2, 1, 11]), (24, [0, 2], [])], [(11, 6, 0, 0)], [])
theorem oo_Mo_styleTokens_119 {kA : Nat → ClassId} : or_ok kA GG o_Mo_styleTokens_119 := by
  intro A ta ws vs hD hth hl hk hds hf
  have hl : vs.length = 11 := hl
  have hk : ∀ q ∈ ([(0, (2, 0, 0, [150])), (2, (2, 0, 0, [150])), (5, (0, 0, 1999, [])), (6, (0, 0, 4001, [])), (7, (0, 0, 255, [])), (8, (0, 32, 32, [])), (9, (0, 0, 255, [])), (10, (0, 10, 10, []))] : List (Nat × tv_T)), tv_ok ta q.2 (n_v vs q.1) := hk
  obtain ⟨t0, hk⟩ := List.forall_mem_cons.mp hk
  have t0 : tv_ok ta (2, 0, 0, [150]) (n_v vs 0) := t0
  have r0 : ta (v_ad (n_v vs 0)) = some 150 := tv_rg t0
  obtain ⟨t2, hk⟩ := List.forall_mem_cons.mp hk
  have t2 : tv_ok ta (2, 0, 0, [150]) (n_v vs 2) := t2
  have r2 : ta (v_ad (n_v vs 2)) = some 150 := tv_rg t2
  obtain ⟨t5, hk⟩ := List.forall_mem_cons.mp hk
  have t5 : tv_ok ta (0, 0, 1999, []) (n_v vs 5) := t5
  have k5 : 0 ≤ v_iv (n_v vs 5) ∧ v_iv (n_v vs 5) ≤ 1999 := tv_rng t5
  obtain ⟨t6, hk⟩ := List.forall_mem_cons.mp hk
  have t6 : tv_ok ta (0, 0, 4001, []) (n_v vs 6) := t6
  have k6 : 0 ≤ v_iv (n_v vs 6) ∧ v_iv (n_v vs 6) ≤ 4001 := tv_rng t6
  obtain ⟨t7, hk⟩ := List.forall_mem_cons.mp hk
  have t7 : tv_ok ta (0, 0, 255, []) (n_v vs 7) := t7
  have k7 : 0 ≤ v_iv (n_v vs 7) ∧ v_iv (n_v vs 7) ≤ 255 := tv_rng t7
  obtain ⟨t8, hk⟩ := List.forall_mem_cons.mp hk
  have t8 : tv_ok ta (0, 32, 32, []) (n_v vs 8) := t8
  have k8 : 32 ≤ v_iv (n_v vs 8) ∧ v_iv (n_v vs 8) ≤ 32 := tv_rng t8
  obtain ⟨t9, hk⟩ := List.forall_mem_cons.mp hk
  have t9 : tv_ok ta (0, 0, 255, []) (n_v vs 9) := t9
  have k9 : 0 ≤ v_iv (n_v vs 9) ∧ v_iv (n_v vs 9) ≤ 255 := tv_rng t9
  obtain ⟨t10, hk⟩ := List.forall_mem_cons.mp hk
  have t10 : tv_ok ta (0, 10, 10, []) (n_v vs 10) := t10
  have k10 : 10 ≤ v_iv (n_v vs 10) ∧ v_iv (n_v vs 10) ≤ 10 := tv_rng t10
  have hf : fc_ok [(7, [9, 10], [1]), (20, [5, 2, 9], [50, 1, 1, 1010, 1001, 4, 11, 0, 6, 4, 2, 1, 0, 0, 1, 2, 1, 10, 1, 2, 1, 2, 9, 5, 3, 1, 1, 1, 0, 0, 256]), (20, [2, 5, 9], [50, 1, 0, 10, 4, 7, 0, 3, 2, 0, 10, 1, 1, 1, 2, 1, 2, 0, -1]), (9, [5, 2], [11]), (7, [7, 8], [1]), (20, [5, 2, 7], [50, 1, 1, 1010, 1001, 4, 11, 0, 6, 4, 2, 1, 0, 0, 1, 2, 1, 10, 1, 2, 1, 2, 9, 5, 3, 1, 1, 1, 0, 0, 256]), (20, [2, 5, 7], [50, 1, 0, 10, 4, 7, 0, 3, 2, 0, 10, 1, 1, 1, 2, 1, 2, 0, -1]), (20, [2], [50, 2, 0, 157, 11, 0, 3, 2, 0, 157, 2, 0, 11]), (20, [6, 2], [30, -4001, -1, 0, 0, -2, 1, 11]), (24, [0, 2], [])] ta ws vs := hf
  obtain ⟨f0, hf⟩ := fc_un (by decide) hf
  have f0 : v_iv (n_v vs 9) ≠ v_iv (n_v vs 10) := f0
  obtain ⟨f1, hf⟩ := fc_un (by decide) hf
  have f1 : ((v_iv (n_v vs 5) + 1) ≤ w_fi ws (n_v vs 2) 10) → (v_iv (n_v vs 9) = (w_ei ws (w_ar ws (n_v vs 2) 1) (v_iv (n_v vs 5)) % 256)) := f1
  obtain ⟨f2, hf⟩ := fc_un (by decide) hf
  have f2 : (w_fi ws (n_v vs 2) 10 ≤ v_iv (n_v vs 5)) → (v_iv (n_v vs 9) = (-1)) := f2
  obtain ⟨f3, hf⟩ := fc_un (by decide) hf
  have f3 : n_v vs 5 = w_fd ws (v_ad (n_v vs 2)) 11 := f3
  obtain ⟨f4, hf⟩ := fc_un (by decide) hf
  have f4 : v_iv (n_v vs 7) ≠ v_iv (n_v vs 8) := f4
  obtain ⟨f5, hf⟩ := fc_un (by decide) hf
  have f5 : ((v_iv (n_v vs 5) + 1) ≤ w_fi ws (n_v vs 2) 10) → (v_iv (n_v vs 7) = (w_ei ws (w_ar ws (n_v vs 2) 1) (v_iv (n_v vs 5)) % 256)) := f5
  obtain ⟨f6, hf⟩ := fc_un (by decide) hf
  have f6 : (w_fi ws (n_v vs 2) 10 ≤ v_iv (n_v vs 5)) → (v_iv (n_v vs 7) = (-1)) := f6
  obtain ⟨f7, hf⟩ := fc_un (by decide) hf
  have f7 : w_fi ws (n_v vs 2) 157 ≤ w_fi ws (n_v vs 2) 11 := f7
  obtain ⟨f8, hf⟩ := fc_un (by decide) hf
  have f8 : (-1) * v_iv (n_v vs 6) + ((-2) * w_fi ws (n_v vs 2) 11 + 0) ≤ (-4001) := f8
  obtain ⟨f9, hf⟩ := fc_un (by decide) hf
  have f9 : n_v vs 0 = n_v vs 2 := f9
  have q2 : n_v vs 2 = n_v vs 0 := f9.symm
  rw [q2] at f1
  rw [q2] at f2
  rw [q2] at f3
  rw [q2] at f5
  rw [q2] at f6
  rw [q2] at f7
  rw [q2] at f8
  have cr_0_1 : ta (w_ar ws (n_v vs 0) 1) = some 151 := tv_rg (th_fd hD hth r0 (g := GG_150) rfl (k := 1) (t := (2, 0, 0, [151])) rfl rfl)
  have g3 : v_iv (n_v vs 5) = w_fi ws (n_v vs 0) 11 := congrArg v_iv f3
  have hK_0_1 : ∀ j : Int, 0 ≤ j → j < 2000 → (-128) ≤ w_ei ws (w_ar ws (n_v vs 0) 1) j ∧ w_ei ws (w_ar ws (n_v vs 0) 1) j ≤ 127 := fun j h0 h1 => th_el hD hth cr_0_1 (kd := 1) (n := 2000) (m := 2000) (lo := (-128)) (hi := 127) (rs := []) (L := []) rfl (by decide) (j := j.toNat) (by omega)
  have kz_0_10 : 0 ≤ w_fi ws (n_v vs 0) 10 ∧ w_fi ws (n_v vs 0) 10 ≤ 2000 := tv_rng (th_fd hD hth r0 (g := GG_150) rfl (k := 10) (t := (0, 0, 2000, [])) rfl rfl)
  have kz_0_11 : 0 ≤ w_fi ws (n_v vs 0) 11 ∧ w_fi ws (n_v vs 0) 11 ≤ 2000 := tv_rng (th_fd hD hth r0 (g := GG_150) rfl (k := 11) (t := (0, 0, 2000, [])) rfl rfl)
  have kz_0_157 : 0 ≤ w_fi ws (n_v vs 0) 157 ∧ w_fi ws (n_v vs 0) 157 ≤ 2010 := tv_rng (th_fd hD hth r0 (g := GG_150) rfl (k := 157) (t := (0, 0, 2010, [])) rfl rfl)
  obtain ⟨x, ex, hx⟩ := iv_ex (ta := ta) (lo := 0) (hi := 4001) (z := 0 + (1 * v_iv (n_v vs 6) + 0)) (by omega) (by omega) (by decide) (by decide)
  have ex2 : v_iv (Value.int x) = 0 + (1 * v_iv (n_v vs 6) + 0) := ex
  have ex3 : 0 ≤ v_iv (Value.int x) ∧ v_iv (Value.int x) ≤ 4001 := tv_rng hx
  have e_0 : n_v (vs ++ [Value.int x]) 0 = n_v vs 0 := n_v_old (by rw [hl]; decide)
  have e_2 : n_v (vs ++ [Value.int x]) 2 = n_v vs 2 := n_v_old (by rw [hl]; decide)
  have e_11 : n_v (vs ++ [Value.int x]) 11 = Value.int x := n_v_new hl
  have nf0 : fc_1 (20, [2], [50, 2, 0, 157, 11, 0, 3, 2, 0, 157, 2, 0, 11]) ws (vs ++ [Value.int x]) := by
    refine ⟨fun n hn => ?_, ?_⟩
    · have hn : n ∈ [2] := hn
      rw [List.length_append, hl]
      simp only [List.mem_cons, List.not_mem_nil, or_false] at hn
      show n < 11 + 1; omega
    · show w_fi ws (n_v (vs ++ [Value.int x]) 2) 157 ≤ w_fi ws (n_v (vs ++ [Value.int x]) 2) 11
      rw [e_2]
      rw [q2]
      first | omega | grind
  have nf1 : fc_1 (20, [11, 2], [30, -4001, -1, 0, 0, -2, 1, 11]) ws (vs ++ [Value.int x]) := by
    refine ⟨fun n hn => ?_, ?_⟩
    · have hn : n ∈ [11, 2] := hn
      rw [List.length_append, hl]
      simp only [List.mem_cons, List.not_mem_nil, or_false] at hn
      show n < 11 + 1; omega
    · show (-1) * v_iv (n_v (vs ++ [Value.int x]) 11) + ((-2) * w_fi ws (n_v (vs ++ [Value.int x]) 2) 11 + 0) ≤ (-4001)
      rw [e_2]
      rw [e_11]
      rw [q2]
      omega
  have nf2 : fc_1 (24, [0, 2], []) ws (vs ++ [Value.int x]) := by
    refine ⟨fun n hn => ?_, ?_⟩
    · have hn : n ∈ [0, 2] := hn
      rw [List.length_append, hl]
      simp only [List.mem_cons, List.not_mem_nil, or_false] at hn
      show n < 11 + 1; omega
    · show n_v (vs ++ [Value.int x]) 0 = n_v (vs ++ [Value.int x]) 2
      first | rfl | simp only [e_0, e_2, q2]
  obtain ⟨x0, e0, _, _⟩ := tv_int t6 rfl
  have e1 : v_iv (n_v vs 6) = x0.toInt := by rw [e0]; rfl
  have ho : sy_ofs (vs ++ [Value.int x]) (11, 6, 0, 0) := by
    refine ⟨x, x0, by rw [List.getElem?_append_right (by rw [hl]; decide), hl]; rfl, ?_, ?_, ?_⟩
    · rw [List.getElem?_append_left (by rw [hl]; decide)]; exact n_v_some (by rw [hl]; decide) e0
    · show x0.toInt + 0 ≤ x.toInt; omega
    · show x.toInt ≤ x0.toInt + 0; omega
  exact ⟨fun q hq => (by cases hq), [Value.int x], ag_one hx, List.forall_mem_cons.mpr ⟨⟨by decide, nf0⟩, List.forall_mem_cons.mpr ⟨⟨by decide, nf1⟩, List.forall_mem_cons.mpr ⟨⟨by decide, nf2⟩, (fun _ h => (by cases h))⟩⟩⟩, List.forall_mem_cons.mpr ⟨ho, (fun _ h => (by cases h))⟩⟩
def o_Mo_styleTokens_120 : or_T := (363, 16, [(0, (2, 0, 0, [150])), (2, (2, 0, 0, [150])), (5, (0, 0, 1999, [])), (6, (0, 0, 4001, [])), (7, (0, 0, 255, [])), (8, (0, 32, 32, [])), (9, (0, 0, 255, [])), (10, (0, 10, 10, [])), (11, (0, 0, 4001, [])), (12, (0, -1, -1, [])), (15, (0, 0, 0, []))], [(8, [12], [2]), (9, [5, 2], [11]), (20, [5, 2, 12], [50, 1, 1, 1010, 1001, 4, 11, 0, 6, 4, 2, 1, 0, 0, 1, 2, 1, 10, 1, 2, 1, 2, 9, 5, 3, 1, 1, 1, 0, 0, 256]), (20, [2, 5, 12], [50, 1, 0, 10, 4, 7, 0, 3, 2, 0, 10, 1, 1, 1, 2, 1, 2, 0, -1]), (20, [2], [50, 2, 0, 157, 11, 0, 3, 2, 0, 157, 2, 0, 11]), (20, [11, 2], [30, -4001, -1, 0, 0, -2, 1, 11]), (24, [0, 2], []), (7, [9, 10], [1]), (20, [5, 2, 9], [50, 1, 1, 1010, 1001, 4, 11, 0, 6, 4, 2, 1, 0, 0, 1, 2, 1, 10, 1, 2, 1, 2, 9, 5, 3, 1, 1, 1, 0, 0, 256]), (20, [2, 5, 9], [50, 1, 0, 10, 4, 7, 0, 3, 2, 0, 10, 1, 1, 1, 2, 1, 2, 0, -1]), (7, [7, 8], [1]), (20, [5, 2, 7], [50, 1, 1, 1010, 1001, 4, 11, 0, 6, 4, 2, 1, 0, 0, 1, 2, 1, 10, 1, 2, 1, 2, 9, 5, 3, 1, 1, 1, 0, 0, 256]), (20, [2, 5, 7], [50, 1, 0, 10, 4, 7, 0, 3, 2, 0, 10, 1, 1, 1, 2, 1, 2, 0, -1]), (20, [2], [50, 2, 0, 157, 11, 0, 3, 2, 0, 157, 2, 0, 11]), (20, [6, 2], [30, -4001, -1, 0, 0, -2, 1, 11])], [], [(0, 0, 4001, [])], [(20, [2, 5, 15], [50, 2, 0, 157, 11, 2, 7, 0, 3, 2, 0, 157, 1, 1, 2, 7, 0, 2, 1, 1, 2, 0, 11, 3, 6, 1, 2, 1, 2, 0, 0, 3, 6, 1, 2, 1, 2, 0, 4, 0, 6, 4, 2, 1, 1, 0, 1, 2, 0, 11]), (20, [16, 5], [30, -4001, -1, 0, 0, -2, 0, 0]), (24, [0, 2], [])], [(16, 6, 0, 0)], [(11, 6, 0, 0)])
theorem oo_Mo_styleTokens_120 {kA : Nat → ClassId} : or_ok kA GG o_Mo_styleTokens_120 := by
  intro A ta ws vs hD hth hl hk hds hf
  have hl : vs.length = 16 := hl
  have hk : ∀ q ∈ ([(0, (2, 0, 0, [150])), (2, (2, 0, 0, [150])), (5, (0, 0, 1999, [])), (6, (0, 0, 4001, [])), (7, (0, 0, 255, [])), (8, (0, 32, 32, [])), (9, (0, 0, 255, [])), (10, (0, 10, 10, [])), (11, (0, 0, 4001, [])), (12, (0, -1, -1, [])), (15, (0, 0, 0, []))] : List (Nat × tv_T)), tv_ok ta q.2 (n_v vs q.1) := hk
  obtain ⟨t0, hk⟩ := List.forall_mem_cons.mp hk
  have t0 : tv_ok ta (2, 0, 0, [150]) (n_v vs 0) := t0
  have r0 : ta (v_ad (n_v vs 0)) = some 150 := tv_rg t0
  obtain ⟨t2, hk⟩ := List.forall_mem_cons.mp hk
  have t2 : tv_ok ta (2, 0, 0, [150]) (n_v vs 2) := t2
  have r2 : ta (v_ad (n_v vs 2)) = some 150 := tv_rg t2
  obtain ⟨t5, hk⟩ := List.forall_mem_cons.mp hk
  have t5 : tv_ok ta (0, 0, 1999, []) (n_v vs 5) := t5
  have k5 : 0 ≤ v_iv (n_v vs 5) ∧ v_iv (n_v vs 5) ≤ 1999 := tv_rng t5
  obtain ⟨t6, hk⟩ := List.forall_mem_cons.mp hk
  have t6 : tv_ok ta (0, 0, 4001, []) (n_v vs 6) := t6
  have k6 : 0 ≤ v_iv (n_v vs 6) ∧ v_iv (n_v vs 6) ≤ 4001 := tv_rng t6
  obtain ⟨t7, hk⟩ := List.forall_mem_cons.mp hk
  have t7 : tv_ok ta (0, 0, 255, []) (n_v vs 7) := t7
  have k7 : 0 ≤ v_iv (n_v vs 7) ∧ v_iv (n_v vs 7) ≤ 255 := tv_rng t7
  obtain ⟨t8, hk⟩ := List.forall_mem_cons.mp hk
  have t8 : tv_ok ta (0, 32, 32, []) (n_v vs 8) := t8
  have k8 : 32 ≤ v_iv (n_v vs 8) ∧ v_iv (n_v vs 8) ≤ 32 := tv_rng t8
  obtain ⟨t9, hk⟩ := List.forall_mem_cons.mp hk
  have t9 : tv_ok ta (0, 0, 255, []) (n_v vs 9) := t9
  have k9 : 0 ≤ v_iv (n_v vs 9) ∧ v_iv (n_v vs 9) ≤ 255 := tv_rng t9
  obtain ⟨t10, hk⟩ := List.forall_mem_cons.mp hk
  have t10 : tv_ok ta (0, 10, 10, []) (n_v vs 10) := t10
  have k10 : 10 ≤ v_iv (n_v vs 10) ∧ v_iv (n_v vs 10) ≤ 10 := tv_rng t10
  obtain ⟨t11, hk⟩ := List.forall_mem_cons.mp hk
  have t11 : tv_ok ta (0, 0, 4001, []) (n_v vs 11) := t11
  have k11 : 0 ≤ v_iv (n_v vs 11) ∧ v_iv (n_v vs 11) ≤ 4001 := tv_rng t11
  obtain ⟨t12, hk⟩ := List.forall_mem_cons.mp hk
  have t12 : tv_ok ta (0, -1, -1, []) (n_v vs 12) := t12
  have k12 : (-1) ≤ v_iv (n_v vs 12) ∧ v_iv (n_v vs 12) ≤ (-1) := tv_rng t12
  obtain ⟨t15, hk⟩ := List.forall_mem_cons.mp hk
  have t15 : tv_ok ta (0, 0, 0, []) (n_v vs 15) := t15
  have k15 : 0 ≤ v_iv (n_v vs 15) ∧ v_iv (n_v vs 15) ≤ 0 := tv_rng t15
  have hds : ∀ q ∈ ([(11, 6, 0, 0)] : List of_T), n_iv vs q.2.1 + q.2.2.1 ≤ n_iv vs q.1 ∧ n_iv vs q.1 ≤ n_iv vs q.2.1 + q.2.2.2 := hds
  obtain ⟨d0, hds⟩ := List.forall_mem_cons.mp hds
  have d0 : v_iv (n_v vs 6) + 0 ≤ v_iv (n_v vs 11) ∧ v_iv (n_v vs 11) ≤ v_iv (n_v vs 6) + 0 := d0
  have hf : fc_ok [(8, [12], [2]), (9, [5, 2], [11]), (20, [5, 2, 12], [50, 1, 1, 1010, 1001, 4, 11, 0, 6, 4, 2, 1, 0, 0, 1, 2, 1, 10, 1, 2, 1, 2, 9, 5, 3, 1, 1, 1, 0, 0, 256]), (20, [2, 5, 12], [50, 1, 0, 10, 4, 7, 0, 3, 2, 0, 10, 1, 1, 1, 2, 1, 2, 0, -1]), (20, [2], [50, 2, 0, 157, 11, 0, 3, 2, 0, 157, 2, 0, 11]), (20, [11, 2], [30, -4001, -1, 0, 0, -2, 1, 11]), (24, [0, 2], []), (7, [9, 10], [1]), (20, [5, 2, 9], [50, 1, 1, 1010, 1001, 4, 11, 0, 6, 4, 2, 1, 0, 0, 1, 2, 1, 10, 1, 2, 1, 2, 9, 5, 3, 1, 1, 1, 0, 0, 256]), (20, [2, 5, 9], [50, 1, 0, 10, 4, 7, 0, 3, 2, 0, 10, 1, 1, 1, 2, 1, 2, 0, -1]), (7, [7, 8], [1]), (20, [5, 2, 7], [50, 1, 1, 1010, 1001, 4, 11, 0, 6, 4, 2, 1, 0, 0, 1, 2, 1, 10, 1, 2, 1, 2, 9, 5, 3, 1, 1, 1, 0, 0, 256]), (20, [2, 5, 7], [50, 1, 0, 10, 4, 7, 0, 3, 2, 0, 10, 1, 1, 1, 2, 1, 2, 0, -1]), (20, [2], [50, 2, 0, 157, 11, 0, 3, 2, 0, 157, 2, 0, 11]), (20, [6, 2], [30, -4001, -1, 0, 0, -2, 1, 11])] ta ws vs := hf
  obtain ⟨f0, hf⟩ := fc_un (by decide) hf
  have f0 : v_iv (n_v vs 12) < 0 := f0
  obtain ⟨f1, hf⟩ := fc_un (by decide) hf
  have f1 : n_v vs 5 = w_fd ws (v_ad (n_v vs 2)) 11 := f1
  obtain ⟨f2, hf⟩ := fc_un (by decide) hf
  have f2 : ((v_iv (n_v vs 5) + 1) ≤ w_fi ws (n_v vs 2) 10) → (v_iv (n_v vs 12) = (w_ei ws (w_ar ws (n_v vs 2) 1) (v_iv (n_v vs 5)) % 256)) := f2
  obtain ⟨f3, hf⟩ := fc_un (by decide) hf
  have f3 : (w_fi ws (n_v vs 2) 10 ≤ v_iv (n_v vs 5)) → (v_iv (n_v vs 12) = (-1)) := f3
  obtain ⟨f4, hf⟩ := fc_un (by decide) hf
  have f4 : w_fi ws (n_v vs 2) 157 ≤ w_fi ws (n_v vs 2) 11 := f4
  obtain ⟨f5, hf⟩ := fc_un (by decide) hf
  have f5 : (-1) * v_iv (n_v vs 11) + ((-2) * w_fi ws (n_v vs 2) 11 + 0) ≤ (-4001) := f5
  obtain ⟨f6, hf⟩ := fc_un (by decide) hf
  have f6 : n_v vs 0 = n_v vs 2 := f6
  obtain ⟨f7, hf⟩ := fc_un (by decide) hf
  have f7 : v_iv (n_v vs 9) ≠ v_iv (n_v vs 10) := f7
  obtain ⟨f8, hf⟩ := fc_un (by decide) hf
  have f8 : ((v_iv (n_v vs 5) + 1) ≤ w_fi ws (n_v vs 2) 10) → (v_iv (n_v vs 9) = (w_ei ws (w_ar ws (n_v vs 2) 1) (v_iv (n_v vs 5)) % 256)) := f8
  obtain ⟨f9, hf⟩ := fc_un (by decide) hf
  have f9 : (w_fi ws (n_v vs 2) 10 ≤ v_iv (n_v vs 5)) → (v_iv (n_v vs 9) = (-1)) := f9
  obtain ⟨f10, hf⟩ := fc_un (by decide) hf
  have f10 : v_iv (n_v vs 7) ≠ v_iv (n_v vs 8) := f10
  obtain ⟨f11, hf⟩ := fc_un (by decide) hf
  have f11 : ((v_iv (n_v vs 5) + 1) ≤ w_fi ws (n_v vs 2) 10) → (v_iv (n_v vs 7) = (w_ei ws (w_ar ws (n_v vs 2) 1) (v_iv (n_v vs 5)) % 256)) := f11
  obtain ⟨f12, hf⟩ := fc_un (by decide) hf
  have f12 : (w_fi ws (n_v vs 2) 10 ≤ v_iv (n_v vs 5)) → (v_iv (n_v vs 7) = (-1)) := f12
  obtain ⟨f13, hf⟩ := fc_un (by decide) hf
  have f13 : w_fi ws (n_v vs 2) 157 ≤ w_fi ws (n_v vs 2) 11 := f13
  obtain ⟨f14, hf⟩ := fc_un (by decide) hf
  have f14 : (-1) * v_iv (n_v vs 6) + ((-2) * w_fi ws (n_v vs 2) 11 + 0) ≤ (-4001) := f14
  have q2 : n_v vs 2 = n_v vs 0 := f6.symm
  rw [q2] at f1
  rw [q2] at f2
  rw [q2] at f3
  rw [q2] at f4
  rw [q2] at f5
  rw [q2] at f8
  rw [q2] at f9
  rw [q2] at f11
  rw [q2] at f12
  rw [q2] at f13
  rw [q2] at f14
  have cr_0_1 : ta (w_ar ws (n_v vs 0) 1) = some 151 := tv_rg (th_fd hD hth r0 (g := GG_150) rfl (k := 1) (t := (2, 0, 0, [151])) rfl rfl)
  have g1 : v_iv (n_v vs 5) = w_fi ws (n_v vs 0) 11 := congrArg v_iv f1
  have hK_0_1 : ∀ j : Int, 0 ≤ j → j < 2000 → (-128) ≤ w_ei ws (w_ar ws (n_v vs 0) 1) j ∧ w_ei ws (w_ar ws (n_v vs 0) 1) j ≤ 127 := fun j h0 h1 => th_el hD hth cr_0_1 (kd := 1) (n := 2000) (m := 2000) (lo := (-128)) (hi := 127) (rs := []) (L := []) rfl (by decide) (j := j.toNat) (by omega)
  have kz_0_10 : 0 ≤ w_fi ws (n_v vs 0) 10 ∧ w_fi ws (n_v vs 0) 10 ≤ 2000 := tv_rng (th_fd hD hth r0 (g := GG_150) rfl (k := 10) (t := (0, 0, 2000, [])) rfl rfl)
  have kz_0_11 : 0 ≤ w_fi ws (n_v vs 0) 11 ∧ w_fi ws (n_v vs 0) 11 ≤ 2000 := tv_rng (th_fd hD hth r0 (g := GG_150) rfl (k := 11) (t := (0, 0, 2000, [])) rfl rfl)
  have kz_0_157 : 0 ≤ w_fi ws (n_v vs 0) 157 ∧ w_fi ws (n_v vs 0) 157 ≤ 2010 := tv_rng (th_fd hD hth r0 (g := GG_150) rfl (k := 157) (t := (0, 0, 2010, [])) rfl rfl)
  obtain ⟨x, ex, hx⟩ := iv_ex (ta := ta) (lo := 0) (hi := 4001) (z := 0 + (1 * v_iv (n_v vs 6) + 0)) (by omega) (by omega) (by decide) (by decide)
  have ex2 : v_iv (Value.int x) = 0 + (1 * v_iv (n_v vs 6) + 0) := ex
  have ex3 : 0 ≤ v_iv (Value.int x) ∧ v_iv (Value.int x) ≤ 4001 := tv_rng hx
  have e_0 : n_v (vs ++ [Value.int x]) 0 = n_v vs 0 := n_v_old (by rw [hl]; decide)
  have e_2 : n_v (vs ++ [Value.int x]) 2 = n_v vs 2 := n_v_old (by rw [hl]; decide)
  have e_5 : n_v (vs ++ [Value.int x]) 5 = n_v vs 5 := n_v_old (by rw [hl]; decide)
  have e_15 : n_v (vs ++ [Value.int x]) 15 = n_v vs 15 := n_v_old (by rw [hl]; decide)
  have e_16 : n_v (vs ++ [Value.int x]) 16 = Value.int x := n_v_new hl
  have nf0 : fc_1 (20, [2, 5, 15], [50, 2, 0, 157, 11, 2, 7, 0, 3, 2, 0, 157, 1, 1, 2, 7, 0, 2, 1, 1, 2, 0, 11, 3, 6, 1, 2, 1, 2, 0, 0, 3, 6, 1, 2, 1, 2, 0, 4, 0, 6, 4, 2, 1, 1, 0, 1, 2, 0, 11]) ws (vs ++ [Value.int x]) := by
    refine ⟨fun n hn => ?_, ?_⟩
    · have hn : n ∈ [2, 5, 15] := hn
      rw [List.length_append, hl]
      simp only [List.mem_cons, List.not_mem_nil, or_false] at hn
      show n < 16 + 1; omega
    · show (w_fi ws (n_v (vs ++ [Value.int x]) 2) 157 ≤ v_iv (n_v (vs ++ [Value.int x]) 5)) ∧ ((v_iv (n_v (vs ++ [Value.int x]) 5) ≤ w_fi ws (n_v (vs ++ [Value.int x]) 2) 11) ∧ ((v_iv (n_v (vs ++ [Value.int x]) 15) = 0) ∨ ((v_iv (n_v (vs ++ [Value.int x]) 15) = 4) ∨ ((v_iv (n_v (vs ++ [Value.int x]) 5) + 1) ≤ w_fi ws (n_v (vs ++ [Value.int x]) 2) 11))))
      rw [e_2]
      rw [e_5]
      rw [e_15]
      rw [q2]
      first | omega | grind
  have nf1 : fc_1 (20, [16, 5], [30, -4001, -1, 0, 0, -2, 0, 0]) ws (vs ++ [Value.int x]) := by
    refine ⟨fun n hn => ?_, ?_⟩
    · have hn : n ∈ [16, 5] := hn
      rw [List.length_append, hl]
      simp only [List.mem_cons, List.not_mem_nil, or_false] at hn
      show n < 16 + 1; omega
    · show (-1) * v_iv (n_v (vs ++ [Value.int x]) 16) + ((-2) * v_iv (n_v (vs ++ [Value.int x]) 5) + 0) ≤ (-4001)
      rw [e_5]
      rw [e_16]
      omega
  have nf2 : fc_1 (24, [0, 2], []) ws (vs ++ [Value.int x]) := by
    refine ⟨fun n hn => ?_, ?_⟩
    · have hn : n ∈ [0, 2] := hn
      rw [List.length_append, hl]
      simp only [List.mem_cons, List.not_mem_nil, or_false] at hn
      show n < 16 + 1; omega
    · show n_v (vs ++ [Value.int x]) 0 = n_v (vs ++ [Value.int x]) 2
      first | rfl | simp only [e_0, e_2, q2]
  obtain ⟨x0, e0, _, _⟩ := tv_int t6 rfl
  have e1 : v_iv (n_v vs 6) = x0.toInt := by rw [e0]; rfl
  have ho : sy_ofs (vs ++ [Value.int x]) (16, 6, 0, 0) := by
    refine ⟨x, x0, by rw [List.getElem?_append_right (by rw [hl]; decide), hl]; rfl, ?_, ?_, ?_⟩
    · rw [List.getElem?_append_left (by rw [hl]; decide)]; exact n_v_some (by rw [hl]; decide) e0
    · show x0.toInt + 0 ≤ x.toInt; omega
    · show x.toInt ≤ x0.toInt + 0; omega
  exact ⟨fun q hq => (by cases hq), [Value.int x], ag_one hx, List.forall_mem_cons.mpr ⟨⟨by decide, nf0⟩, List.forall_mem_cons.mpr ⟨⟨by decide, nf1⟩, List.forall_mem_cons.mpr ⟨⟨by decide, nf2⟩, (fun _ h => (by cases h))⟩⟩⟩, List.forall_mem_cons.mpr ⟨ho, (fun _ h => (by cases h))⟩⟩
def o_Mo_styleTokens_121 : or_T := (250, 19, [(0, (2, 0, 0, [150])), (2, (2, 0, 0, [150])), (5, (0, 0, 1999, [])), (6, (0, 0, 4001, [])), (7, (0, 0, 255, [])), (8, (0, 32, 32, [])), (9, (0, 0, 255, [])), (10, (0, 10, 10, [])), (11, (0, 0, 4001, [])), (12, (0, 0, 47, []))], [(8, [12], [3]), (9, [5, 2], [11]), (20, [5, 2, 12], [50, 1, 1, 1010, 1001, 4, 11, 0, 6, 4, 2, 1, 0, 0, 1, 2, 1, 10, 1, 2, 1, 2, 9, 5, 3, 1, 1, 1, 0, 0, 256]), (20, [2, 5, 12], [50, 1, 0, 10, 4, 7, 0, 3, 2, 0, 10, 1, 1, 1, 2, 1, 2, 0, -1]), (20, [2], [50, 2, 0, 157, 11, 0, 3, 2, 0, 157, 2, 0, 11]), (20, [11, 2], [30, -4001, -1, 0, 0, -2, 1, 11]), (24, [0, 2], []), (7, [9, 10], [1]), (20, [5, 2, 9], [50, 1, 1, 1010, 1001, 4, 11, 0, 6, 4, 2, 1, 0, 0, 1, 2, 1, 10, 1, 2, 1, 2, 9, 5, 3, 1, 1, 1, 0, 0, 256]), (20, [2, 5, 9], [50, 1, 0, 10, 4, 7, 0, 3, 2, 0, 10, 1, 1, 1, 2, 1, 2, 0, -1]), (7, [7, 8], [1]), (20, [5, 2, 7], [50, 1, 1, 1010, 1001, 4, 11, 0, 6, 4, 2, 1, 0, 0, 1, 2, 1, 10, 1, 2, 1, 2, 9, 5, 3, 1, 1, 1, 0, 0, 256]), (20, [2, 5, 7], [50, 1, 0, 10, 4, 7, 0, 3, 2, 0, 10, 1, 1, 1, 2, 1, 2, 0, -1]), (20, [2], [50, 2, 0, 157, 11, 0, 3, 2, 0, 157, 2, 0, 11]), (20, [6, 2], [30, -4001, -1, 0, 0, -2, 1, 11])], [], [(0, 0, 4001, [])], [(20, [2, 5], [50, 2, 0, 157, 11, 2, 7, 0, 3, 2, 0, 157, 1, 1, 1, 3, 2, 0, 11, 1, 1]), (20, [19, 5], [30, -4001, -1, 0, 0, -2, 0, 0]), (24, [0, 2], [])], [(19, 6, 0, 0)], [(11, 6, 0, 0)])
theorem oo_Mo_styleTokens_121 {kA : Nat → ClassId} : or_ok kA GG o_Mo_styleTokens_121 := by
  intro A ta ws vs hD hth hl hk hds hf
  have hl : vs.length = 19 := hl
  have hk : ∀ q ∈ ([(0, (2, 0, 0, [150])), (2, (2, 0, 0, [150])), (5, (0, 0, 1999, [])), (6, (0, 0, 4001, [])), (7, (0, 0, 255, [])), (8, (0, 32, 32, [])), (9, (0, 0, 255, [])), (10, (0, 10, 10, [])), (11, (0, 0, 4001, [])), (12, (0, 0, 47, []))] : List (Nat × tv_T)), tv_ok ta q.2 (n_v vs q.1) := hk
  obtain ⟨t0, hk⟩ := List.forall_mem_cons.mp hk
  have t0 : tv_ok ta (2, 0, 0, [150]) (n_v vs 0) := t0
  have r0 : ta (v_ad (n_v vs 0)) = some 150 := tv_rg t0
  obtain ⟨t2, hk⟩ := List.forall_mem_cons.mp hk
  have t2 : tv_ok ta (2, 0, 0, [150]) (n_v vs 2) := t2
  have r2 : ta (v_ad (n_v vs 2)) = some 150 := tv_rg t2
  obtain ⟨t5, hk⟩ := List.forall_mem_cons.mp hk
  have t5 : tv_ok ta (0, 0, 1999, []) (n_v vs 5) := t5
  have k5 : 0 ≤ v_iv (n_v vs 5) ∧ v_iv (n_v vs 5) ≤ 1999 := tv_rng t5
  obtain ⟨t6, hk⟩ := List.forall_mem_cons.mp hk
  have t6 : tv_ok ta (0, 0, 4001, []) (n_v vs 6) := t6
  have k6 : 0 ≤ v_iv (n_v vs 6) ∧ v_iv (n_v vs 6) ≤ 4001 := tv_rng t6
  obtain ⟨t7, hk⟩ := List.forall_mem_cons.mp hk
  have t7 : tv_ok ta (0, 0, 255, []) (n_v vs 7) := t7
  have k7 : 0 ≤ v_iv (n_v vs 7) ∧ v_iv (n_v vs 7) ≤ 255 := tv_rng t7
  obtain ⟨t8, hk⟩ := List.forall_mem_cons.mp hk
  have t8 : tv_ok ta (0, 32, 32, []) (n_v vs 8) := t8
  have k8 : 32 ≤ v_iv (n_v vs 8) ∧ v_iv (n_v vs 8) ≤ 32 := tv_rng t8
  obtain ⟨t9, hk⟩ := List.forall_mem_cons.mp hk
  have t9 : tv_ok ta (0, 0, 255, []) (n_v vs 9) := t9
  have k9 : 0 ≤ v_iv (n_v vs 9) ∧ v_iv (n_v vs 9) ≤ 255 := tv_rng t9
  obtain ⟨t10, hk⟩ := List.forall_mem_cons.mp hk
  have t10 : tv_ok ta (0, 10, 10, []) (n_v vs 10) := t10
  have k10 : 10 ≤ v_iv (n_v vs 10) ∧ v_iv (n_v vs 10) ≤ 10 := tv_rng t10
  obtain ⟨t11, hk⟩ := List.forall_mem_cons.mp hk
  have t11 : tv_ok ta (0, 0, 4001, []) (n_v vs 11) := t11
  have k11 : 0 ≤ v_iv (n_v vs 11) ∧ v_iv (n_v vs 11) ≤ 4001 := tv_rng t11
  obtain ⟨t12, hk⟩ := List.forall_mem_cons.mp hk
  have t12 : tv_ok ta (0, 0, 47, []) (n_v vs 12) := t12
  have k12 : 0 ≤ v_iv (n_v vs 12) ∧ v_iv (n_v vs 12) ≤ 47 := tv_rng t12
  have hds : ∀ q ∈ ([(11, 6, 0, 0)] : List of_T), n_iv vs q.2.1 + q.2.2.1 ≤ n_iv vs q.1 ∧ n_iv vs q.1 ≤ n_iv vs q.2.1 + q.2.2.2 := hds
  obtain ⟨d0, hds⟩ := List.forall_mem_cons.mp hds
  have d0 : v_iv (n_v vs 6) + 0 ≤ v_iv (n_v vs 11) ∧ v_iv (n_v vs 11) ≤ v_iv (n_v vs 6) + 0 := d0
  have hf : fc_ok [(8, [12], [3]), (9, [5, 2], [11]), (20, [5, 2, 12], [50, 1, 1, 1010, 1001, 4, 11, 0, 6, 4, 2, 1, 0, 0, 1, 2, 1, 10, 1, 2, 1, 2, 9, 5, 3, 1, 1, 1, 0, 0, 256]), (20, [2, 5, 12], [50, 1, 0, 10, 4, 7, 0, 3, 2, 0, 10, 1, 1, 1, 2, 1, 2, 0, -1]), (20, [2], [50, 2, 0, 157, 11, 0, 3, 2, 0, 157, 2, 0, 11]), (20, [11, 2], [30, -4001, -1, 0, 0, -2, 1, 11]), (24, [0, 2], []), (7, [9, 10], [1]), (20, [5, 2, 9], [50, 1, 1, 1010, 1001, 4, 11, 0, 6, 4, 2, 1, 0, 0, 1, 2, 1, 10, 1, 2, 1, 2, 9, 5, 3, 1, 1, 1, 0, 0, 256]), (20, [2, 5, 9], [50, 1, 0, 10, 4, 7, 0, 3, 2, 0, 10, 1, 1, 1, 2, 1, 2, 0, -1]), (7, [7, 8], [1]), (20, [5, 2, 7], [50, 1, 1, 1010, 1001, 4, 11, 0, 6, 4, 2, 1, 0, 0, 1, 2, 1, 10, 1, 2, 1, 2, 9, 5, 3, 1, 1, 1, 0, 0, 256]), (20, [2, 5, 7], [50, 1, 0, 10, 4, 7, 0, 3, 2, 0, 10, 1, 1, 1, 2, 1, 2, 0, -1]), (20, [2], [50, 2, 0, 157, 11, 0, 3, 2, 0, 157, 2, 0, 11]), (20, [6, 2], [30, -4001, -1, 0, 0, -2, 1, 11])] ta ws vs := hf
  obtain ⟨f0, hf⟩ := fc_un (by decide) hf
  have f0 : 0 ≤ v_iv (n_v vs 12) := f0
  obtain ⟨f1, hf⟩ := fc_un (by decide) hf
  have f1 : n_v vs 5 = w_fd ws (v_ad (n_v vs 2)) 11 := f1
  obtain ⟨f2, hf⟩ := fc_un (by decide) hf
  have f2 : ((v_iv (n_v vs 5) + 1) ≤ w_fi ws (n_v vs 2) 10) → (v_iv (n_v vs 12) = (w_ei ws (w_ar ws (n_v vs 2) 1) (v_iv (n_v vs 5)) % 256)) := f2
  obtain ⟨f3, hf⟩ := fc_un (by decide) hf
  have f3 : (w_fi ws (n_v vs 2) 10 ≤ v_iv (n_v vs 5)) → (v_iv (n_v vs 12) = (-1)) := f3
  obtain ⟨f4, hf⟩ := fc_un (by decide) hf
  have f4 : w_fi ws (n_v vs 2) 157 ≤ w_fi ws (n_v vs 2) 11 := f4
  obtain ⟨f5, hf⟩ := fc_un (by decide) hf
  have f5 : (-1) * v_iv (n_v vs 11) + ((-2) * w_fi ws (n_v vs 2) 11 + 0) ≤ (-4001) := f5
  obtain ⟨f6, hf⟩ := fc_un (by decide) hf
  have f6 : n_v vs 0 = n_v vs 2 := f6
  obtain ⟨f7, hf⟩ := fc_un (by decide) hf
  have f7 : v_iv (n_v vs 9) ≠ v_iv (n_v vs 10) := f7
  obtain ⟨f8, hf⟩ := fc_un (by decide) hf
  have f8 : ((v_iv (n_v vs 5) + 1) ≤ w_fi ws (n_v vs 2) 10) → (v_iv (n_v vs 9) = (w_ei ws (w_ar ws (n_v vs 2) 1) (v_iv (n_v vs 5)) % 256)) := f8
  obtain ⟨f9, hf⟩ := fc_un (by decide) hf
  have f9 : (w_fi ws (n_v vs 2) 10 ≤ v_iv (n_v vs 5)) → (v_iv (n_v vs 9) = (-1)) := f9
  obtain ⟨f10, hf⟩ := fc_un (by decide) hf
  have f10 : v_iv (n_v vs 7) ≠ v_iv (n_v vs 8) := f10
  obtain ⟨f11, hf⟩ := fc_un (by decide) hf
  have f11 : ((v_iv (n_v vs 5) + 1) ≤ w_fi ws (n_v vs 2) 10) → (v_iv (n_v vs 7) = (w_ei ws (w_ar ws (n_v vs 2) 1) (v_iv (n_v vs 5)) % 256)) := f11
  obtain ⟨f12, hf⟩ := fc_un (by decide) hf
  have f12 : (w_fi ws (n_v vs 2) 10 ≤ v_iv (n_v vs 5)) → (v_iv (n_v vs 7) = (-1)) := f12
  obtain ⟨f13, hf⟩ := fc_un (by decide) hf
  have f13 : w_fi ws (n_v vs 2) 157 ≤ w_fi ws (n_v vs 2) 11 := f13
  obtain ⟨f14, hf⟩ := fc_un (by decide) hf
  have f14 : (-1) * v_iv (n_v vs 6) + ((-2) * w_fi ws (n_v vs 2) 11 + 0) ≤ (-4001) := f14
  have q2 : n_v vs 2 = n_v vs 0 := f6.symm
  rw [q2] at f1
  rw [q2] at f2
  rw [q2] at f3
  rw [q2] at f4
  rw [q2] at f5
  rw [q2] at f8
  rw [q2] at f9
  rw [q2] at f11
  rw [q2] at f12
  rw [q2] at f13
  rw [q2] at f14
  have cr_0_1 : ta (w_ar ws (n_v vs 0) 1) = some 151 := tv_rg (th_fd hD hth r0 (g := GG_150) rfl (k := 1) (t := (2, 0, 0, [151])) rfl rfl)
  have g1 : v_iv (n_v vs 5) = w_fi ws (n_v vs 0) 11 := congrArg v_iv f1
  have hK_0_1 : ∀ j : Int, 0 ≤ j → j < 2000 → (-128) ≤ w_ei ws (w_ar ws (n_v vs 0) 1) j ∧ w_ei ws (w_ar ws (n_v vs 0) 1) j ≤ 127 := fun j h0 h1 => th_el hD hth cr_0_1 (kd := 1) (n := 2000) (m := 2000) (lo := (-128)) (hi := 127) (rs := []) (L := []) rfl (by decide) (j := j.toNat) (by omega)
  have kz_0_10 : 0 ≤ w_fi ws (n_v vs 0) 10 ∧ w_fi ws (n_v vs 0) 10 ≤ 2000 := tv_rng (th_fd hD hth r0 (g := GG_150) rfl (k := 10) (t := (0, 0, 2000, [])) rfl rfl)
  have kz_0_11 : 0 ≤ w_fi ws (n_v vs 0) 11 ∧ w_fi ws (n_v vs 0) 11 ≤ 2000 := tv_rng (th_fd hD hth r0 (g := GG_150) rfl (k := 11) (t := (0, 0, 2000, [])) rfl rfl)
  have kz_0_157 : 0 ≤ w_fi ws (n_v vs 0) 157 ∧ w_fi ws (n_v vs 0) 157 ≤ 2010 := tv_rng (th_fd hD hth r0 (g := GG_150) rfl (k := 157) (t := (0, 0, 2010, [])) rfl rfl)
  obtain ⟨x, ex, hx⟩ := iv_ex (ta := ta) (lo := 0) (hi := 4001) (z := 0 + (1 * v_iv (n_v vs 6) + 0)) (by omega) (by omega) (by decide) (by decide)
  have ex2 : v_iv (Value.int x) = 0 + (1 * v_iv (n_v vs 6) + 0) := ex
  have ex3 : 0 ≤ v_iv (Value.int x) ∧ v_iv (Value.int x) ≤ 4001 := tv_rng hx
  have e_0 : n_v (vs ++ [Value.int x]) 0 = n_v vs 0 := n_v_old (by rw [hl]; decide)
  have e_2 : n_v (vs ++ [Value.int x]) 2 = n_v vs 2 := n_v_old (by rw [hl]; decide)
  have e_5 : n_v (vs ++ [Value.int x]) 5 = n_v vs 5 := n_v_old (by rw [hl]; decide)
  have e_19 : n_v (vs ++ [Value.int x]) 19 = Value.int x := n_v_new hl
  have nf0 : fc_1 (20, [2, 5], [50, 2, 0, 157, 11, 2, 7, 0, 3, 2, 0, 157, 1, 1, 1, 3, 2, 0, 11, 1, 1]) ws (vs ++ [Value.int x]) := by
    refine ⟨fun n hn => ?_, ?_⟩
    · have hn : n ∈ [2, 5] := hn
      rw [List.length_append, hl]
      simp only [List.mem_cons, List.not_mem_nil, or_false] at hn
      show n < 19 + 1; omega
    · show (w_fi ws (n_v (vs ++ [Value.int x]) 2) 157 ≤ v_iv (n_v (vs ++ [Value.int x]) 5)) ∧ (w_fi ws (n_v (vs ++ [Value.int x]) 2) 11 = v_iv (n_v (vs ++ [Value.int x]) 5))
      rw [e_2]
      rw [e_5]
      rw [q2]
      first | omega | grind
  have nf1 : fc_1 (20, [19, 5], [30, -4001, -1, 0, 0, -2, 0, 0]) ws (vs ++ [Value.int x]) := by
    refine ⟨fun n hn => ?_, ?_⟩
    · have hn : n ∈ [19, 5] := hn
      rw [List.length_append, hl]
      simp only [List.mem_cons, List.not_mem_nil, or_false] at hn
      show n < 19 + 1; omega
    · show (-1) * v_iv (n_v (vs ++ [Value.int x]) 19) + ((-2) * v_iv (n_v (vs ++ [Value.int x]) 5) + 0) ≤ (-4001)
      rw [e_5]
      rw [e_19]
      omega
  have nf2 : fc_1 (24, [0, 2], []) ws (vs ++ [Value.int x]) := by
    refine ⟨fun n hn => ?_, ?_⟩
    · have hn : n ∈ [0, 2] := hn
      rw [List.length_append, hl]
      simp only [List.mem_cons, List.not_mem_nil, or_false] at hn
      show n < 19 + 1; omega
    · show n_v (vs ++ [Value.int x]) 0 = n_v (vs ++ [Value.int x]) 2
      first | rfl | simp only [e_0, e_2, q2]
  obtain ⟨x0, e0, _, _⟩ := tv_int t6 rfl
  have e1 : v_iv (n_v vs 6) = x0.toInt := by rw [e0]; rfl
  have ho : sy_ofs (vs ++ [Value.int x]) (19, 6, 0, 0) := by
    refine ⟨x, x0, by rw [List.getElem?_append_right (by rw [hl]; decide), hl]; rfl, ?_, ?_, ?_⟩
    · rw [List.getElem?_append_left (by rw [hl]; decide)]; exact n_v_some (by rw [hl]; decide) e0
    · show x0.toInt + 0 ≤ x.toInt; omega
    · show x.toInt ≤ x0.toInt + 0; omega
  exact ⟨fun q hq => (by cases hq), [Value.int x], ag_one hx, List.forall_mem_cons.mpr ⟨⟨by decide, nf0⟩, List.forall_mem_cons.mpr ⟨⟨by decide, nf1⟩, List.forall_mem_cons.mpr ⟨⟨by decide, nf2⟩, (fun _ h => (by cases h))⟩⟩⟩, List.forall_mem_cons.mpr ⟨ho, (fun _ h => (by cases h))⟩⟩
def o_Mo_styleTokens_122 : or_T := (334, 23, [(0, (2, 0, 0, [150])), (2, (2, 0, 0, [150])), (5, (0, 0, 1999, [])), (6, (0, 0, 4001, [])), (7, (0, 0, 255, [])), (8, (0, 32, 32, [])), (9, (0, 0, 255, [])), (10, (0, 10, 10, [])), (11, (0, 0, 4001, [])), (12, (0, 40, 40, [])), (19, (0, 0, 4001, [])), (20, (0, 123, 123, [])), (21, (0, 125, 125, [])), (22, (0, 40, 40, []))], [(7, [12, 22], [0]), (7, [12, 21], [1]), (7, [12, 20], [1]), (20, [2, 5], [50, 2, 0, 157, 11, 2, 7, 0, 3, 2, 0, 157, 1, 1, 1, 3, 2, 0, 11, 1, 1]), (20, [19, 5], [30, -4001, -1, 0, 0, -2, 0, 0]), (24, [0, 2], []), (8, [12], [3]), (9, [5, 2], [11]), (20, [5, 2, 12], [50, 1, 1, 1010, 1001, 4, 11, 0, 6, 4, 2, 1, 0, 0, 1, 2, 1, 10, 1, 2, 1, 2, 9, 5, 3, 1, 1, 1, 0, 0, 256]), (20, [2, 5, 12], [50, 1, 0, 10, 4, 7, 0, 3, 2, 0, 10, 1, 1, 1, 2, 1, 2, 0, -1]), (20, [2], [50, 2, 0, 157, 11, 0, 3, 2, 0, 157, 2, 0, 11]), (20, [11, 2], [30, -4001, -1, 0, 0, -2, 1, 11]), (7, [9, 10], [1]), (20, [5, 2, 9], [50, 1, 1, 1010, 1001, 4, 11, 0, 6, 4, 2, 1, 0, 0, 1, 2, 1, 10, 1, 2, 1, 2, 9, 5, 3, 1, 1, 1, 0, 0, 256]), (20, [2, 5, 9], [50, 1, 0, 10, 4, 7, 0, 3, 2, 0, 10, 1, 1, 1, 2, 1, 2, 0, -1]), (7, [7, 8], [1]), (20, [5, 2, 7], [50, 1, 1, 1010, 1001, 4, 11, 0, 6, 4, 2, 1, 0, 0, 1, 2, 1, 10, 1, 2, 1, 2, 9, 5, 3, 1, 1, 1, 0, 0, 256]), (20, [2, 5, 7], [50, 1, 0, 10, 4, 7, 0, 3, 2, 0, 10, 1, 1, 1, 2, 1, 2, 0, -1]), (20, [2], [50, 2, 0, 157, 11, 0, 3, 2, 0, 157, 2, 0, 11]), (20, [6, 2], [30, -4001, -1, 0, 0, -2, 1, 11])], [], [(0, 0, 4001, [])], [(20, [2, 5], [50, 2, 0, 157, 11, 2, 7, 0, 3, 2, 0, 157, 1, 1, 1, 3, 2, 0, 11, 1, 1]), (20, [23, 5], [30, -4001, -1, 0, 0, -2, 0, 0]), (24, [0, 2], [])], [(23, 6, 0, 0)], [(19, 6, 0, 0), (11, 6, 0, 0)])
theorem oo_Mo_styleTokens_122 {kA : Nat → ClassId} : or_ok kA GG o_Mo_styleTokens_122 := by
  intro A ta ws vs hD hth hl hk hds hf
  have hl : vs.length = 23 := hl
  have hk : ∀ q ∈ ([(0, (2, 0, 0, [150])), (2, (2, 0, 0, [150])), (5, (0, 0, 1999, [])), (6, (0, 0, 4001, [])), (7, (0, 0, 255, [])), (8, (0, 32, 32, [])), (9, (0, 0, 255, [])), (10, (0, 10, 10, [])), (11, (0, 0, 4001, [])), (12, (0, 40, 40, [])), (19, (0, 0, 4001, [])), (20, (0, 123, 123, [])), (21, (0, 125, 125, [])), (22, (0, 40, 40, []))] : List (Nat × tv_T)), tv_ok ta q.2 (n_v vs q.1) := hk
  obtain ⟨t0, hk⟩ := List.forall_mem_cons.mp hk
  have t0 : tv_ok ta (2, 0, 0, [150]) (n_v vs 0) := t0
  have r0 : ta (v_ad (n_v vs 0)) = some 150 := tv_rg t0
  obtain ⟨t2, hk⟩ := List.forall_mem_cons.mp hk
  have t2 : tv_ok ta (2, 0, 0, [150]) (n_v vs 2) := t2
  have r2 : ta (v_ad (n_v vs 2)) = some 150 := tv_rg t2
  obtain ⟨t5, hk⟩ := List.forall_mem_cons.mp hk
  have t5 : tv_ok ta (0, 0, 1999, []) (n_v vs 5) := t5
  have k5 : 0 ≤ v_iv (n_v vs 5) ∧ v_iv (n_v vs 5) ≤ 1999 := tv_rng t5
  obtain ⟨t6, hk⟩ := List.forall_mem_cons.mp hk
  have t6 : tv_ok ta (0, 0, 4001, []) (n_v vs 6) := t6
  have k6 : 0 ≤ v_iv (n_v vs 6) ∧ v_iv (n_v vs 6) ≤ 4001 := tv_rng t6
  obtain ⟨t7, hk⟩ := List.forall_mem_cons.mp hk
  have t7 : tv_ok ta (0, 0, 255, []) (n_v vs 7) := t7
  have k7 : 0 ≤ v_iv (n_v vs 7) ∧ v_iv (n_v vs 7) ≤ 255 := tv_rng t7
  obtain ⟨t8, hk⟩ := List.forall_mem_cons.mp hk
  have t8 : tv_ok ta (0, 32, 32, []) (n_v vs 8) := t8
  have k8 : 32 ≤ v_iv (n_v vs 8) ∧ v_iv (n_v vs 8) ≤ 32 := tv_rng t8
  obtain ⟨t9, hk⟩ := List.forall_mem_cons.mp hk
  have t9 : tv_ok ta (0, 0, 255, []) (n_v vs 9) := t9
  have k9 : 0 ≤ v_iv (n_v vs 9) ∧ v_iv (n_v vs 9) ≤ 255 := tv_rng t9
  obtain ⟨t10, hk⟩ := List.forall_mem_cons.mp hk
  have t10 : tv_ok ta (0, 10, 10, []) (n_v vs 10) := t10
  have k10 : 10 ≤ v_iv (n_v vs 10) ∧ v_iv (n_v vs 10) ≤ 10 := tv_rng t10
  obtain ⟨t11, hk⟩ := List.forall_mem_cons.mp hk
  have t11 : tv_ok ta (0, 0, 4001, []) (n_v vs 11) := t11
  have k11 : 0 ≤ v_iv (n_v vs 11) ∧ v_iv (n_v vs 11) ≤ 4001 := tv_rng t11
  obtain ⟨t12, hk⟩ := List.forall_mem_cons.mp hk
  have t12 : tv_ok ta (0, 40, 40, []) (n_v vs 12) := t12
  have k12 : 40 ≤ v_iv (n_v vs 12) ∧ v_iv (n_v vs 12) ≤ 40 := tv_rng t12
  obtain ⟨t19, hk⟩ := List.forall_mem_cons.mp hk
  have t19 : tv_ok ta (0, 0, 4001, []) (n_v vs 19) := t19
  have k19 : 0 ≤ v_iv (n_v vs 19) ∧ v_iv (n_v vs 19) ≤ 4001 := tv_rng t19
  obtain ⟨t20, hk⟩ := List.forall_mem_cons.mp hk
  have t20 : tv_ok ta (0, 123, 123, []) (n_v vs 20) := t20
  have k20 : 123 ≤ v_iv (n_v vs 20) ∧ v_iv (n_v vs 20) ≤ 123 := tv_rng t20
  obtain ⟨t21, hk⟩ := List.forall_mem_cons.mp hk
  have t21 : tv_ok ta (0, 125, 125, []) (n_v vs 21) := t21
  have k21 : 125 ≤ v_iv (n_v vs 21) ∧ v_iv (n_v vs 21) ≤ 125 := tv_rng t21
  obtain ⟨t22, hk⟩ := List.forall_mem_cons.mp hk
  have t22 : tv_ok ta (0, 40, 40, []) (n_v vs 22) := t22
  have k22 : 40 ≤ v_iv (n_v vs 22) ∧ v_iv (n_v vs 22) ≤ 40 := tv_rng t22
  have hds : ∀ q ∈ ([(19, 6, 0, 0), (11, 6, 0, 0)] : List of_T), n_iv vs q.2.1 + q.2.2.1 ≤ n_iv vs q.1 ∧ n_iv vs q.1 ≤ n_iv vs q.2.1 + q.2.2.2 := hds
  obtain ⟨d0, hds⟩ := List.forall_mem_cons.mp hds
  have d0 : v_iv (n_v vs 6) + 0 ≤ v_iv (n_v vs 19) ∧ v_iv (n_v vs 19) ≤ v_iv (n_v vs 6) + 0 := d0
  obtain ⟨d1, hds⟩ := List.forall_mem_cons.mp hds
  have d1 : v_iv (n_v vs 6) + 0 ≤ v_iv (n_v vs 11) ∧ v_iv (n_v vs 11) ≤ v_iv (n_v vs 6) + 0 := d1
  have hf : fc_ok [(7, [12, 22], [0]), (7, [12, 21], [1]), (7, [12, 20], [1]), (20, [2, 5], [50, 2, 0, 157, 11, 2, 7, 0, 3, 2, 0, 157, 1, 1, 1, 3, 2, 0, 11, 1, 1]), (20, [19, 5], [30, -4001, -1, 0, 0, -2, 0, 0]), (24, [0, 2], []), (8, [12], [3]), (9, [5, 2], [11]), (20, [5, 2, 12], [50, 1, 1, 1010, 1001, 4, 11, 0, 6, 4, 2, 1, 0, 0, 1, 2, 1, 10, 1, 2, 1, 2, 9, 5, 3, 1, 1, 1, 0, 0, 256]), (20, [2, 5, 12], [50, 1, 0, 10, 4, 7, 0, 3, 2, 0, 10, 1, 1, 1, 2, 1, 2, 0, -1]), (20, [2], [50, 2, 0, 157, 11, 0, 3, 2, 0, 157, 2, 0, 11]), (20, [11, 2], [30, -4001, -1, 0, 0, -2, 1, 11]), (7, [9, 10], [1]), (20, [5, 2, 9], [50, 1, 1, 1010, 1001, 4, 11, 0, 6, 4, 2, 1, 0, 0, 1, 2, 1, 10, 1, 2, 1, 2, 9, 5, 3, 1, 1, 1, 0, 0, 256]), (20, [2, 5, 9], [50, 1, 0, 10, 4, 7, 0, 3, 2, 0, 10, 1, 1, 1, 2, 1, 2, 0, -1]), (7, [7, 8], [1]), (20, [5, 2, 7], [50, 1, 1, 1010, 1001, 4, 11, 0, 6, 4, 2, 1, 0, 0, 1, 2, 1, 10, 1, 2, 1, 2, 9, 5, 3, 1, 1, 1, 0, 0, 256]), (20, [2, 5, 7], [50, 1, 0, 10, 4, 7, 0, 3, 2, 0, 10, 1, 1, 1, 2, 1, 2, 0, -1]), (20, [2], [50, 2, 0, 157, 11, 0, 3, 2, 0, 157, 2, 0, 11]), (20, [6, 2], [30, -4001, -1, 0, 0, -2, 1, 11])] ta ws vs := hf
  obtain ⟨f0, hf⟩ := fc_un (by decide) hf
  have f0 : v_iv (n_v vs 12) = v_iv (n_v vs 22) := f0
  obtain ⟨f1, hf⟩ := fc_un (by decide) hf
  have f1 : v_iv (n_v vs 12) ≠ v_iv (n_v vs 21) := f1
  obtain ⟨f2, hf⟩ := fc_un (by decide) hf
  have f2 : v_iv (n_v vs 12) ≠ v_iv (n_v vs 20) := f2
  obtain ⟨f3, hf⟩ := fc_un (by decide) hf
  have f3 : (w_fi ws (n_v vs 2) 157 ≤ v_iv (n_v vs 5)) ∧ (w_fi ws (n_v vs 2) 11 = v_iv (n_v vs 5)) := f3
  obtain ⟨f4, hf⟩ := fc_un (by decide) hf
  have f4 : (-1) * v_iv (n_v vs 19) + ((-2) * v_iv (n_v vs 5) + 0) ≤ (-4001) := f4
  obtain ⟨f5, hf⟩ := fc_un (by decide) hf
  have f5 : n_v vs 0 = n_v vs 2 := f5
  obtain ⟨f6, hf⟩ := fc_un (by decide) hf
  have f6 : 0 ≤ v_iv (n_v vs 12) := f6
  obtain ⟨f7, hf⟩ := fc_un (by decide) hf
  have f7 : n_v vs 5 = w_fd ws (v_ad (n_v vs 2)) 11 := f7
  obtain ⟨f8, hf⟩ := fc_un (by decide) hf
  have f8 : ((v_iv (n_v vs 5) + 1) ≤ w_fi ws (n_v vs 2) 10) → (v_iv (n_v vs 12) = (w_ei ws (w_ar ws (n_v vs 2) 1) (v_iv (n_v vs 5)) % 256)) := f8
  obtain ⟨f9, hf⟩ := fc_un (by decide) hf
  have f9 : (w_fi ws (n_v vs 2) 10 ≤ v_iv (n_v vs 5)) → (v_iv (n_v vs 12) = (-1)) := f9
  obtain ⟨f10, hf⟩ := fc_un (by decide) hf
  have f10 : w_fi ws (n_v vs 2) 157 ≤ w_fi ws (n_v vs 2) 11 := f10
  obtain ⟨f11, hf⟩ := fc_un (by decide) hf
  have f11 : (-1) * v_iv (n_v vs 11) + ((-2) * w_fi ws (n_v vs 2) 11 + 0) ≤ (-4001) := f11
  obtain ⟨f12, hf⟩ := fc_un (by decide) hf
  have f12 : v_iv (n_v vs 9) ≠ v_iv (n_v vs 10) := f12
  obtain ⟨f13, hf⟩ := fc_un (by decide) hf
  have f13 : ((v_iv (n_v vs 5) + 1) ≤ w_fi ws (n_v vs 2) 10) → (v_iv (n_v vs 9) = (w_ei ws (w_ar ws (n_v vs 2) 1) (v_iv (n_v vs 5)) % 256)) := f13
  obtain ⟨f14, hf⟩ := fc_un (by decide) hf
  have f14 : (w_fi ws (n_v vs 2) 10 ≤ v_iv (n_v vs 5)) → (v_iv (n_v vs 9) = (-1)) := f14
  obtain ⟨f15, hf⟩ := fc_un (by decide) hf
  have f15 : v_iv (n_v vs 7) ≠ v_iv (n_v vs 8) := f15
  obtain ⟨f16, hf⟩ := fc_un (by decide) hf
  have f16 : ((v_iv (n_v vs 5) + 1) ≤ w_fi ws (n_v vs 2) 10) → (v_iv (n_v vs 7) = (w_ei ws (w_ar ws (n_v vs 2) 1) (v_iv (n_v vs 5)) % 256)) := f16
  obtain ⟨f17, hf⟩ := fc_un (by decide) hf
  have f17 : (w_fi ws (n_v vs 2) 10 ≤ v_iv (n_v vs 5)) → (v_iv (n_v vs 7) = (-1)) := f17
  obtain ⟨f18, hf⟩ := fc_un (by decide) hf
  have f18 : w_fi ws (n_v vs 2) 157 ≤ w_fi ws (n_v vs 2) 11 := f18
  obtain ⟨f19, hf⟩ := fc_un (by decide) hf
  have f19 : (-1) * v_iv (n_v vs 6) + ((-2) * w_fi ws (n_v vs 2) 11 + 0) ≤ (-4001) := f19
  have q2 : n_v vs 2 = n_v vs 0 := f5.symm
  rw [q2] at f3
  rw [q2] at f7
  rw [q2] at f8
  rw [q2] at f9
  rw [q2] at f10
  rw [q2] at f11
  rw [q2] at f13
  rw [q2] at f14
  rw [q2] at f16
  rw [q2] at f17
  rw [q2] at f18
  rw [q2] at f19
  have cr_0_1 : ta (w_ar ws (n_v vs 0) 1) = some 151 := tv_rg (th_fd hD hth r0 (g := GG_150) rfl (k := 1) (t := (2, 0, 0, [151])) rfl rfl)
  have g7 : v_iv (n_v vs 5) = w_fi ws (n_v vs 0) 11 := congrArg v_iv f7
  have hK_0_1 : ∀ j : Int, 0 ≤ j → j < 2000 → (-128) ≤ w_ei ws (w_ar ws (n_v vs 0) 1) j ∧ w_ei ws (w_ar ws (n_v vs 0) 1) j ≤ 127 := fun j h0 h1 => th_el hD hth cr_0_1 (kd := 1) (n := 2000) (m := 2000) (lo := (-128)) (hi := 127) (rs := []) (L := []) rfl (by decide) (j := j.toNat) (by omega)
  have kz_0_10 : 0 ≤ w_fi ws (n_v vs 0) 10 ∧ w_fi ws (n_v vs 0) 10 ≤ 2000 := tv_rng (th_fd hD hth r0 (g := GG_150) rfl (k := 10) (t := (0, 0, 2000, [])) rfl rfl)
  have kz_0_11 : 0 ≤ w_fi ws (n_v vs 0) 11 ∧ w_fi ws (n_v vs 0) 11 ≤ 2000 := tv_rng (th_fd hD hth r0 (g := GG_150) rfl (k := 11) (t := (0, 0, 2000, [])) rfl rfl)
  have kz_0_157 : 0 ≤ w_fi ws (n_v vs 0) 157 ∧ w_fi ws (n_v vs 0) 157 ≤ 2010 := tv_rng (th_fd hD hth r0 (g := GG_150) rfl (k := 157) (t := (0, 0, 2010, [])) rfl rfl)
  obtain ⟨x, ex, hx⟩ := iv_ex (ta := ta) (lo := 0) (hi := 4001) (z := 0 + (1 * v_iv (n_v vs 6) + 0)) (by omega) (by omega) (by decide) (by decide)
  have ex2 : v_iv (Value.int x) = 0 + (1 * v_iv (n_v vs 6) + 0) := ex
  have ex3 : 0 ≤ v_iv (Value.int x) ∧ v_iv (Value.int x) ≤ 4001 := tv_rng hx
  have e_0 : n_v (vs ++ [Value.int x]) 0 = n_v vs 0 := n_v_old (by rw [hl]; decide)
  have e_2 : n_v (vs ++ [Value.int x]) 2 = n_v vs 2 := n_v_old (by rw [hl]; decide)
  have e_5 : n_v (vs ++ [Value.int x]) 5 = n_v vs 5 := n_v_old (by rw [hl]; decide)
  have e_23 : n_v (vs ++ [Value.int x]) 23 = Value.int x := n_v_new hl
  have nf0 : fc_1 (20, [2, 5], [50, 2, 0, 157, 11, 2, 7, 0, 3, 2, 0, 157, 1, 1, 1, 3, 2, 0, 11, 1, 1]) ws (vs ++ [Value.int x]) := by
    refine ⟨fun n hn => ?_, ?_⟩
    · have hn : n ∈ [2, 5] := hn
      rw [List.length_append, hl]
      simp only [List.mem_cons, List.not_mem_nil, or_false] at hn
      show n < 23 + 1; omega
    · show (w_fi ws (n_v (vs ++ [Value.int x]) 2) 157 ≤ v_iv (n_v (vs ++ [Value.int x]) 5)) ∧ (w_fi ws (n_v (vs ++ [Value.int x]) 2) 11 = v_iv (n_v (vs ++ [Value.int x]) 5))
      rw [e_2]
      rw [e_5]
      rw [q2]
      first | omega | grind
  have nf1 : fc_1 (20, [23, 5], [30, -4001, -1, 0, 0, -2, 0, 0]) ws (vs ++ [Value.int x]) := by
    refine ⟨fun n hn => ?_, ?_⟩
    · have hn : n ∈ [23, 5] := hn
      rw [List.length_append, hl]
      simp only [List.mem_cons, List.not_mem_nil, or_false] at hn
      show n < 23 + 1; omega
    · show (-1) * v_iv (n_v (vs ++ [Value.int x]) 23) + ((-2) * v_iv (n_v (vs ++ [Value.int x]) 5) + 0) ≤ (-4001)
      rw [e_5]
      rw [e_23]
      omega
  have nf2 : fc_1 (24, [0, 2], []) ws (vs ++ [Value.int x]) := by
    refine ⟨fun n hn => ?_, ?_⟩
    · have hn : n ∈ [0, 2] := hn
      rw [List.length_append, hl]
      simp only [List.mem_cons, List.not_mem_nil, or_false] at hn
      show n < 23 + 1; omega
    · show n_v (vs ++ [Value.int x]) 0 = n_v (vs ++ [Value.int x]) 2
      first | rfl | simp only [e_0, e_2, q2]
  obtain ⟨x0, e0, _, _⟩ := tv_int t6 rfl
  have e1 : v_iv (n_v vs 6) = x0.toInt := by rw [e0]; rfl
  have ho : sy_ofs (vs ++ [Value.int x]) (23, 6, 0, 0) := by
    refine ⟨x, x0, by rw [List.getElem?_append_right (by rw [hl]; decide), hl]; rfl, ?_, ?_, ?_⟩
    · rw [List.getElem?_append_left (by rw [hl]; decide)]; exact n_v_some (by rw [hl]; decide) e0
    · show x0.toInt + 0 ≤ x.toInt; omega
    · show x.toInt ≤ x0.toInt + 0; omega
  exact ⟨fun q hq => (by cases hq), [Value.int x], ag_one hx, List.forall_mem_cons.mpr ⟨⟨by decide, nf0⟩, List.forall_mem_cons.mpr ⟨⟨by decide, nf1⟩, List.forall_mem_cons.mpr ⟨⟨by decide, nf2⟩, (fun _ h => (by cases h))⟩⟩⟩, List.forall_mem_cons.mpr ⟨ho, (fun _ h => (by cases h))⟩⟩
def o_Mo_styleTokens_123 : or_T := (339, 25, [(0, (2, 0, 0, [150])), (2, (2, 0, 0, [150])), (5, (0, 0, 1999, [])), (6, (0, 0, 4001, [])), (7, (0, 0, 255, [])), (8, (0, 32, 32, [])), (9, (0, 0, 255, [])), (10, (0, 10, 10, [])), (11, (0, 0, 4001, [])), (12, (0, 40, 40, [])), (19, (0, 0, 4001, [])), (20, (0, 123, 123, [])), (21, (0, 125, 125, [])), (22, (0, 40, 40, [])), (23, (0, 0, 4001, []))], [(20, [2, 5], [50, 2, 0, 157, 11, 2, 7, 0, 3, 2, 0, 157, 1, 1, 1, 3, 2, 0, 11, 1, 1]), (20, [23, 5], [30, -4001, -1, 0, 0, -2, 0, 0]), (24, [0, 2], []), (7, [12, 22], [0]), (7, [12, 21], [1]), (7, [12, 20], [1]), (20, [2, 5], [50, 2, 0, 157, 11, 2, 7, 0, 3, 2, 0, 157, 1, 1, 1, 3, 2, 0, 11, 1, 1]), (20, [19, 5], [30, -4001, -1, 0, 0, -2, 0, 0]), (8, [12], [3]), (9, [5, 2], [11]), (20, [5, 2, 12], [50, 1, 1, 1010, 1001, 4, 11, 0, 6, 4, 2, 1, 0, 0, 1, 2, 1, 10, 1, 2, 1, 2, 9, 5, 3, 1, 1, 1, 0, 0, 256]), (20, [2, 5, 12], [50, 1, 0, 10, 4, 7, 0, 3, 2, 0, 10, 1, 1, 1, 2, 1, 2, 0, -1]), (20, [2], [50, 2, 0, 157, 11, 0, 3, 2, 0, 157, 2, 0, 11]), (20, [11, 2], [30, -4001, -1, 0, 0, -2, 1, 11]), (7, [9, 10], [1]), (20, [5, 2, 9], [50, 1, 1, 1010, 1001, 4, 11, 0, 6, 4, 2, 1, 0, 0, 1, 2, 1, 10, 1, 2, 1, 2, 9, 5, 3, 1, 1, 1, 0, 0, 256]), (20, [2, 5, 9], [50, 1, 0, 10, 4, 7, 0, 3, 2, 0, 10, 1, 1, 1, 2, 1, 2, 0, -1]), (7, [7, 8], [1]), (20, [5, 2, 7], [50, 1, 1, 1010, 1001, 4, 11, 0, 6, 4, 2, 1, 0, 0, 1, 2, 1, 10, 1, 2, 1, 2, 9, 5, 3, 1, 1, 1, 0, 0, 256]), (20, [2, 5, 7], [50, 1, 0, 10, 4, 7, 0, 3, 2, 0, 10, 1, 1, 1, 2, 1, 2, 0, -1]), (20, [2], [50, 2, 0, 157, 11, 0, 3, 2, 0, 157, 2, 0, 11]), (20, [6, 2], [30, -4001, -1, 0, 0, -2, 1, 11])], [], [(0, 0, 4001, [])], [(20, [2, 5], [50, 2, 0, 157, 11, 2, 7, 0, 3, 2, 0, 157, 1, 1, 1, 3, 2, 0, 11, 1, 1]), (20, [25, 5], [30, -4001, -1, 0, 0, -2, 0, 0]), (24, [0, 2], [])], [(25, 6, 0, 0)], [(23, 6, 0, 0), (19, 6, 0, 0), (11, 6, 0, 0)])
theorem oo_Mo_styleTokens_123 {kA : Nat → ClassId} : or_ok kA GG o_Mo_styleTokens_123 := by
  intro A ta ws vs hD hth hl hk hds hf
  have hl : vs.length = 25 := hl
  have hk : ∀ q ∈ ([(0, (2, 0, 0, [150])), (2, (2, 0, 0, [150])), (5, (0, 0, 1999, [])), (6, (0, 0, 4001, [])), (7, (0, 0, 255, [])), (8, (0, 32, 32, [])), (9, (0, 0, 255, [])), (10, (0, 10, 10, [])), (11, (0, 0, 4001, [])), (12, (0, 40, 40, [])), (19, (0, 0, 4001, [])), (20, (0, 123, 123, [])), (21, (0, 125, 125, [])), (22, (0, 40, 40, [])), (23, (0, 0, 4001, []))] : List (Nat × tv_T)), tv_ok ta q.2 (n_v vs q.1) := hk
  obtain ⟨t0, hk⟩ := List.forall_mem_cons.mp hk
  have t0 : tv_ok ta (2, 0, 0, [150]) (n_v vs 0) := t0
  have r0 : ta (v_ad (n_v vs 0)) = some 150 := tv_rg t0
  obtain ⟨t2, hk⟩ := List.forall_mem_cons.mp hk
  have t2 : tv_ok ta (2, 0, 0, [150]) (n_v vs 2) := t2
  have r2 : ta (v_ad (n_v vs 2)) = some 150 := tv_rg t2
  obtain ⟨t5, hk⟩ := List.forall_mem_cons.mp hk
  have t5 : tv_ok ta (0, 0, 1999, []) (n_v vs 5) := t5
  have k5 : 0 ≤ v_iv (n_v vs 5) ∧ v_iv (n_v vs 5) ≤ 1999 := tv_rng t5
  obtain ⟨t6, hk⟩ := List.forall_mem_cons.mp hk
  have t6 : tv_ok ta (0, 0, 4001, []) (n_v vs 6) := t6
  have k6 : 0 ≤ v_iv (n_v vs 6) ∧ v_iv (n_v vs 6) ≤ 4001 := tv_rng t6
  obtain ⟨t7, hk⟩ := List.forall_mem_cons.mp hk
  have t7 : tv_ok ta (0, 0, 255, []) (n_v vs 7) := t7
  have k7 : 0 ≤ v_iv (n_v vs 7) ∧ v_iv (n_v vs 7) ≤ 255 := tv_rng t7
  obtain ⟨t8, hk⟩ := List.forall_mem_cons.mp hk
  have t8 : tv_ok ta (0, 32, 32, []) (n_v vs 8) := t8
  have k8 : 32 ≤ v_iv (n_v vs 8) ∧ v_iv (n_v vs 8) ≤ 32 := tv_rng t8
  obtain ⟨t9, hk⟩ := List.forall_mem_cons.mp hk
  have t9 : tv_ok ta (0, 0, 255, []) (n_v vs 9) := t9
  have k9 : 0 ≤ v_iv (n_v vs 9) ∧ v_iv (n_v vs 9) ≤ 255 := tv_rng t9
  obtain ⟨t10, hk⟩ := List.forall_mem_cons.mp hk
  have t10 : tv_ok ta (0, 10, 10, []) (n_v vs 10) := t10
  have k10 : 10 ≤ v_iv (n_v vs 10) ∧ v_iv (n_v vs 10) ≤ 10 := tv_rng t10
  obtain ⟨t11, hk⟩ := List.forall_mem_cons.mp hk
  have t11 : tv_ok ta (0, 0, 4001, []) (n_v vs 11) := t11
  have k11 : 0 ≤ v_iv (n_v vs 11) ∧ v_iv (n_v vs 11) ≤ 4001 := tv_rng t11
  obtain ⟨t12, hk⟩ := List.forall_mem_cons.mp hk
  have t12 : tv_ok ta (0, 40, 40, []) (n_v vs 12) := t12
  have k12 : 40 ≤ v_iv (n_v vs 12) ∧ v_iv (n_v vs 12) ≤ 40 := tv_rng t12
  obtain ⟨t19, hk⟩ := List.forall_mem_cons.mp hk
  have t19 : tv_ok ta (0, 0, 4001, []) (n_v vs 19) := t19
  have k19 : 0 ≤ v_iv (n_v vs 19) ∧ v_iv (n_v vs 19) ≤ 4001 := tv_rng t19
  obtain ⟨t20, hk⟩ := List.forall_mem_cons.mp hk
  have t20 : tv_ok ta (0, 123, 123, []) (n_v vs 20) := t20
  have k20 : 123 ≤ v_iv (n_v vs 20) ∧ v_iv (n_v vs 20) ≤ 123 := tv_rng t20
  obtain ⟨t21, hk⟩ := List.forall_mem_cons.mp hk
  have t21 : tv_ok ta (0, 125, 125, []) (n_v vs 21) := t21
  have k21 : 125 ≤ v_iv (n_v vs 21) ∧ v_iv (n_v vs 21) ≤ 125 := tv_rng t21
  obtain ⟨t22, hk⟩ := List.forall_mem_cons.mp hk
  have t22 : tv_ok ta (0, 40, 40, []) (n_v vs 22) := t22
  have k22 : 40 ≤ v_iv (n_v vs 22) ∧ v_iv (n_v vs 22) ≤ 40 := tv_rng t22
  obtain ⟨t23, hk⟩ := List.forall_mem_cons.mp hk
  have t23 : tv_ok ta (0, 0, 4001, []) (n_v vs 23) := t23
  have k23 : 0 ≤ v_iv (n_v vs 23) ∧ v_iv (n_v vs 23) ≤ 4001 := tv_rng t23
  have hds : ∀ q ∈ ([(23, 6, 0, 0), (19, 6, 0, 0), (11, 6, 0, 0)] : List of_T), n_iv vs q.2.1 + q.2.2.1 ≤ n_iv vs q.1 ∧ n_iv vs q.1 ≤ n_iv vs q.2.1 + q.2.2.2 := hds
  obtain ⟨d0, hds⟩ := List.forall_mem_cons.mp hds
  have d0 : v_iv (n_v vs 6) + 0 ≤ v_iv (n_v vs 23) ∧ v_iv (n_v vs 23) ≤ v_iv (n_v vs 6) + 0 := d0
  obtain ⟨d1, hds⟩ := List.forall_mem_cons.mp hds
  have d1 : v_iv (n_v vs 6) + 0 ≤ v_iv (n_v vs 19) ∧ v_iv (n_v vs 19) ≤ v_iv (n_v vs 6) + 0 := d1
  obtain ⟨d2, hds⟩ := List.forall_mem_cons.mp hds
  have d2 : v_iv (n_v vs 6) + 0 ≤ v_iv (n_v vs 11) ∧ v_iv (n_v vs 11) ≤ v_iv (n_v vs 6) + 0 := d2
  have hf : fc_ok [(20, [2, 5], [50, 2, 0, 157, 11, 2, 7, 0, 3, 2, 0, 157, 1, 1, 1, 3, 2, 0, 11, 1, 1]), (20, [23, 5], [30, -4001, -1, 0, 0, -2, 0, 0]), (24, [0, 2], []), (7, [12, 22], [0]), (7, [12, 21], [1]), (7, [12, 20], [1]), (20, [2, 5], [50, 2, 0, 157, 11, 2, 7, 0, 3, 2, 0, 157, 1, 1, 1, 3, 2, 0, 11, 1, 1]), (20, [19, 5], [30, -4001, -1, 0, 0, -2, 0, 0]), (8, [12], [3]), (9, [5, 2], [11]), (20, [5, 2, 12], [50, 1, 1, 1010, 1001, 4, 11, 0, 6, 4, 2, 1, 0, 0, 1, 2, 1, 10, 1, 2, 1, 2, 9, 5, 3, 1, 1, 1, 0, 0, 256]), (20, [2, 5, 12], [50, 1, 0, 10, 4, 7, 0, 3, 2, 0, 10, 1, 1, 1, 2, 1, 2, 0, -1]), (20, [2], [50, 2, 0, 157, 11, 0, 3, 2, 0, 157, 2, 0, 11]), (20, [11, 2], [30, -4001, -1, 0, 0, -2, 1, 11]), (7, [9, 10], [1]), (20, [5, 2, 9], [50, 1, 1, 1010, 1001, 4, 11, 0, 6, 4, 2, 1, 0, 0, 1, 2, 1, 10, 1, 2, 1, 2, 9, 5, 3, 1, 1, 1, 0, 0, 256]), (20, [2, 5, 9], [50, 1, 0, 10, 4, 7, 0, 3, 2, 0, 10, 1, 1, 1, 2, 1, 2, 0, -1]), (7, [7, 8], [1]), (20, [5, 2, 7], [50, 1, 1, 1010, 1001, 4, 11, 0, 6, 4, 2, 1, 0, 0, 1, 2, 1, 10, 1, 2, 1, 2, 9, 5, 3, 1, 1, 1, 0, 0, 256]), (20, [2, 5, 7], [50, 1, 0, 10, 4, 7, 0, 3, 2, 0, 10, 1, 1, 1, 2, 1, 2, 0, -1]), (20, [2], [50, 2, 0, 157, 11, 0, 3, 2, 0, 157, 2, 0, 11]), (20, [6, 2], [30, -4001, -1, 0, 0, -2, 1, 11])] ta ws vs := hf
  obtain ⟨f0, hf⟩ := fc_un (by decide) hf
  have f0 : (w_fi ws (n_v vs 2) 157 ≤ v_iv (n_v vs 5)) ∧ (w_fi ws (n_v vs 2) 11 = v_iv (n_v vs 5)) := f0
  obtain ⟨f1, hf⟩ := fc_un (by decide) hf
  have f1 : (-1) * v_iv (n_v vs 23) + ((-2) * v_iv (n_v vs 5) + 0) ≤ (-4001) := f1
  obtain ⟨f2, hf⟩ := fc_un (by decide) hf
  have f2 : n_v vs 0 = n_v vs 2 := f2
  obtain ⟨f3, hf⟩ := fc_un (by decide) hf
  have f3 : v_iv (n_v vs 12) = v_iv (n_v vs 22) := f3
  obtain ⟨f4, hf⟩ := fc_un (by decide) hf
  have f4 : v_iv (n_v vs 12) ≠ v_iv (n_v vs 21) := f4
  obtain ⟨f5, hf⟩ := fc_un (by decide) hf
  have f5 : v_iv (n_v vs 12) ≠ v_iv (n_v vs 20) := f5
  obtain ⟨f6, hf⟩ := fc_un (by decide) hf
  have f6 : (w_fi ws (n_v vs 2) 157 ≤ v_iv (n_v vs 5)) ∧ (w_fi ws (n_v vs 2) 11 = v_iv (n_v vs 5)) := f6
  obtain ⟨f7, hf⟩ := fc_un (by decide) hf
  have f7 : (-1) * v_iv (n_v vs 19) + ((-2) * v_iv (n_v vs 5) + 0) ≤ (-4001) := f7
  obtain ⟨f8, hf⟩ := fc_un (by decide) hf
  have f8 : 0 ≤ v_iv (n_v vs 12) := f8
  obtain ⟨f9, hf⟩ := fc_un (by decide) hf
  have f9 : n_v vs 5 = w_fd ws (v_ad (n_v vs 2)) 11 := f9
  obtain ⟨f10, hf⟩ := fc_un (by decide) hf
  have f10 : ((v_iv (n_v vs 5) + 1) ≤ w_fi ws (n_v vs 2) 10) → (v_iv (n_v vs 12) = (w_ei ws (w_ar ws (n_v vs 2) 1) (v_iv (n_v vs 5)) % 256)) := f10
  obtain ⟨f11, hf⟩ := fc_un (by decide) hf
  have f11 : (w_fi ws (n_v vs 2) 10 ≤ v_iv (n_v vs 5)) → (v_iv (n_v vs 12) = (-1)) := f11
  obtain ⟨f12, hf⟩ := fc_un (by decide) hf
  have f12 : w_fi ws (n_v vs 2) 157 ≤ w_fi ws (n_v vs 2) 11 := f12
  obtain ⟨f13, hf⟩ := fc_un (by decide) hf
  have f13 : (-1) * v_iv (n_v vs 11) + ((-2) * w_fi ws (n_v vs 2) 11 + 0) ≤ (-4001) := f13
  obtain ⟨f14, hf⟩ := fc_un (by decide) hf
  have f14 : v_iv (n_v vs 9) ≠ v_iv (n_v vs 10) := f14
  obtain ⟨f15, hf⟩ := fc_un (by decide) hf
  have f15 : ((v_iv (n_v vs 5) + 1) ≤ w_fi ws (n_v vs 2) 10) → (v_iv (n_v vs 9) = (w_ei ws (w_ar ws (n_v vs 2) 1) (v_iv (n_v vs 5)) % 256)) := f15
  obtain ⟨f16, hf⟩ := fc_un (by decide) hf
  have f16 : (w_fi ws (n_v vs 2) 10 ≤ v_iv (n_v vs 5)) → (v_iv (n_v vs 9) = (-1)) := f16
  obtain ⟨f17, hf⟩ := fc_un (by decide) hf
  have f17 : v_iv (n_v vs 7) ≠ v_iv (n_v vs 8) := f17
  obtain ⟨f18, hf⟩ := fc_un (by decide) hf
  have f18 : ((v_iv (n_v vs 5) + 1) ≤ w_fi ws (n_v vs 2) 10) → (v_iv (n_v vs 7) = (w_ei ws (w_ar ws (n_v vs 2) 1) (v_iv (n_v vs 5)) % 256)) := f18
  obtain ⟨f19, hf⟩ := fc_un (by decide) hf
  have f19 : (w_fi ws (n_v vs 2) 10 ≤ v_iv (n_v vs 5)) → (v_iv (n_v vs 7) = (-1)) := f19
  obtain ⟨f20, hf⟩ := fc_un (by decide) hf
  have f20 : w_fi ws (n_v vs 2) 157 ≤ w_fi ws (n_v vs 2) 11 := f20
  obtain ⟨f21, hf⟩ := fc_un (by decide) hf
  have f21 : (-1) * v_iv (n_v vs 6) + ((-2) * w_fi ws (n_v vs 2) 11 + 0) ≤ (-4001) := f21
  have q2 : n_v vs 2 = n_v vs 0 := f2.symm
  rw [q2] at f0
  rw [q2] at f6
  rw [q2] at f9
  rw [q2] at f10
  rw [q2] at f11
  rw [q2] at f12
  rw [q2] at f13
  rw [q2] at f15
  rw [q2] at f16
  rw [q2] at f18
  rw [q2] at f19
  rw [q2] at f20
  rw [q2] at f21
  have cr_0_1 : ta (w_ar ws (n_v vs 0) 1) = some 151 := tv_rg (th_fd hD hth r0 (g := GG_150) rfl (k := 1) (t := (2, 0, 0, [151])) rfl rfl)
  have g9 : v_iv (n_v vs 5) = w_fi ws (n_v vs 0) 11 := congrArg v_iv f9
  have hK_0_1 : ∀ j : Int, 0 ≤ j → j < 2000 → (-128) ≤ w_ei ws (w_ar ws (n_v vs 0) 1) j ∧ w_ei ws (w_ar ws (n_v vs 0) 1) j ≤ 127 := fun j h0 h1 => th_el hD hth cr_0_1 (kd := 1) (n := 2000) (m := 2000) (lo := (-128)) (hi := 127) (rs := []) (L := []) rfl (by decide) (j := j.toNat) (by omega)
  have kz_0_10 : 0 ≤ w_fi ws (n_v vs 0) 10 ∧ w_fi ws (n_v vs 0) 10 ≤ 2000 := tv_rng (th_fd hD hth r0 (g := GG_150) rfl (k := 10) (t := (0, 0, 2000, [])) rfl rfl)
  have kz_0_11 : 0 ≤ w_fi ws (n_v vs 0) 11 ∧ w_fi ws (n_v vs 0) 11 ≤ 2000 := tv_rng (th_fd hD hth r0 (g := GG_150) rfl (k := 11) (t := (0, 0, 2000, [])) rfl rfl)
  have kz_0_157 : 0 ≤ w_fi ws (n_v vs 0) 157 ∧ w_fi ws (n_v vs 0) 157 ≤ 2010 := tv_rng (th_fd hD hth r0 (g := GG_150) rfl (k := 157) (t := (0, 0, 2010, [])) rfl rfl)
  obtain ⟨x, ex, hx⟩ := iv_ex (ta := ta) (lo := 0) (hi := 4001) (z := 0 + (1 * v_iv (n_v vs 6) + 0)) (by omega) (by omega) (by decide) (by decide)
  have ex2 : v_iv (Value.int x) = 0 + (1 * v_iv (n_v vs 6) + 0) := ex
  have ex3 : 0 ≤ v_iv (Value.int x) ∧ v_iv (Value.int x) ≤ 4001 := tv_rng hx
  have e_0 : n_v (vs ++ [Value.int x]) 0 = n_v vs 0 := n_v_old (by rw [hl]; decide)
  have e_2 : n_v (vs ++ [Value.int x]) 2 = n_v vs 2 := n_v_old (by rw [hl]; decide)
  have e_5 : n_v (vs ++ [Value.int x]) 5 = n_v vs 5 := n_v_old (by rw [hl]; decide)
  have e_25 : n_v (vs ++ [Value.int x]) 25 = Value.int x := n_v_new hl
  have nf0 : fc_1 (20, [2, 5], [50, 2, 0, 157, 11, 2, 7, 0, 3, 2, 0, 157, 1, 1, 1, 3, 2, 0, 11, 1, 1]) ws (vs ++ [Value.int x]) := by
    refine ⟨fun n hn => ?_, ?_⟩
    · have hn : n ∈ [2, 5] := hn
      rw [List.length_append, hl]
      simp only [List.mem_cons, List.not_mem_nil, or_false] at hn
      show n < 25 + 1; omega
    · show (w_fi ws (n_v (vs ++ [Value.int x]) 2) 157 ≤ v_iv (n_v (vs ++ [Value.int x]) 5)) ∧ (w_fi ws (n_v (vs ++ [Value.int x]) 2) 11 = v_iv (n_v (vs ++ [Value.int x]) 5))
      rw [e_2]
      rw [e_5]
      rw [q2]
      first | omega | grind
  have nf1 : fc_1 (20, [25, 5], [30, -4001, -1, 0, 0, -2, 0, 0]) ws (vs ++ [Value.int x]) := by
    refine ⟨fun n hn => ?_, ?_⟩
    · have hn : n ∈ [25, 5] := hn
      rw [List.length_append, hl]
      simp only [List.mem_cons, List.not_mem_nil, or_false] at hn
      show n < 25 + 1; omega
    · show (-1) * v_iv (n_v (vs ++ [Value.int x]) 25) + ((-2) * v_iv (n_v (vs ++ [Value.int x]) 5) + 0) ≤ (-4001)
      rw [e_5]
      rw [e_25]
      omega
  have nf2 : fc_1 (24, [0, 2], []) ws (vs ++ [Value.int x]) := by
    refine ⟨fun n hn => ?_, ?_⟩
    · have hn : n ∈ [0, 2] := hn
      rw [List.length_append, hl]
      simp only [List.mem_cons, List.not_mem_nil, or_false] at hn
      show n < 25 + 1; omega
    · show n_v (vs ++ [Value.int x]) 0 = n_v (vs ++ [Value.int x]) 2
      first | rfl | simp only [e_0, e_2, q2]
  obtain ⟨x0, e0, _, _⟩ := tv_int t6 rfl
  have e1 : v_iv (n_v vs 6) = x0.toInt := by rw [e0]; rfl
  have ho : sy_ofs (vs ++ [Value.int x]) (25, 6, 0, 0) := by
    refine ⟨x, x0, by rw [List.getElem?_append_right (by rw [hl]; decide), hl]; rfl, ?_, ?_, ?_⟩
    · rw [List.getElem?_append_left (by rw [hl]; decide)]; exact n_v_some (by rw [hl]; decide) e0
    · show x0.toInt + 0 ≤ x.toInt; omega
    · show x.toInt ≤ x0.toInt + 0; omega
  exact ⟨fun q hq => (by cases hq), [Value.int x], ag_one hx, List.forall_mem_cons.mpr ⟨⟨by decide, nf0⟩, List.forall_mem_cons.mpr ⟨⟨by decide, nf1⟩, List.forall_mem_cons.mpr ⟨⟨by decide, nf2⟩, (fun _ h => (by cases h))⟩⟩⟩, List.forall_mem_cons.mpr ⟨ho, (fun _ h => (by cases h))⟩⟩
def o_Mo_styleTokens_124 : or_T := (334, 24, [(0, (2, 0, 0, [150])), (2, (2, 0, 0, [150])), (5, (0, 0, 1999, [])), (6, (0, 0, 4001, [])), (7, (0, 0, 255, [])), (8, (0, 32, 32, [])), (9, (0, 0, 255, [])), (10, (0, 10, 10, [])), (11, (0, 0, 4001, [])), (12, (0, 41, 41, [])), (19, (0, 0, 4001, [])), (20, (0, 123, 123, [])), (21, (0, 125, 125, [])), (22, (0, 40, 40, [])), (23, (0, 41, 41, []))], [(7, [12, 23], [0]), (7, [12, 22], [1]), (7, [12, 21], [1]), (7, [12, 20], [1]), (20, [2, 5], [50, 2, 0, 157, 11, 2, 7, 0, 3, 2, 0, 157, 1, 1, 1, 3, 2, 0, 11, 1, 1]), (20, [19, 5], [30, -4001, -1, 0, 0, -2, 0, 0]), (24, [0, 2], []), (8, [12], [3]), (9, [5, 2], [11]), (20, [5, 2, 12], [50, 1, 1, 1010, 1001, 4, 11, 0, 6, 4, 2, 1, 0, 0, 1, 2, 1, 10, 1, 2, 1, 2, 9, 5, 3, 1, 1, 1, 0, 0, 256]), (20, [2, 5, 12], [50, 1, 0, 10, 4, 7, 0, 3, 2, 0, 10, 1, 1, 1, 2, 1, 2, 0, -1]), (20, [2], [50, 2, 0, 157, 11, 0, 3, 2, 0, 157, 2, 0, 11]), (20, [11, 2], [30, -4001, -1, 0, 0, -2, 1, 11]), (7, [9, 10], [1]), (20, [5, 2, 9], [50, 1, 1, 1010, 1001, 4, 11, 0, 6, 4, 2, 1, 0, 0, 1, 2, 1, 10, 1, 2, 1, 2, 9, 5, 3, 1, 1, 1, 0, 0, 256]), (20, [2, 5, 9], [50, 1, 0, 10, 4, 7, 0, 3, 2, 0, 10, 1, 1, 1, 2, 1, 2, 0, -1]), (7, [7, 8], [1]), (20, [5, 2, 7], [50, 1, 1, 1010, 1001, 4, 11, 0, 6, 4, 2, 1, 0, 0, 1, 2, 1, 10, 1, 2, 1, 2, 9, 5, 3, 1, 1, 1, 0, 0, 256]), (20, [2, 5, 7], [50, 1, 0, 10, 4, 7, 0, 3, 2, 0, 10, 1, 1, 1, 2, 1, 2, 0, -1]), (20, [2], [50, 2, 0, 157, 11, 0, 3, 2, 0, 157, 2, 0, 11]), (20, [6, 2], [30, -4001, -1, 0, 0, -2, 1, 11])], [], [(0, 0, 4001, [])], [(20, [2, 5], [50, 2, 0, 157, 11, 2, 7, 0, 3, 2, 0, 157, 1, 1, 1, 3, 2, 0, 11, 1, 1]), (20, [24, 5], [30, -4001, -1, 0, 0, -2, 0, 0]), (24, [0, 2], [])], [(24, 6, 0, 0)], [(19, 6, 0, 0), (11, 6, 0, 0)])
theorem oo_Mo_styleTokens_124 {kA : Nat → ClassId} : or_ok kA GG o_Mo_styleTokens_124 := by
  intro A ta ws vs hD hth hl hk hds hf
  have hl : vs.length = 24 := hl
  have hk : ∀ q ∈ ([(0, (2, 0, 0, [150])), (2, (2, 0, 0, [150])), (5, (0, 0, 1999, [])), (6, (0, 0, 4001, [])), (7, (0, 0, 255, [])), (8, (0, 32, 32, [])), (9, (0, 0, 255, [])), (10, (0, 10, 10, [])), (11, (0, 0, 4001, [])), (12, (0, 41, 41, [])), (19, (0, 0, 4001, [])), (20, (0, 123, 123, [])), (21, (0, 125, 125, [])), (22, (0, 40, 40, [])), (23, (0, 41, 41, []))] : List (Nat × tv_T)), tv_ok ta q.2 (n_v vs q.1) := hk
  obtain ⟨t0, hk⟩ := List.forall_mem_cons.mp hk
  have t0 : tv_ok ta (2, 0, 0, [150]) (n_v vs 0) := t0
  have r0 : ta (v_ad (n_v vs 0)) = some 150 := tv_rg t0
  obtain ⟨t2, hk⟩ := List.forall_mem_cons.mp hk
  have t2 : tv_ok ta (2, 0, 0, [150]) (n_v vs 2) := t2
  have r2 : ta (v_ad (n_v vs 2)) = some 150 := tv_rg t2
  obtain ⟨t5, hk⟩ := List.forall_mem_cons.mp hk
  have t5 : tv_ok ta (0, 0, 1999, []) (n_v vs 5) := t5
  have k5 : 0 ≤ v_iv (n_v vs 5) ∧ v_iv (n_v vs 5) ≤ 1999 := tv_rng t5
  obtain ⟨t6, hk⟩ := List.forall_mem_cons.mp hk
  have t6 : tv_ok ta (0, 0, 4001, []) (n_v vs 6) := t6
  have k6 : 0 ≤ v_iv (n_v vs 6) ∧ v_iv (n_v vs 6) ≤ 4001 := tv_rng t6
  obtain ⟨t7, hk⟩ := List.forall_mem_cons.mp hk
  have t7 : tv_ok ta (0, 0, 255, []) (n_v vs 7) := t7
  have k7 : 0 ≤ v_iv (n_v vs 7) ∧ v_iv (n_v vs 7) ≤ 255 := tv_rng t7
  obtain ⟨t8, hk⟩ := List.forall_mem_cons.mp hk
  have t8 : tv_ok ta (0, 32, 32, []) (n_v vs 8) := t8
  have k8 : 32 ≤ v_iv (n_v vs 8) ∧ v_iv (n_v vs 8) ≤ 32 := tv_rng t8
  obtain ⟨t9, hk⟩ := List.forall_mem_cons.mp hk
  have t9 : tv_ok ta (0, 0, 255, []) (n_v vs 9) := t9
  have k9 : 0 ≤ v_iv (n_v vs 9) ∧ v_iv (n_v vs 9) ≤ 255 := tv_rng t9
  obtain ⟨t10, hk⟩ := List.forall_mem_cons.mp hk
  have t10 : tv_ok ta (0, 10, 10, []) (n_v vs 10) := t10
  have k10 : 10 ≤ v_iv (n_v vs 10) ∧ v_iv (n_v vs 10) ≤ 10 := tv_rng t10
  obtain ⟨t11, hk⟩ := List.forall_mem_cons.mp hk
  have t11 : tv_ok ta (0, 0, 4001, []) (n_v vs 11) := t11
  have k11 : 0 ≤ v_iv (n_v vs 11) ∧ v_iv (n_v vs 11) ≤ 4001 := tv_rng t11
  obtain ⟨t12, hk⟩ := List.forall_mem_cons.mp hk
  have t12 : tv_ok ta (0, 41, 41, []) (n_v vs 12) := t12
  have k12 : 41 ≤ v_iv (n_v vs 12) ∧ v_iv (n_v vs 12) ≤ 41 := tv_rng t12
  obtain ⟨t19, hk⟩ := List.forall_mem_cons.mp hk
  have t19 : tv_ok ta (0, 0, 4001, []) (n_v vs 19) := t19
  have k19 : 0 ≤ v_iv (n_v vs 19) ∧ v_iv (n_v vs 19) ≤ 4001 := tv_rng t19
  obtain ⟨t20, hk⟩ := List.forall_mem_cons.mp hk
  have t20 : tv_ok ta (0, 123, 123, []) (n_v vs 20) := t20
  have k20 : 123 ≤ v_iv (n_v vs 20) ∧ v_iv (n_v vs 20) ≤ 123 := tv_rng t20
  obtain ⟨t21, hk⟩ := List.forall_mem_cons.mp hk
  have t21 : tv_ok ta (0, 125, 125, []) (n_v vs 21) := t21
  have k21 : 125 ≤ v_iv (n_v vs 21) ∧ v_iv (n_v vs 21) ≤ 125 := tv_rng t21
  obtain ⟨t22, hk⟩ := List.forall_mem_cons.mp hk
  have t22 : tv_ok ta (0, 40, 40, []) (n_v vs 22) := t22
  have k22 : 40 ≤ v_iv (n_v vs 22) ∧ v_iv (n_v vs 22) ≤ 40 := tv_rng t22
  obtain ⟨t23, hk⟩ := List.forall_mem_cons.mp hk
  have t23 : tv_ok ta (0, 41, 41, []) (n_v vs 23) := t23
  have k23 : 41 ≤ v_iv (n_v vs 23) ∧ v_iv (n_v vs 23) ≤ 41 := tv_rng t23
  have hds : ∀ q ∈ ([(19, 6, 0, 0), (11, 6, 0, 0)] : List of_T), n_iv vs q.2.1 + q.2.2.1 ≤ n_iv vs q.1 ∧ n_iv vs q.1 ≤ n_iv vs q.2.1 + q.2.2.2 := hds
  obtain ⟨d0, hds⟩ := List.forall_mem_cons.mp hds
  have d0 : v_iv (n_v vs 6) + 0 ≤ v_iv (n_v vs 19) ∧ v_iv (n_v vs 19) ≤ v_iv (n_v vs 6) + 0 := d0
  obtain ⟨d1, hds⟩ := List.forall_mem_cons.mp hds
  have d1 : v_iv (n_v vs 6) + 0 ≤ v_iv (n_v vs 11) ∧ v_iv (n_v vs 11) ≤ v_iv (n_v vs 6) + 0 := d1
  have hf : fc_ok [(7, [12, 23], [0]), (7, [12, 22], [1]), (7, [12, 21], [1]), (7, [12, 20], [1]), (20, [2, 5], [50, 2, 0, 157, 11, 2, 7, 0, 3, 2, 0, 157, 1, 1, 1, 3, 2, 0, 11, 1, 1]), (20, [19, 5], [30, -4001, -1, 0, 0, -2, 0, 0]), (24, [0, 2], []), (8, [12], [3]), (9, [5, 2], [11]), (20, [5, 2, 12], [50, 1, 1, 1010, 1001, 4, 11, 0, 6, 4, 2, 1, 0, 0, 1, 2, 1, 10, 1, 2, 1, 2, 9, 5, 3, 1, 1, 1, 0, 0, 256]), (20, [2, 5, 12], [50, 1, 0, 10, 4, 7, 0, 3, 2, 0, 10, 1, 1, 1, 2, 1, 2, 0, -1]), (20, [2], [50, 2, 0, 157, 11, 0, 3, 2, 0, 157, 2, 0, 11]), (20, [11, 2], [30, -4001, -1, 0, 0, -2, 1, 11]), (7, [9, 10], [1]), (20, [5, 2, 9], [50, 1, 1, 1010, 1001, 4, 11, 0, 6, 4, 2, 1, 0, 0, 1, 2, 1, 10, 1, 2, 1, 2, 9, 5, 3, 1, 1, 1, 0, 0, 256]), (20, [2, 5, 9], [50, 1, 0, 10, 4, 7, 0, 3, 2, 0, 10, 1, 1, 1, 2, 1, 2, 0, -1]), (7, [7, 8], [1]), (20, [5, 2, 7], [50, 1, 1, 1010, 1001, 4, 11, 0, 6, 4, 2, 1, 0, 0, 1, 2, 1, 10, 1, 2, 1, 2, 9, 5, 3, 1, 1, 1, 0, 0, 256]), (20, [2, 5, 7], [50, 1, 0, 10, 4, 7, 0, 3, 2, 0, 10, 1, 1, 1, 2, 1, 2, 0, -1]), (20, [2], [50, 2, 0, 157, 11, 0, 3, 2, 0, 157, 2, 0, 11]), (20, [6, 2], [30, -4001, -1, 0, 0, -2, 1, 11])] ta ws vs := hf
  obtain ⟨f0, hf⟩ := fc_un (by decide) hf
  have f0 : v_iv (n_v vs 12) = v_iv (n_v vs 23) := f0
  obtain ⟨f1, hf⟩ := fc_un (by decide) hf
  have f1 : v_iv (n_v vs 12) ≠ v_iv (n_v vs 22) := f1
  obtain ⟨f2, hf⟩ := fc_un (by decide) hf
  have f2 : v_iv (n_v vs 12) ≠ v_iv (n_v vs 21) := f2
  obtain ⟨f3, hf⟩ := fc_un (by decide) hf
  have f3 : v_iv (n_v vs 12) ≠ v_iv (n_v vs 20) := f3
  obtain ⟨f4, hf⟩ := fc_un (by decide) hf
  have f4 : (w_fi ws (n_v vs 2) 157 ≤ v_iv (n_v vs 5)) ∧ (w_fi ws (n_v vs 2) 11 = v_iv (n_v vs 5)) := f4
  obtain ⟨f5, hf⟩ := fc_un (by decide) hf
  have f5 : (-1) * v_iv (n_v vs 19) + ((-2) * v_iv (n_v vs 5) + 0) ≤ (-4001) := f5
  obtain ⟨f6, hf⟩ := fc_un (by decide) hf
  have f6 : n_v vs 0 = n_v vs 2 := f6
  obtain ⟨f7, hf⟩ := fc_un (by decide) hf
  have f7 : 0 ≤ v_iv (n_v vs 12) := f7
  obtain ⟨f8, hf⟩ := fc_un (by decide) hf
  have f8 : n_v vs 5 = w_fd ws (v_ad (n_v vs 2)) 11 := f8
  obtain ⟨f9, hf⟩ := fc_un (by decide) hf
  have f9 : ((v_iv (n_v vs 5) + 1) ≤ w_fi ws (n_v vs 2) 10) → (v_iv (n_v vs 12) = (w_ei ws (w_ar ws (n_v vs 2) 1) (v_iv (n_v vs 5)) % 256)) := f9
  obtain ⟨f10, hf⟩ := fc_un (by decide) hf
  have f10 : (w_fi ws (n_v vs 2) 10 ≤ v_iv (n_v vs 5)) → (v_iv (n_v vs 12) = (-1)) := f10
  obtain ⟨f11, hf⟩ := fc_un (by decide) hf
  have f11 : w_fi ws (n_v vs 2) 157 ≤ w_fi ws (n_v vs 2) 11 := f11
  obtain ⟨f12, hf⟩ := fc_un (by decide) hf
  have f12 : (-1) * v_iv (n_v vs 11) + ((-2) * w_fi ws (n_v vs 2) 11 + 0) ≤ (-4001) := f12
  obtain ⟨f13, hf⟩ := fc_un (by decide) hf
  have f13 : v_iv (n_v vs 9) ≠ v_iv (n_v vs 10) := f13
  obtain ⟨f14, hf⟩ := fc_un (by decide) hf
  have f14 : ((v_iv (n_v vs 5) + 1) ≤ w_fi ws (n_v vs 2) 10) → (v_iv (n_v vs 9) = (w_ei ws (w_ar ws (n_v vs 2) 1) (v_iv (n_v vs 5)) % 256)) := f14
  obtain ⟨f15, hf⟩ := fc_un (by decide) hf
  have f15 : (w_fi ws (n_v vs 2) 10 ≤ v_iv (n_v vs 5)) → (v_iv (n_v vs 9) = (-1)) := f15
  obtain ⟨f16, hf⟩ := fc_un (by decide) hf
  have f16 : v_iv (n_v vs 7) ≠ v_iv (n_v vs 8) := f16
  obtain ⟨f17, hf⟩ := fc_un (by decide) hf
  have f17 : ((v_iv (n_v vs 5) + 1) ≤ w_fi ws (n_v vs 2) 10) → (v_iv (n_v vs 7) = (w_ei ws (w_ar ws (n_v vs 2) 1) (v_iv (n_v vs 5)) % 256)) := f17
  obtain ⟨f18, hf⟩ := fc_un (by decide) hf
  have f18 : (w_fi ws (n_v vs 2) 10 ≤ v_iv (n_v vs 5)) → (v_iv (n_v vs 7) = (-1)) := f18
  obtain ⟨f19, hf⟩ := fc_un (by decide) hf
  have f19 : w_fi ws (n_v vs 2) 157 ≤ w_fi ws (n_v vs 2) 11 := f19
  obtain ⟨f20, hf⟩ := fc_un (by decide) hf
  have f20 : (-1) * v_iv (n_v vs 6) + ((-2) * w_fi ws (n_v vs 2) 11 + 0) ≤ (-4001) := f20
  have q2 : n_v vs 2 = n_v vs 0 := f6.symm
  rw [q2] at f4
  rw [q2] at f8
  rw [q2] at f9
  rw [q2] at f10
  rw [q2] at f11
  rw [q2] at f12
  rw [q2] at f14
  rw [q2] at f15
  rw [q2] at f17
  rw [q2] at f18
  rw [q2] at f19
  rw [q2] at f20
  have cr_0_1 : ta (w_ar ws (n_v vs 0) 1) = some 151 := tv_rg (th_fd hD hth r0 (g := GG_150) rfl (k := 1) (t := (2, 0, 0, [151])) rfl rfl)
  have g8 : v_iv (n_v vs 5) = w_fi ws (n_v vs 0) 11 := congrArg v_iv f8
  have hK_0_1 : ∀ j : Int, 0 ≤ j → j < 2000 → (-128) ≤ w_ei ws (w_ar ws (n_v vs 0) 1) j ∧ w_ei ws (w_ar ws (n_v vs 0) 1) j ≤ 127 := fun j h0 h1 => th_el hD hth cr_0_1 (kd := 1) (n := 2000) (m := 2000) (lo := (-128)) (hi := 127) (rs := []) (L := []) rfl (by decide) (j := j.toNat) (by omega)
  have kz_0_10 : 0 ≤ w_fi ws (n_v vs 0) 10 ∧ w_fi ws (n_v vs 0) 10 ≤ 2000 := tv_rng (th_fd hD hth r0 (g := GG_150) rfl (k := 10) (t := (0, 0, 2000, [])) rfl rfl)
  have kz_0_11 : 0 ≤ w_fi ws (n_v vs 0) 11 ∧ w_fi ws (n_v vs 0) 11 ≤ 2000 := tv_rng (th_fd hD hth r0 (g := GG_150) rfl (k := 11) (t := (0, 0, 2000, [])) rfl rfl)
  have kz_0_157 : 0 ≤ w_fi ws (n_v vs 0) 157 ∧ w_fi ws (n_v vs 0) 157 ≤ 2010 := tv_rng (th_fd hD hth r0 (g := GG_150) rfl (k := 157) (t := (0, 0, 2010, [])) rfl rfl)
  obtain ⟨x, ex, hx⟩ := iv_ex (ta := ta) (lo := 0) (hi := 4001) (z := 0 + (1 * v_iv (n_v vs 6) + 0)) (by omega) (by omega) (by decide) (by decide)
  have ex2 : v_iv (Value.int x) = 0 + (1 * v_iv (n_v vs 6) + 0) := ex
  have ex3 : 0 ≤ v_iv (Value.int x) ∧ v_iv (Value.int x) ≤ 4001 := tv_rng hx
  have e_0 : n_v (vs ++ [Value.int x]) 0 = n_v vs 0 := n_v_old (by rw [hl]; decide)
  have e_2 : n_v (vs ++ [Value.int x]) 2 = n_v vs 2 := n_v_old (by rw [hl]; decide)
  have e_5 : n_v (vs ++ [Value.int x]) 5 = n_v vs 5 := n_v_old (by rw [hl]; decide)
  have e_24 : n_v (vs ++ [Value.int x]) 24 = Value.int x := n_v_new hl
  have nf0 : fc_1 (20, [2, 5], [50, 2, 0, 157, 11, 2, 7, 0, 3, 2, 0, 157, 1, 1, 1, 3, 2, 0, 11, 1, 1]) ws (vs ++ [Value.int x]) := by
    refine ⟨fun n hn => ?_, ?_⟩
    · have hn : n ∈ [2, 5] := hn
      rw [List.length_append, hl]
      simp only [List.mem_cons, List.not_mem_nil, or_false] at hn
      show n < 24 + 1; omega
    · show (w_fi ws (n_v (vs ++ [Value.int x]) 2) 157 ≤ v_iv (n_v (vs ++ [Value.int x]) 5)) ∧ (w_fi ws (n_v (vs ++ [Value.int x]) 2) 11 = v_iv (n_v (vs ++ [Value.int x]) 5))
      rw [e_2]
      rw [e_5]
      rw [q2]
      first | omega | grind
  have nf1 : fc_1 (20, [24, 5], [30, -4001, -1, 0, 0, -2, 0, 0]) ws (vs ++ [Value.int x]) := by
    refine ⟨fun n hn => ?_, ?_⟩
    · have hn : n ∈ [24, 5] := hn
      rw [List.length_append, hl]
      simp only [List.mem_cons, List.not_mem_nil, or_false] at hn
      show n < 24 + 1; omega
    · show (-1) * v_iv (n_v (vs ++ [Value.int x]) 24) + ((-2) * v_iv (n_v (vs ++ [Value.int x]) 5) + 0) ≤ (-4001)
      rw [e_5]
      rw [e_24]
      omega
  have nf2 : fc_1 (24, [0, 2], []) ws (vs ++ [Value.int x]) := by
    refine ⟨fun n hn => ?_, ?_⟩
    · have hn : n ∈ [0, 2] := hn
      rw [List.length_append, hl]
      simp only [List.mem_cons, List.not_mem_nil, or_false] at hn
      show n < 24 + 1; omega
    · show n_v (vs ++ [Value.int x]) 0 = n_v (vs ++ [Value.int x]) 2
      first | rfl | simp only [e_0, e_2, q2]
  obtain ⟨x0, e0, _, _⟩ := tv_int t6 rfl
  have e1 : v_iv (n_v vs 6) = x0.toInt := by rw [e0]; rfl
  have ho : sy_ofs (vs ++ [Value.int x]) (24, 6, 0, 0) := by
    refine ⟨x, x0, by rw [List.getElem?_append_right (by rw [hl]; decide), hl]; rfl, ?_, ?_, ?_⟩
    · rw [List.getElem?_append_left (by rw [hl]; decide)]; exact n_v_some (by rw [hl]; decide) e0
    · show x0.toInt + 0 ≤ x.toInt; omega
    · show x.toInt ≤ x0.toInt + 0; omega
  exact ⟨fun q hq => (by cases hq), [Value.int x], ag_one hx, List.forall_mem_cons.mpr ⟨⟨by decide, nf0⟩, List.forall_mem_cons.mpr ⟨⟨by decide, nf1⟩, List.forall_mem_cons.mpr ⟨⟨by decide, nf2⟩, (fun _ h => (by cases h))⟩⟩⟩, List.forall_mem_cons.mpr ⟨ho, (fun _ h => (by cases h))⟩⟩
def o_Mo_styleTokens_125 : or_T := (339, 26, [(0, (2, 0, 0, [150])), (2, (2, 0, 0, [150])), (5, (0, 0, 1999, [])), (6, (0, 0, 4001, [])), (7, (0, 0, 255, [])), (8, (0, 32, 32, [])), (9, (0, 0, 255, [])), (10, (0, 10, 10, [])), (11, (0, 0, 4001, [])), (12, (0, 41, 41, [])), (19, (0, 0, 4001, [])), (20, (0, 123, 123, [])), (21, (0, 125, 125, [])), (22, (0, 40, 40, [])), (23, (0, 41, 41, [])), (24, (0, 0, 4001, []))], [(20, [2, 5], [50, 2, 0, 157, 11, 2, 7, 0, 3, 2, 0, 157, 1, 1, 1, 3, 2, 0, 11, 1, 1]), (20, [24, 5], [30, -4001, -1, 0, 0, -2, 0, 0]), (24, [0, 2], []), (7, [12, 23], [0]), (7, [12, 22], [1]), (7, [12, 21], [1]), (7, [12, 20], [1]), (20, [2, 5], [50, 2, 0, 157, 11, 2, 7, 0, 3, 2, 0, 157, 1, 1, 1, 3, 2, 0, 11, 1, 1]), (20, [19, 5], [30, -4001, -1, 0, 0, -2, 0, 0]), (8, [12], [3]), (9, [5, 2], [11]), (20, [5, 2, 12], [50, 1, 1, 1010, 1001, 4, 11, 0, 6, 4, 2, 1, 0, 0, 1, 2, 1, 10, 1, 2, 1, 2, 9, 5, 3, 1, 1, 1, 0, 0, 256]), (20, [2, 5, 12], [50, 1, 0, 10, 4, 7, 0, 3, 2, 0, 10, 1, 1, 1, 2, 1, 2, 0, -1]), (20, [2], [50, 2, 0, 157, 11, 0, 3, 2, 0, 157, 2, 0, 11]), (20, [11, 2], [30, -4001, -1, 0, 0, -2, 1, 11]), (7, [9, 10], [1]), (20, [5, 2, 9], [50, 1, 1, 1010, 1001, 4, 11, 0, 6, 4, 2, 1, 0, 0, 1, 2, 1, 10, 1, 2, 1, 2, 9, 5, 3, 1, 1, 1, 0, 0, 256]), (20, [2, 5, 9], [50, 1, 0, 10, 4, 7, 0, 3, 2, 0, 10, 1, 1, 1, 2, 1, 2, 0, -1]), (7, [7, 8], [1]), (20, [5, 2, 7], [50, 1, 1, 1010, 1001, 4, 11, 0, 6, 4, 2, 1, 0, 0, 1, 2, 1, 10, 1, 2, 1, 2, 9, 5, 3, 1, 1, 1, 0, 0, 256]), (20, [2, 5, 7], [50, 1, 0, 10, 4, 7, 0, 3, 2, 0, 10, 1, 1, 1, 2, 1, 2, 0, -1]), (20, [2], [50, 2, 0, 157, 11, 0, 3, 2, 0, 157, 2, 0, 11]), (20, [6, 2], [30, -4001, -1, 0, 0, -2, 1, 11])], [], [(0, 0, 4001, [])], [(20, [2, 5], [50, 2, 0, 157, 11, 2, 7, 0, 3, 2, 0, 157, 1, 1, 1, 3, 2, 0, 11, 1, 1]), (20, [26, 5], [30, -4001, -1, 0, 0, -2, 0, 0]), (24, [0, 2], [])], [(26, 6, 0, 0)], [(24, 6, 0, 0), (19, 6, 0, 0), (11, 6, 0, 0)])
theorem oo_Mo_styleTokens_125 {kA : Nat → ClassId} : or_ok kA GG o_Mo_styleTokens_125 := by
  intro A ta ws vs hD hth hl hk hds hf
  have hl : vs.length = 26 := hl
  have hk : ∀ q ∈ ([(0, (2, 0, 0, [150])), (2, (2, 0, 0, [150])), (5, (0, 0, 1999, [])), (6, (0, 0, 4001, [])), (7, (0, 0, 255, [])), (8, (0, 32, 32, [])), (9, (0, 0, 255, [])), (10, (0, 10, 10, [])), (11, (0, 0, 4001, [])), (12, (0, 41, 41, [])), (19, (0, 0, 4001, [])), (20, (0, 123, 123, [])), (21, (0, 125, 125, [])), (22, (0, 40, 40, [])), (23, (0, 41, 41, [])), (24, (0, 0, 4001, []))] : List (Nat × tv_T)), tv_ok ta q.2 (n_v vs q.1) := hk
  obtain ⟨t0, hk⟩ := List.forall_mem_cons.mp hk
  have t0 : tv_ok ta (2, 0, 0, [150]) (n_v vs 0) := t0
  have r0 : ta (v_ad (n_v vs 0)) = some 150 := tv_rg t0
  obtain ⟨t2, hk⟩ := List.forall_mem_cons.mp hk
  have t2 : tv_ok ta (2, 0, 0, [150]) (n_v vs 2) := t2
  have r2 : ta (v_ad (n_v vs 2)) = some 150 := tv_rg t2
  obtain ⟨t5, hk⟩ := List.forall_mem_cons.mp hk
  have t5 : tv_ok ta (0, 0, 1999, []) (n_v vs 5) := t5
  have k5 : 0 ≤ v_iv (n_v vs 5) ∧ v_iv (n_v vs 5) ≤ 1999 := tv_rng t5
  obtain ⟨t6, hk⟩ := List.forall_mem_cons.mp hk
  have t6 : tv_ok ta (0, 0, 4001, []) (n_v vs 6) := t6
  have k6 : 0 ≤ v_iv (n_v vs 6) ∧ v_iv (n_v vs 6) ≤ 4001 := tv_rng t6
  obtain ⟨t7, hk⟩ := List.forall_mem_cons.mp hk
  have t7 : tv_ok ta (0, 0, 255, []) (n_v vs 7) := t7
  have k7 : 0 ≤ v_iv (n_v vs 7) ∧ v_iv (n_v vs 7) ≤ 255 := tv_rng t7
  obtain ⟨t8, hk⟩ := List.forall_mem_cons.mp hk
  have t8 : tv_ok ta (0, 32, 32, []) (n_v vs 8) := t8
  have k8 : 32 ≤ v_iv (n_v vs 8) ∧ v_iv (n_v vs 8) ≤ 32 := tv_rng t8
  obtain ⟨t9, hk⟩ := List.forall_mem_cons.mp hk
  have t9 : tv_ok ta (0, 0, 255, []) (n_v vs 9) := t9
  have k9 : 0 ≤ v_iv (n_v vs 9) ∧ v_iv (n_v vs 9) ≤ 255 := tv_rng t9
  obtain ⟨t10, hk⟩ := List.forall_mem_cons.mp hk
  have t10 : tv_ok ta (0, 10, 10, []) (n_v vs 10) := t10
  have k10 : 10 ≤ v_iv (n_v vs 10) ∧ v_iv (n_v vs 10) ≤ 10 := tv_rng t10
  obtain ⟨t11, hk⟩ := List.forall_mem_cons.mp hk
  have t11 : tv_ok ta (0, 0, 4001, []) (n_v vs 11) := t11
  have k11 : 0 ≤ v_iv (n_v vs 11) ∧ v_iv (n_v vs 11) ≤ 4001 := tv_rng t11
  obtain ⟨t12, hk⟩ := List.forall_mem_cons.mp hk
  have t12 : tv_ok ta (0, 41, 41, []) (n_v vs 12) := t12
  have k12 : 41 ≤ v_iv (n_v vs 12) ∧ v_iv (n_v vs 12) ≤ 41 := tv_rng t12
  obtain ⟨t19, hk⟩ := List.forall_mem_cons.mp hk
  have t19 : tv_ok ta (0, 0, 4001, []) (n_v vs 19) := t19
  have k19 : 0 ≤ v_iv (n_v vs 19) ∧ v_iv (n_v vs 19) ≤ 4001 := tv_rng t19
  obtain ⟨t20, hk⟩ := List.forall_mem_cons.mp hk
  have t20 : tv_ok ta (0, 123, 123, []) (n_v vs 20) := t20
  have k20 : 123 ≤ v_iv (n_v vs 20) ∧ v_iv (n_v vs 20) ≤ 123 := tv_rng t20
  obtain ⟨t21, hk⟩ := List.forall_mem_cons.mp hk
  have t21 : tv_ok ta (0, 125, 125, []) (n_v vs 21) := t21
  have k21 : 125 ≤ v_iv (n_v vs 21) ∧ v_iv (n_v vs 21) ≤ 125 := tv_rng t21
  obtain ⟨t22, hk⟩ := List.forall_mem_cons.mp hk
  have t22 : tv_ok ta (0, 40, 40, []) (n_v vs 22) := t22
  have k22 : 40 ≤ v_iv (n_v vs 22) ∧ v_iv (n_v vs 22) ≤ 40 := tv_rng t22
  obtain ⟨t23, hk⟩ := List.forall_mem_cons.mp hk
  have t23 : tv_ok ta (0, 41, 41, []) (n_v vs 23) := t23
  have k23 : 41 ≤ v_iv (n_v vs 23) ∧ v_iv (n_v vs 23) ≤ 41 := tv_rng t23
  obtain ⟨t24, hk⟩ := List.forall_mem_cons.mp hk
  have t24 : tv_ok ta (0, 0, 4001, []) (n_v vs 24) := t24
  have k24 : 0 ≤ v_iv (n_v vs 24) ∧ v_iv (n_v vs 24) ≤ 4001 := tv_rng t24
  have hds : ∀ q ∈ ([(24, 6, 0, 0), (19, 6, 0, 0), (11, 6, 0, 0)] : List of_T), n_iv vs q.2.1 + q.2.2.1 ≤ n_iv vs q.1 ∧ n_iv vs q.1 ≤ n_iv vs q.2.1 + q.2.2.2 := hds
  obtain ⟨d0, hds⟩ := List.forall_mem_cons.mp hds
  have d0 : v_iv (n_v vs 6) + 0 ≤ v_iv (n_v vs 24) ∧ v_iv (n_v vs 24) ≤ v_iv (n_v vs 6) + 0 := d0
  obtain ⟨d1, hds⟩ := List.forall_mem_cons.mp hds
  have d1 : v_iv (n_v vs 6) + 0 ≤ v_iv (n_v vs 19) ∧ v_iv (n_v vs 19) ≤ v_iv (n_v vs 6) + 0 := d1
  obtain ⟨d2, hds⟩ := List.forall_mem_cons.mp hds
  have d2 : v_iv (n_v vs 6) + 0 ≤ v_iv (n_v vs 11) ∧ v_iv (n_v vs 11) ≤ v_iv (n_v vs 6) + 0 := d2
  have hf : fc_ok [(20, [2, 5], [50, 2, 0, 157, 11, 2, 7, 0, 3, 2, 0, 157, 1, 1, 1, 3, 2, 0, 11, 1, 1]), (20, [24, 5], [30, -4001, -1, 0, 0, -2, 0, 0]), (24, [0, 2], []), (7, [12, 23], [0]), (7, [12, 22], [1]), (7, [12, 21], [1]), (7, [12, 20], [1]), (20, [2, 5], [50, 2, 0, 157, 11, 2, 7, 0, 3, 2, 0, 157, 1, 1, 1, 3, 2, 0, 11, 1, 1]), (20, [19, 5], [30, -4001, -1, 0, 0, -2, 0, 0]), (8, [12], [3]), (9, [5, 2], [11]), (20, [5, 2, 12], [50, 1, 1, 1010, 1001, 4, 11, 0, 6, 4, 2, 1, 0, 0, 1, 2, 1, 10, 1, 2, 1, 2, 9, 5, 3, 1, 1, 1, 0, 0, 256]), (20, [2, 5, 12], [50, 1, 0, 10, 4, 7, 0, 3, 2, 0, 10, 1, 1, 1, 2, 1, 2, 0, -1]), (20, [2], [50, 2, 0, 157, 11, 0, 3, 2, 0, 157, 2, 0, 11]), (20, [11, 2], [30, -4001, -1, 0, 0, -2, 1, 11]), (7, [9, 10], [1]), (20, [5, 2, 9], [50, 1, 1, 1010, 1001, 4, 11, 0, 6, 4, 2, 1, 0, 0, 1, 2, 1, 10, 1, 2, 1, 2, 9, 5, 3, 1, 1, 1, 0, 0, 256]), (20, [2, 5, 9], [50, 1, 0, 10, 4, 7, 0, 3, 2, 0, 10, 1, 1, 1, 2, 1, 2, 0, -1]), (7, [7, 8], [1]), (20, [5, 2, 7], [50, 1, 1, 1010, 1001, 4, 11, 0, 6, 4, 2, 1, 0, 0, 1, 2, 1, 10, 1, 2, 1, 2, 9, 5, 3, 1, 1, 1, 0, 0, 256]), (20, [2, 5, 7], [50, 1, 0, 10, 4, 7, 0, 3, 2, 0, 10, 1, 1, 1, 2, 1, 2, 0, -1]), (20, [2], [50, 2, 0, 157, 11, 0, 3, 2, 0, 157, 2, 0, 11]), (20, [6, 2], [30, -4001, -1, 0, 0, -2, 1, 11])] ta ws vs := hf
  obtain ⟨f0, hf⟩ := fc_un (by decide) hf
  have f0 : (w_fi ws (n_v vs 2) 157 ≤ v_iv (n_v vs 5)) ∧ (w_fi ws (n_v vs 2) 11 = v_iv (n_v vs 5)) := f0
  obtain ⟨f1, hf⟩ := fc_un (by decide) hf
  have f1 : (-1) * v_iv (n_v vs 24) + ((-2) * v_iv (n_v vs 5) + 0) ≤ (-4001) := f1
  obtain ⟨f2, hf⟩ := fc_un (by decide) hf
  have f2 : n_v vs 0 = n_v vs 2 := f2
  obtain ⟨f3, hf⟩ := fc_un (by decide) hf
  have f3 : v_iv (n_v vs 12) = v_iv (n_v vs 23) := f3
  obtain ⟨f4, hf⟩ := fc_un (by decide) hf
  have f4 : v_iv (n_v vs 12) ≠ v_iv (n_v vs 22) := f4
  obtain ⟨f5, hf⟩ := fc_un (by decide) hf
  have f5 : v_iv (n_v vs 12) ≠ v_iv (n_v vs 21) := f5
  obtain ⟨f6, hf⟩ := fc_un (by decide) hf
  have f6 : v_iv (n_v vs 12) ≠ v_iv (n_v vs 20) := f6
  obtain ⟨f7, hf⟩ := fc_un (by decide) hf
  have f7 : (w_fi ws (n_v vs 2) 157 ≤ v_iv (n_v vs 5)) ∧ (w_fi ws (n_v vs 2) 11 = v_iv (n_v vs 5)) := f7
  obtain ⟨f8, hf⟩ := fc_un (by decide) hf
  have f8 : (-1) * v_iv (n_v vs 19) + ((-2) * v_iv (n_v vs 5) + 0) ≤ (-4001) := f8
  obtain ⟨f9, hf⟩ := fc_un (by decide) hf
  have f9 : 0 ≤ v_iv (n_v vs 12) := f9
  obtain ⟨f10, hf⟩ := fc_un (by decide) hf
  have f10 : n_v vs 5 = w_fd ws (v_ad (n_v vs 2)) 11 := f10
  obtain ⟨f11, hf⟩ := fc_un (by decide) hf
  have f11 : ((v_iv (n_v vs 5) + 1) ≤ w_fi ws (n_v vs 2) 10) → (v_iv (n_v vs 12) = (w_ei ws (w_ar ws (n_v vs 2) 1) (v_iv (n_v vs 5)) % 256)) := f11
  obtain ⟨f12, hf⟩ := fc_un (by decide) hf
  have f12 : (w_fi ws (n_v vs 2) 10 ≤ v_iv (n_v vs 5)) → (v_iv (n_v vs 12) = (-1)) := f12
  obtain ⟨f13, hf⟩ := fc_un (by decide) hf
  have f13 : w_fi ws (n_v vs 2) 157 ≤ w_fi ws (n_v vs 2) 11 := f13
  obtain ⟨f14, hf⟩ := fc_un (by decide) hf
  have f14 : (-1) * v_iv (n_v vs 11) + ((-2) * w_fi ws (n_v vs 2) 11 + 0) ≤ (-4001) := f14
  obtain ⟨f15, hf⟩ := fc_un (by decide) hf
  have f15 : v_iv (n_v vs 9) ≠ v_iv (n_v vs 10) := f15
  obtain ⟨f16, hf⟩ := fc_un (by decide) hf
  have f16 : ((v_iv (n_v vs 5) + 1) ≤ w_fi ws (n_v vs 2) 10) → (v_iv (n_v vs 9) = (w_ei ws (w_ar ws (n_v vs 2) 1) (v_iv (n_v vs 5)) % 256)) := f16
  obtain ⟨f17, hf⟩ := fc_un (by decide) hf
  have f17 : (w_fi ws (n_v vs 2) 10 ≤ v_iv (n_v vs 5)) → (v_iv (n_v vs 9) = (-1)) := f17
  obtain ⟨f18, hf⟩ := fc_un (by decide) hf
  have f18 : v_iv (n_v vs 7) ≠ v_iv (n_v vs 8) := f18
  obtain ⟨f19, hf⟩ := fc_un (by decide) hf
  have f19 : ((v_iv (n_v vs 5) + 1) ≤ w_fi ws (n_v vs 2) 10) → (v_iv (n_v vs 7) = (w_ei ws (w_ar ws (n_v vs 2) 1) (v_iv (n_v vs 5)) % 256)) := f19
  obtain ⟨f20, hf⟩ := fc_un (by decide) hf
  have f20 : (w_fi ws (n_v vs 2) 10 ≤ v_iv (n_v vs 5)) → (v_iv (n_v vs 7) = (-1)) := f20
  obtain ⟨f21, hf⟩ := fc_un (by decide) hf
  have f21 : w_fi ws (n_v vs 2) 157 ≤ w_fi ws (n_v vs 2) 11 := f21
  obtain ⟨f22, hf⟩ := fc_un (by decide) hf
  have f22 : (-1) * v_iv (n_v vs 6) + ((-2) * w_fi ws (n_v vs 2) 11 + 0) ≤ (-4001) := f22
  have q2 : n_v vs 2 = n_v vs 0 := f2.symm
  rw [q2] at f0
  rw [q2] at f7
  rw [q2] at f10
  rw [q2] at f11
  rw [q2] at f12
  rw [q2] at f13
  rw [q2] at f14
  rw [q2] at f16
  rw [q2] at f17
  rw [q2] at f19
  rw [q2] at f20
  rw [q2] at f21
  rw [q2] at f22
  have cr_0_1 : ta (w_ar ws (n_v vs 0) 1) = some 151 := tv_rg (th_fd hD hth r0 (g := GG_150) rfl (k := 1) (t := (2, 0, 0, [151])) rfl rfl)
  have g10 : v_iv (n_v vs 5) = w_fi ws (n_v vs 0) 11 := congrArg v_iv f10
  have hK_0_1 : ∀ j : Int, 0 ≤ j → j < 2000 → (-128) ≤ w_ei ws (w_ar ws (n_v vs 0) 1) j ∧ w_ei ws (w_ar ws (n_v vs 0) 1) j ≤ 127 := fun j h0 h1 => th_el hD hth cr_0_1 (kd := 1) (n := 2000) (m := 2000) (lo := (-128)) (hi := 127) (rs := []) (L := []) rfl (by decide) (j := j.toNat) (by omega)
  have kz_0_10 : 0 ≤ w_fi ws (n_v vs 0) 10 ∧ w_fi ws (n_v vs 0) 10 ≤ 2000 := tv_rng (th_fd hD hth r0 (g := GG_150) rfl (k := 10) (t := (0, 0, 2000, [])) rfl rfl)
  have kz_0_11 : 0 ≤ w_fi ws (n_v vs 0) 11 ∧ w_fi ws (n_v vs 0) 11 ≤ 2000 := tv_rng (th_fd hD hth r0 (g := GG_150) rfl (k := 11) (t := (0, 0, 2000, [])) rfl rfl)
  have kz_0_157 : 0 ≤ w_fi ws (n_v vs 0) 157 ∧ w_fi ws (n_v vs 0) 157 ≤ 2010 := tv_rng (th_fd hD hth r0 (g := GG_150) rfl (k := 157) (t := (0, 0, 2010, [])) rfl rfl)
  obtain ⟨x, ex, hx⟩ := iv_ex (ta := ta) (lo := 0) (hi := 4001) (z := 0 + (1 * v_iv (n_v vs 6) + 0)) (by omega) (by omega) (by decide) (by decide)
  have ex2 : v_iv (Value.int x) = 0 + (1 * v_iv (n_v vs 6) + 0) := ex
  have ex3 : 0 ≤ v_iv (Value.int x) ∧ v_iv (Value.int x) ≤ 4001 := tv_rng hx
  have e_0 : n_v (vs ++ [Value.int x]) 0 = n_v vs 0 := n_v_old (by rw [hl]; decide)
  have e_2 : n_v (vs ++ [Value.int x]) 2 = n_v vs 2 := n_v_old (by rw [hl]; decide)
  have e_5 : n_v (vs ++ [Value.int x]) 5 = n_v vs 5 := n_v_old (by rw [hl]; decide)
  have e_26 : n_v (vs ++ [Value.int x]) 26 = Value.int x := n_v_new hl
  have nf0 : fc_1 (20, [2, 5], [50, 2, 0, 157, 11, 2, 7, 0, 3, 2, 0, 157, 1, 1, 1, 3, 2, 0, 11, 1, 1]) ws (vs ++ [Value.int x]) := by
    refine ⟨fun n hn => ?_, ?_⟩
    · have hn : n ∈ [2, 5] := hn
      rw [List.length_append, hl]
      simp only [List.mem_cons, List.not_mem_nil, or_false] at hn
      show n < 26 + 1; omega
    · show (w_fi ws (n_v (vs ++ [Value.int x]) 2) 157 ≤ v_iv (n_v (vs ++ [Value.int x]) 5)) ∧ (w_fi ws (n_v (vs ++ [Value.int x]) 2) 11 = v_iv (n_v (vs ++ [Value.int x]) 5))
      rw [e_2]
      rw [e_5]
      rw [q2]
      first | omega | grind
  have nf1 : fc_1 (20, [26, 5], [30, -4001, -1, 0, 0, -2, 0, 0]) ws (vs ++ [Value.int x]) := by
    refine ⟨fun n hn => ?_, ?_⟩
    · have hn : n ∈ [26, 5] := hn
      rw [List.length_append, hl]
      simp only [List.mem_cons, List.not_mem_nil, or_false] at hn
      show n < 26 + 1; omega
    · show (-1) * v_iv (n_v (vs ++ [Value.int x]) 26) + ((-2) * v_iv (n_v (vs ++ [Value.int x]) 5) + 0) ≤ (-4001)
      rw [e_5]
      rw [e_26]
      omega
  have nf2 : fc_1 (24, [0, 2], []) ws (vs ++ [Value.int x]) := by
    refine ⟨fun n hn => ?_, ?_⟩
    · have hn : n ∈ [0, 2] := hn
      rw [List.length_append, hl]
      simp only [List.mem_cons, List.not_mem_nil, or_false] at hn
      show n < 26 + 1; omega
    · show n_v (vs ++ [Value.int x]) 0 = n_v (vs ++ [Value.int x]) 2
      first | rfl | simp only [e_0, e_2, q2]
  obtain ⟨x0, e0, _, _⟩ := tv_int t6 rfl
  have e1 : v_iv (n_v vs 6) = x0.toInt := by rw [e0]; rfl
  have ho : sy_ofs (vs ++ [Value.int x]) (26, 6, 0, 0) := by
    refine ⟨x, x0, by rw [List.getElem?_append_right (by rw [hl]; decide), hl]; rfl, ?_, ?_, ?_⟩
    · rw [List.getElem?_append_left (by rw [hl]; decide)]; exact n_v_some (by rw [hl]; decide) e0
    · show x0.toInt + 0 ≤ x.toInt; omega
    · show x.toInt ≤ x0.toInt + 0; omega
  exact ⟨fun q hq => (by cases hq), [Value.int x], ag_one hx, List.forall_mem_cons.mpr ⟨⟨by decide, nf0⟩, List.forall_mem_cons.mpr ⟨⟨by decide, nf1⟩, List.forall_mem_cons.mpr ⟨⟨by decide, nf2⟩, (fun _ h => (by cases h))⟩⟩⟩, List.forall_mem_cons.mpr ⟨ho, (fun _ h => (by cases h))⟩⟩
def o_Mo_styleTokens_126 : or_T := (334, 25, [(0, (2, 0, 0, [150])), (2, (2, 0, 0, [150])), (5, (0, 0, 1999, [])), (6, (0, 0, 4001, [])), (7, (0, 0, 255, [])), (8, (0, 32, 32, [])), (9, (0, 0, 255, [])), (10, (0, 10, 10, [])), (11, (0, 0, 4001, [])), (12, (0, 43, 43, [])), (19, (0, 0, 4001, [])), (20, (0, 123, 123, [])), (21, (0, 125, 125, [])), (22, (0, 40, 40, [])), (23, (0, 41, 41, [])), (24, (0, 43, 43, []))], [(7, [12, 24], [0]), (7, [12, 23], [1]), (7, [12, 22], [1]), (7, [12, 21], [1]), (7, [12, 20], [1]), (20, [2, 5], [50, 2, 0, 157, 11, 2, 7, 0, 3, 2, 0, 157, 1, 1, 1, 3, 2, 0, 11, 1, 1]), (20, [19, 5], [30, -4001, -1, 0, 0, -2, 0, 0]), (24, [0, 2], []), (8, [12], [3]), (9, [5, 2], [11]), (20, [5, 2, 12], [50, 1, 1, 1010, 1001, 4, 11, 0, 6, 4, 2, 1, 0, 0, 1, 2, 1, 10, 1, 2, 1, 2, 9, 5, 3, 1, 1, 1, 0, 0, 256]), (20, [2, 5, 12], [50, 1, 0, 10, 4, 7, 0, 3, 2, 0, 10, 1, 1, 1, 2, 1, 2, 0, -1]), (20, [2], [50, 2, 0, 157, 11, 0, 3, 2, 0, 157, 2, 0, 11]), (20, [11, 2], [30, -4001, -1, 0, 0, -2, 1, 11]), (7, [9, 10], [1]), (20, [5, 2, 9], [50, 1, 1, 1010, 1001, 4, 11, 0, 6, 4, 2, 1, 0, 0, 1, 2, 1, 10, 1, 2, 1, 2, 9, 5, 3, 1, 1, 1, 0, 0, 256]), (20, [2, 5, 9], [50, 1, 0, 10, 4, 7, 0, 3, 2, 0, 10, 1, 1, 1, 2, 1, 2, 0, -1]), (7, [7, 8], [1]), (20, [5, 2, 7], [50, 1, 1, 1010, 1001, 4, 11, 0, 6, 4, 2, 1, 0, 0, 1, 2, 1, 10, 1, 2, 1, 2, 9, 5, 3, 1, 1, 1, 0, 0, 256]), (20, [2, 5, 7], [50, 1, 0, 10, 4, 7, 0, 3, 2, 0, 10, 1, 1, 1, 2, 1, 2, 0, -1]), (20, [2], [50, 2, 0, 157, 11, 0, 3, 2, 0, 157, 2, 0, 11]), (20, [6, 2], [30, -4001, -1, 0, 0, -2, 1, 11])], [], [(0, 0, 4001, [])], [(20, [2, 5], [50, 2, 0, 157, 11, 2, 7, 0, 3, 2, 0, 157, 1, 1, 1, 3, 2, 0, 11, 1, 1]), (20, [25, 5], [30, -4001, -1, 0, 0, -2, 0, 0]), (24, [0, 2], [])], [(25, 6, 0, 0)], [(19, 6, 0, 0), (11, 6, 0, 0)])
theorem oo_Mo_styleTokens_126 {kA : Nat → ClassId} : or_ok kA GG o_Mo_styleTokens_126 := by
  intro A ta ws vs hD hth hl hk hds hf
  have hl : vs.length = 25 := hl
  have hk : ∀ q ∈ ([(0, (2, 0, 0, [150])), (2, (2, 0, 0, [150])), (5, (0, 0, 1999, [])), (6, (0, 0, 4001, [])), (7, (0, 0, 255, [])), (8, (0, 32, 32, [])), (9, (0, 0, 255, [])), (10, (0, 10, 10, [])), (11, (0, 0, 4001, [])), (12, (0, 43, 43, [])), (19, (0, 0, 4001, [])), (20, (0, 123, 123, [])), (21, (0, 125, 125, [])), (22, (0, 40, 40, [])), (23, (0, 41, 41, [])), (24, (0, 43, 43, []))] : List (Nat × tv_T)), tv_ok ta q.2 (n_v vs q.1) := hk
  obtain ⟨t0, hk⟩ := List.forall_mem_cons.mp hk
  have t0 : tv_ok ta (2, 0, 0, [150]) (n_v vs 0) := t0
  have r0 : ta (v_ad (n_v vs 0)) = some 150 := tv_rg t0
  obtain ⟨t2, hk⟩ := List.forall_mem_cons.mp hk
  have t2 : tv_ok ta (2, 0, 0, [150]) (n_v vs 2) := t2
  have r2 : ta (v_ad (n_v vs 2)) = some 150 := tv_rg t2
  obtain ⟨t5, hk⟩ := List.forall_mem_cons.mp hk
  have t5 : tv_ok ta (0, 0, 1999, []) (n_v vs 5) := t5
  have k5 : 0 ≤ v_iv (n_v vs 5) ∧ v_iv (n_v vs 5) ≤ 1999 := tv_rng t5
  obtain ⟨t6, hk⟩ := List.forall_mem_cons.mp hk
  have t6 : tv_ok ta (0, 0, 4001, []) (n_v vs 6) := t6
  have k6 : 0 ≤ v_iv (n_v vs 6) ∧ v_iv (n_v vs 6) ≤ 4001 := tv_rng t6
  obtain ⟨t7, hk⟩ := List.forall_mem_cons.mp hk
  have t7 : tv_ok ta (0, 0, 255, []) (n_v vs 7) := t7
  have k7 : 0 ≤ v_iv (n_v vs 7) ∧ v_iv (n_v vs 7) ≤ 255 := tv_rng t7
  obtain ⟨t8, hk⟩ := List.forall_mem_cons.mp hk
  have t8 : tv_ok ta (0, 32, 32, []) (n_v vs 8) := t8
  have k8 : 32 ≤ v_iv (n_v vs 8) ∧ v_iv (n_v vs 8) ≤ 32 := tv_rng t8
  obtain ⟨t9, hk⟩ := List.forall_mem_cons.mp hk
  have t9 : tv_ok ta (0, 0, 255, []) (n_v vs 9) := t9
  have k9 : 0 ≤ v_iv (n_v vs 9) ∧ v_iv (n_v vs 9) ≤ 255 := tv_rng t9
  obtain ⟨t10, hk⟩ := List.forall_mem_cons.mp hk
  have t10 : tv_ok ta (0, 10, 10, []) (n_v vs 10) := t10
  have k10 : 10 ≤ v_iv (n_v vs 10) ∧ v_iv (n_v vs 10) ≤ 10 := tv_rng t10
  obtain ⟨t11, hk⟩ := List.forall_mem_cons.mp hk
  have t11 : tv_ok ta (0, 0, 4001, []) (n_v vs 11) := t11
  have k11 : 0 ≤ v_iv (n_v vs 11) ∧ v_iv (n_v vs 11) ≤ 4001 := tv_rng t11
  obtain ⟨t12, hk⟩ := List.forall_mem_cons.mp hk
  have t12 : tv_ok ta (0, 43, 43, []) (n_v vs 12) := t12
  have k12 : 43 ≤ v_iv (n_v vs 12) ∧ v_iv (n_v vs 12) ≤ 43 := tv_rng t12
  obtain ⟨t19, hk⟩ := List.forall_mem_cons.mp hk
  have t19 : tv_ok ta (0, 0, 4001, []) (n_v vs 19) := t19
  have k19 : 0 ≤ v_iv (n_v vs 19) ∧ v_iv (n_v vs 19) ≤ 4001 := tv_rng t19
  obtain ⟨t20, hk⟩ := List.forall_mem_cons.mp hk
  have t20 : tv_ok ta (0, 123, 123, []) (n_v vs 20) := t20
  have k20 : 123 ≤ v_iv (n_v vs 20) ∧ v_iv (n_v vs 20) ≤ 123 := tv_rng t20
  obtain ⟨t21, hk⟩ := List.forall_mem_cons.mp hk
  have t21 : tv_ok ta (0, 125, 125, []) (n_v vs 21) := t21
  have k21 : 125 ≤ v_iv (n_v vs 21) ∧ v_iv (n_v vs 21) ≤ 125 := tv_rng t21
  obtain ⟨t22, hk⟩ := List.forall_mem_cons.mp hk
  have t22 : tv_ok ta (0, 40, 40, []) (n_v vs 22) := t22
  have k22 : 40 ≤ v_iv (n_v vs 22) ∧ v_iv (n_v vs 22) ≤ 40 := tv_rng t22
  obtain ⟨t23, hk⟩ := List.forall_mem_cons.mp hk
  have t23 : tv_ok ta (0, 41, 41, []) (n_v vs 23) := t23
  have k23 : 41 ≤ v_iv (n_v vs 23) ∧ v_iv (n_v vs 23) ≤ 41 := tv_rng t23
  obtain ⟨t24, hk⟩ := List.forall_mem_cons.mp hk
  have t24 : tv_ok ta (0, 43, 43, []) (n_v vs 24) := t24
  have k24 : 43 ≤ v_iv (n_v vs 24) ∧ v_iv (n_v vs 24) ≤ 43 := tv_rng t24
  have hds : ∀ q ∈ ([(19, 6, 0, 0), (11, 6, 0, 0)] : List of_T), n_iv vs q.2.1 + q.2.2.1 ≤ n_iv vs q.1 ∧ n_iv vs q.1 ≤ n_iv vs q.2.1 + q.2.2.2 := hds
  obtain ⟨d0, hds⟩ := List.forall_mem_cons.mp hds
  have d0 : v_iv (n_v vs 6) + 0 ≤ v_iv (n_v vs 19) ∧ v_iv (n_v vs 19) ≤ v_iv (n_v vs 6) + 0 := d0
  obtain ⟨d1, hds⟩ := List.forall_mem_cons.mp hds
  have d1 : v_iv (n_v vs 6) + 0 ≤ v_iv (n_v vs 11) ∧ v_iv (n_v vs 11) ≤ v_iv (n_v vs 6) + 0 := d1
  have hf : fc_ok [(7, [12, 24], [0]), (7, [12, 23], [1]), (7, [12, 22], [1]), (7, [12, 21], [1]), (7, [12, 20], [1]), (20, [2, 5], [50, 2, 0, 157, 11, 2, 7, 0, 3, 2, 0, 157, 1, 1, 1, 3, 2, 0, 11, 1, 1]), (20, [19, 5], [30, -4001, -1, 0, 0, -2, 0, 0]), (24, [0, 2], []), (8, [12], [3]), (9, [5, 2], [11]), (20, [5, 2, 12], [50, 1, 1, 1010, 1001, 4, 11, 0, 6, 4, 2, 1, 0, 0, 1, 2, 1, 10, 1, 2, 1, 2, 9, 5, 3, 1, 1, 1, 0, 0, 256]), (20, [2, 5, 12], [50, 1, 0, 10, 4, 7, 0, 3, 2, 0, 10, 1, 1, 1, 2, 1, 2, 0, -1]), (20, [2], [50, 2, 0, 157, 11, 0, 3, 2, 0, 157, 2, 0, 11]), (20, [11, 2], [30, -4001, -1, 0, 0, -2, 1, 11]), (7, [9, 10], [1]), (20, [5, 2, 9], [50, 1, 1, 1010, 1001, 4, 11, 0, 6, 4, 2, 1, 0, 0, 1, 2, 1, 10, 1, 2, 1, 2, 9, 5, 3, 1, 1, 1, 0, 0, 256]), (20, [2, 5, 9], [50, 1, 0, 10, 4, 7, 0, 3, 2, 0, 10, 1, 1, 1, 2, 1, 2, 0, -1]), (7, [7, 8], [1]), (20, [5, 2, 7], [50, 1, 1, 1010, 1001, 4, 11, 0, 6, 4, 2, 1, 0, 0, 1, 2, 1, 10, 1, 2, 1, 2, 9, 5, 3, 1, 1, 1, 0, 0, 256]), (20, [2, 5, 7], [50, 1, 0, 10, 4, 7, 0, 3, 2, 0, 10, 1, 1, 1, 2, 1, 2, 0, -1]), (20, [2], [50, 2, 0, 157, 11, 0, 3, 2, 0, 157, 2, 0, 11]), (20, [6, 2], [30, -4001, -1, 0, 0, -2, 1, 11])] ta ws vs := hf
  obtain ⟨f0, hf⟩ := fc_un (by decide) hf
  have f0 : v_iv (n_v vs 12) = v_iv (n_v vs 24) := f0
  obtain ⟨f1, hf⟩ := fc_un (by decide) hf
  have f1 : v_iv (n_v vs 12) ≠ v_iv (n_v vs 23) := f1
  obtain ⟨f2, hf⟩ := fc_un (by decide) hf
  have f2 : v_iv (n_v vs 12) ≠ v_iv (n_v vs 22) := f2
  obtain ⟨f3, hf⟩ := fc_un (by decide) hf
  have f3 : v_iv (n_v vs 12) ≠ v_iv (n_v vs 21) := f3
  obtain ⟨f4, hf⟩ := fc_un (by decide) hf
  have f4 : v_iv (n_v vs 12) ≠ v_iv (n_v vs 20) := f4
  obtain ⟨f5, hf⟩ := fc_un (by decide) hf
  have f5 : (w_fi ws (n_v vs 2) 157 ≤ v_iv (n_v vs 5)) ∧ (w_fi ws (n_v vs 2) 11 = v_iv (n_v vs 5)) := f5
  obtain ⟨f6, hf⟩ := fc_un (by decide) hf
  have f6 : (-1) * v_iv (n_v vs 19) + ((-2) * v_iv (n_v vs 5) + 0) ≤ (-4001) := f6
  obtain ⟨f7, hf⟩ := fc_un (by decide) hf
  have f7 : n_v vs 0 = n_v vs 2 := f7
  obtain ⟨f8, hf⟩ := fc_un (by decide) hf
  have f8 : 0 ≤ v_iv (n_v vs 12) := f8
  obtain ⟨f9, hf⟩ := fc_un (by decide) hf
  have f9 : n_v vs 5 = w_fd ws (v_ad (n_v vs 2)) 11 := f9
  obtain ⟨f10, hf⟩ := fc_un (by decide) hf
  have f10 : ((v_iv (n_v vs 5) + 1) ≤ w_fi ws (n_v vs 2) 10) → (v_iv (n_v vs 12) = (w_ei ws (w_ar ws (n_v vs 2) 1) (v_iv (n_v vs 5)) % 256)) := f10
  obtain ⟨f11, hf⟩ := fc_un (by decide) hf
  have f11 : (w_fi ws (n_v vs 2) 10 ≤ v_iv (n_v vs 5)) → (v_iv (n_v vs 12) = (-1)) := f11
  obtain ⟨f12, hf⟩ := fc_un (by decide) hf
  have f12 : w_fi ws (n_v vs 2) 157 ≤ w_fi ws (n_v vs 2) 11 := f12
  obtain ⟨f13, hf⟩ := fc_un (by decide) hf
  have f13 : (-1) * v_iv (n_v vs 11) + ((-2) * w_fi ws (n_v vs 2) 11 + 0) ≤ (-4001) := f13
  obtain ⟨f14, hf⟩ := fc_un (by decide) hf
  have f14 : v_iv (n_v vs 9) ≠ v_iv (n_v vs 10) := f14
  obtain ⟨f15, hf⟩ := fc_un (by decide) hf
  have f15 : ((v_iv (n_v vs 5) + 1) ≤ w_fi ws (n_v vs 2) 10) → (v_iv (n_v vs 9) = (w_ei ws (w_ar ws (n_v vs 2) 1) (v_iv (n_v vs 5)) % 256)) := f15
  obtain ⟨f16, hf⟩ := fc_un (by decide) hf
  have f16 : (w_fi ws (n_v vs 2) 10 ≤ v_iv (n_v vs 5)) → (v_iv (n_v vs 9) = (-1)) := f16
  obtain ⟨f17, hf⟩ := fc_un (by decide) hf
  have f17 : v_iv (n_v vs 7) ≠ v_iv (n_v vs 8) := f17
  obtain ⟨f18, hf⟩ := fc_un (by decide) hf
  have f18 : ((v_iv (n_v vs 5) + 1) ≤ w_fi ws (n_v vs 2) 10) → (v_iv (n_v vs 7) = (w_ei ws (w_ar ws (n_v vs 2) 1) (v_iv (n_v vs 5)) % 256)) := f18
  obtain ⟨f19, hf⟩ := fc_un (by decide) hf
  have f19 : (w_fi ws (n_v vs 2) 10 ≤ v_iv (n_v vs 5)) → (v_iv (n_v vs 7) = (-1)) := f19
  obtain ⟨f20, hf⟩ := fc_un (by decide) hf
  have f20 : w_fi ws (n_v vs 2) 157 ≤ w_fi ws (n_v vs 2) 11 := f20
  obtain ⟨f21, hf⟩ := fc_un (by decide) hf
  have f21 : (-1) * v_iv (n_v vs 6) + ((-2) * w_fi ws (n_v vs 2) 11 + 0) ≤ (-4001) := f21
  have q2 : n_v vs 2 = n_v vs 0 := f7.symm
  rw [q2] at f5
  rw [q2] at f9
  rw [q2] at f10
  rw [q2] at f11
  rw [q2] at f12
  rw [q2] at f13
  rw [q2] at f15
  rw [q2] at f16
  rw [q2] at f18
  rw [q2] at f19
  rw [q2] at f20
  rw [q2] at f21
  have cr_0_1 : ta (w_ar ws (n_v vs 0) 1) = some 151 := tv_rg (th_fd hD hth r0 (g := GG_150) rfl (k := 1) (t := (2, 0, 0, [151])) rfl rfl)
  have g9 : v_iv (n_v vs 5) = w_fi ws (n_v vs 0) 11 := congrArg v_iv f9
  have hK_0_1 : ∀ j : Int, 0 ≤ j → j < 2000 → (-128) ≤ w_ei ws (w_ar ws (n_v vs 0) 1) j ∧ w_ei ws (w_ar ws (n_v vs 0) 1) j ≤ 127 := fun j h0 h1 => th_el hD hth cr_0_1 (kd := 1) (n := 2000) (m := 2000) (lo := (-128)) (hi := 127) (rs := []) (L := []) rfl (by decide) (j := j.toNat) (by omega)
  have kz_0_10 : 0 ≤ w_fi ws (n_v vs 0) 10 ∧ w_fi ws (n_v vs 0) 10 ≤ 2000 := tv_rng (th_fd hD hth r0 (g := GG_150) rfl (k := 10) (t := (0, 0, 2000, [])) rfl rfl)
  have kz_0_11 : 0 ≤ w_fi ws (n_v vs 0) 11 ∧ w_fi ws (n_v vs 0) 11 ≤ 2000 := tv_rng (th_fd hD hth r0 (g := GG_150) rfl (k := 11) (t := (0, 0, 2000, [])) rfl rfl)
  have kz_0_157 : 0 ≤ w_fi ws (n_v vs 0) 157 ∧ w_fi ws (n_v vs 0) 157 ≤ 2010 := tv_rng (th_fd hD hth r0 (g := GG_150) rfl (k := 157) (t := (0, 0, 2010, [])) rfl rfl)
  obtain ⟨x, ex, hx⟩ := iv_ex (ta := ta) (lo := 0) (hi := 4001) (z := 0 + (1 * v_iv (n_v vs 6) + 0)) (by omega) (by omega) (by decide) (by decide)
  have ex2 : v_iv (Value.int x) = 0 + (1 * v_iv (n_v vs 6) + 0) := ex
  have ex3 : 0 ≤ v_iv (Value.int x) ∧ v_iv (Value.int x) ≤ 4001 := tv_rng hx
  have e_0 : n_v (vs ++ [Value.int x]) 0 = n_v vs 0 := n_v_old (by rw [hl]; decide)
  have e_2 : n_v (vs ++ [Value.int x]) 2 = n_v vs 2 := n_v_old (by rw [hl]; decide)
  have e_5 : n_v (vs ++ [Value.int x]) 5 = n_v vs 5 := n_v_old (by rw [hl]; decide)
  have e_25 : n_v (vs ++ [Value.int x]) 25 = Value.int x := n_v_new hl
  have nf0 : fc_1 (20, [2, 5], [50, 2, 0, 157, 11, 2, 7, 0, 3, 2, 0, 157, 1, 1, 1, 3, 2, 0, 11, 1, 1]) ws (vs ++ [Value.int x]) := by
    refine ⟨fun n hn => ?_, ?_⟩
    · have hn : n ∈ [2, 5] := hn
      rw [List.length_append, hl]
      simp only [List.mem_cons, List.not_mem_nil, or_false] at hn
      show n < 25 + 1; omega
    · show (w_fi ws (n_v (vs ++ [Value.int x]) 2) 157 ≤ v_iv (n_v (vs ++ [Value.int x]) 5)) ∧ (w_fi ws (n_v (vs ++ [Value.int x]) 2) 11 = v_iv (n_v (vs ++ [Value.int x]) 5))
      rw [e_2]
      rw [e_5]
      rw [q2]
      first | omega | grind
  have nf1 : fc_1 (20, [25, 5], [30, -4001, -1, 0, 0, -2, 0, 0]) ws (vs ++ [Value.int x]) := by
    refine ⟨fun n hn => ?_, ?_⟩
    · have hn : n ∈ [25, 5] := hn
      rw [List.length_append, hl]
      simp only [List.mem_cons, List.not_mem_nil, or_false] at hn
      show n < 25 + 1; omega
    · show (-1) * v_iv (n_v (vs ++ [Value.int x]) 25) + ((-2) * v_iv (n_v (vs ++ [Value.int x]) 5) + 0) ≤ (-4001)
      rw [e_5]
      rw [e_25]
      omega
  have nf2 : fc_1 (24, [0, 2], []) ws (vs ++ [Value.int x]) := by
    refine ⟨fun n hn => ?_, ?_⟩
    · have hn : n ∈ [0, 2] := hn
      rw [List.length_append, hl]
      simp only [List.mem_cons, List.not_mem_nil, or_false] at hn
      show n < 25 + 1; omega
    · show n_v (vs ++ [Value.int x]) 0 = n_v (vs ++ [Value.int x]) 2
      first | rfl | simp only [e_0, e_2, q2]
  obtain ⟨x0, e0, _, _⟩ := tv_int t6 rfl
  have e1 : v_iv (n_v vs 6) = x0.toInt := by rw [e0]; rfl
  have ho : sy_ofs (vs ++ [Value.int x]) (25, 6, 0, 0) := by
    refine ⟨x, x0, by rw [List.getElem?_append_right (by rw [hl]; decide), hl]; rfl, ?_, ?_, ?_⟩
    · rw [List.getElem?_append_left (by rw [hl]; decide)]; exact n_v_some (by rw [hl]; decide) e0
    · show x0.toInt + 0 ≤ x.toInt; omega
    · show x.toInt ≤ x0.toInt + 0; omega
  exact ⟨fun q hq => (by cases hq), [Value.int x], ag_one hx, List.forall_mem_cons.mpr ⟨⟨by decide, nf0⟩, List.forall_mem_cons.mpr ⟨⟨by decide, nf1⟩, List.forall_mem_cons.mpr ⟨⟨by decide, nf2⟩, (fun _ h => (by cases h))⟩⟩⟩, List.forall_mem_cons.mpr ⟨ho, (fun _ h => (by cases h))⟩⟩
def o_Mo_styleTokens_127 : or_T := (339, 27, [(0, (2, 0, 0, [150])), (2, (2, 0, 0, [150])), (5, (0, 0, 1999, [])), (6, (0, 0, 4001, [])), (7, (0, 0, 255, [])), (8, (0, 32, 32, [])), (9, (0, 0, 255, [])), (10, (0, 10, 10, [])), (11, (0, 0, 4001, [])), (12, (0, 43, 43, [])), (19, (0, 0, 4001, [])), (20, (0, 123, 123, [])), (21, (0, 125, 125, [])), (22, (0, 40, 40, [])), (23, (0, 41, 41, [])), (24, (0, 43, 43, [])), (25, (0, 0, 4001, []))], [(20, [2, 5], [50, 2, 0, 157, 11, 2, 7, 0, 3, 2, 0, 157, 1, 1, 1, 3, 2, 0, 11, 1, 1]), (20, [25, 5], [30, -4001, -1, 0, 0, -2, 0, 0]), (24, [0, 2], []), (7, [12, 24], [0]), (7, [12, 23], [1]), (7, [12, 22], [1]), (7, [12, 21], [1]), (7, [12, 20], [1]), (20, [2, 5], [50, 2, 0, 157, 11, 2, 7, 0, 3, 2, 0, 157, 1, 1, 1, 3, 2, 0, 11, 1, 1]), (20, [19, 5], [30, -4001, -1, 0, 0, -2, 0, 0]), (8, [12], [3]), (9, [5, 2], [11]), (20, [5, 2, 12], [50, 1, 1, 1010, 1001, 4, 11, 0, 6, 4, 2, 1, 0, 0, 1, 2, 1, 10, 1, 2, 1, 2, 9, 5, 3, 1, 1, 1, 0, 0, 256]), (20, [2, 5, 12], [50, 1, 0, 10, 4, 7, 0, 3, 2, 0, 10, 1, 1, 1, 2, 1, 2, 0, -1]), (20, [2], [50, 2, 0, 157, 11, 0, 3, 2, 0, 157, 2, 0, 11]), (20, [11, 2], [30, -4001, -1, 0, 0, -2, 1, 11]), (7, [9, 10], [1]), (20, [5, 2, 9], [50, 1, 1, 1010, 1001, 4, 11, 0, 6, 4, 2, 1, 0, 0, 1, 2, 1, 10, 1, 2, 1, 2, 9, 5, 3, 1, 1, 1, 0, 0, 256]), (20, [2, 5, 9], [50, 1, 0, 10, 4, 7, 0, 3, 2, 0, 10, 1, 1, 1, 2, 1, 2, 0, -1]), (7, [7, 8], [1]), (20, [5, 2, 7], [50, 1, 1, 1010, 1001, 4, 11, 0, 6, 4, 2, 1, 0, 0, 1, 2, 1, 10, 1, 2, 1, 2, 9, 5, 3, 1, 1, 1, 0, 0, 256]), (20, [2, 5, 7], [50, 1, 0, 10, 4, 7, 0, 3, 2, 0, 10, 1, 1, 1, 2, 1, 2, 0, -1]), (20, [2], [50, 2, 0, 157, 11, 0, 3, 2, 0, 157, 2, 0, 11]), (20, [6, 2], [30, -4001, -1, 0, 0, -2, 1, 11])], [], [(0, 0, 4001, [])], [(20, [2, 5], [50, 2, 0, 157, 11, 2, 7, 0, 3, 2, 0, 157, 1, 1, 1, 3, 2, 0, 11, 1, 1]), (20, [27, 5], [30, -4001, -1, 0, 0, -2, 0, 0]), (24, [0, 2], [])], [(27, 6, 0, 0)], [(25, 6, 0, 0), (19, 6, 0, 0), (11, 6, 0, 0)])
theorem oo_Mo_styleTokens_127 {kA : Nat → ClassId} : or_ok kA GG o_Mo_styleTokens_127 := by
  intro A ta ws vs hD hth hl hk hds hf
  have hl : vs.length = 27 := hl
  have hk : ∀ q ∈ ([(0, (2, 0, 0, [150])), (2, (2, 0, 0, [150])), (5, (0, 0, 1999, [])), (6, (0, 0, 4001, [])), (7, (0, 0, 255, [])), (8, (0, 32, 32, [])), (9, (0, 0, 255, [])), (10, (0, 10, 10, [])), (11, (0, 0, 4001, [])), (12, (0, 43, 43, [])), (19, (0, 0, 4001, [])), (20, (0, 123, 123, [])), (21, (0, 125, 125, [])), (22, (0, 40, 40, [])), (23, (0, 41, 41, [])), (24, (0, 43, 43, [])), (25, (0, 0, 4001, []))] : List (Nat × tv_T)), tv_ok ta q.2 (n_v vs q.1) := hk
  obtain ⟨t0, hk⟩ := List.forall_mem_cons.mp hk
  have t0 : tv_ok ta (2, 0, 0, [150]) (n_v vs 0) := t0
  have r0 : ta (v_ad (n_v vs 0)) = some 150 := tv_rg t0
  obtain ⟨t2, hk⟩ := List.forall_mem_cons.mp hk
  have t2 : tv_ok ta (2, 0, 0, [150]) (n_v vs 2) := t2
  have r2 : ta (v_ad (n_v vs 2)) = some 150 := tv_rg t2
  obtain ⟨t5, hk⟩ := List.forall_mem_cons.mp hk
  have t5 : tv_ok ta (0, 0, 1999, []) (n_v vs 5) := t5
  have k5 : 0 ≤ v_iv (n_v vs 5) ∧ v_iv (n_v vs 5) ≤ 1999 := tv_rng t5
  obtain ⟨t6, hk⟩ := List.forall_mem_cons.mp hk
  have t6 : tv_ok ta (0, 0, 4001, []) (n_v vs 6) := t6
  have k6 : 0 ≤ v_iv (n_v vs 6) ∧ v_iv (n_v vs 6) ≤ 4001 := tv_rng t6
  obtain ⟨t7, hk⟩ := List.forall_mem_cons.mp hk
  have t7 : tv_ok ta (0, 0, 255, []) (n_v vs 7) := t7
  have k7 : 0 ≤ v_iv (n_v vs 7) ∧ v_iv (n_v vs 7) ≤ 255 := tv_rng t7
  obtain ⟨t8, hk⟩ := List.forall_mem_cons.mp hk
  have t8 : tv_ok ta (0, 32, 32, []) (n_v vs 8) := t8
  have k8 : 32 ≤ v_iv (n_v vs 8) ∧ v_iv (n_v vs 8) ≤ 32 := tv_rng t8
  obtain ⟨t9, hk⟩ := List.forall_mem_cons.mp hk
  have t9 : tv_ok ta (0, 0, 255, []) (n_v vs 9) := t9
  have k9 : 0 ≤ v_iv (n_v vs 9) ∧ v_iv (n_v vs 9) ≤ 255 := tv_rng t9
  obtain ⟨t10, hk⟩ := List.forall_mem_cons.mp hk
  have t10 : tv_ok ta (0, 10, 10, []) (n_v vs 10) := t10
  have k10 : 10 ≤ v_iv (n_v vs 10) ∧ v_iv (n_v vs 10) ≤ 10 := tv_rng t10
  obtain ⟨t11, hk⟩ := List.forall_mem_cons.mp hk
  have t11 : tv_ok ta (0, 0, 4001, []) (n_v vs 11) := t11
  have k11 : 0 ≤ v_iv (n_v vs 11) ∧ v_iv (n_v vs 11) ≤ 4001 := tv_rng t11
  obtain ⟨t12, hk⟩ := List.forall_mem_cons.mp hk
  have t12 : tv_ok ta (0, 43, 43, []) (n_v vs 12) := t12
  have k12 : 43 ≤ v_iv (n_v vs 12) ∧ v_iv (n_v vs 12) ≤ 43 := tv_rng t12
  obtain ⟨t19, hk⟩ := List.forall_mem_cons.mp hk
  have t19 : tv_ok ta (0, 0, 4001, []) (n_v vs 19) := t19
  have k19 : 0 ≤ v_iv (n_v vs 19) ∧ v_iv (n_v vs 19) ≤ 4001 := tv_rng t19
  obtain ⟨t20, hk⟩ := List.forall_mem_cons.mp hk
  have t20 : tv_ok ta (0, 123, 123, []) (n_v vs 20) := t20
  have k20 : 123 ≤ v_iv (n_v vs 20) ∧ v_iv (n_v vs 20) ≤ 123 := tv_rng t20
  obtain ⟨t21, hk⟩ := List.forall_mem_cons.mp hk
  have t21 : tv_ok ta (0, 125, 125, []) (n_v vs 21) := t21
  have k21 : 125 ≤ v_iv (n_v vs 21) ∧ v_iv (n_v vs 21) ≤ 125 := tv_rng t21
  obtain ⟨t22, hk⟩ := List.forall_mem_cons.mp hk
  have t22 : tv_ok ta (0, 40, 40, []) (n_v vs 22) := t22
  have k22 : 40 ≤ v_iv (n_v vs 22) ∧ v_iv (n_v vs 22) ≤ 40 := tv_rng t22
  obtain ⟨t23, hk⟩ := List.forall_mem_cons.mp hk
  have t23 : tv_ok ta (0, 41, 41, []) (n_v vs 23) := t23
  have k23 : 41 ≤ v_iv (n_v vs 23) ∧ v_iv (n_v vs 23) ≤ 41 := tv_rng t23
  obtain ⟨t24, hk⟩ := List.forall_mem_cons.mp hk
  have t24 : tv_ok ta (0, 43, 43, []) (n_v vs 24) := t24
  have k24 : 43 ≤ v_iv (n_v vs 24) ∧ v_iv (n_v vs 24) ≤ 43 := tv_rng t24
  obtain ⟨t25, hk⟩ := List.forall_mem_cons.mp hk
  have t25 : tv_ok ta (0, 0, 4001, []) (n_v vs 25) := t25
  have k25 : 0 ≤ v_iv (n_v vs 25) ∧ v_iv (n_v vs 25) ≤ 4001 := tv_rng t25
  have hds : ∀ q ∈ ([(25, 6, 0, 0), (19, 6, 0, 0), (11, 6, 0, 0)] : List of_T), n_iv vs q.2.1 + q.2.2.1 ≤ n_iv vs q.1 ∧ n_iv vs q.1 ≤ n_iv vs q.2.1 + q.2.2.2 := hds
  obtain ⟨d0, hds⟩ := List.forall_mem_cons.mp hds
  have d0 : v_iv (n_v vs 6) + 0 ≤ v_iv (n_v vs 25) ∧ v_iv (n_v vs 25) ≤ v_iv (n_v vs 6) + 0 := d0
  obtain ⟨d1, hds⟩ := List.forall_mem_cons.mp hds
  have d1 : v_iv (n_v vs 6) + 0 ≤ v_iv (n_v vs 19) ∧ v_iv (n_v vs 19) ≤ v_iv (n_v vs 6) + 0 := d1
  obtain ⟨d2, hds⟩ := List.forall_mem_cons.mp hds
  have d2 : v_iv (n_v vs 6) + 0 ≤ v_iv (n_v vs 11) ∧ v_iv (n_v vs 11) ≤ v_iv (n_v vs 6) + 0 := d2
  have hf : fc_ok [(20, [2, 5], [50, 2, 0, 157, 11, 2, 7, 0, 3, 2, 0, 157, 1, 1, 1, 3, 2, 0, 11, 1, 1]), (20, [25, 5], [30, -4001, -1, 0, 0, -2, 0, 0]), (24, [0, 2], []), (7, [12, 24], [0]), (7, [12, 23], [1]), (7, [12, 22], [1]), (7, [12, 21], [1]), (7, [12, 20], [1]), (20, [2, 5], [50, 2, 0, 157, 11, 2, 7, 0, 3, 2, 0, 157, 1, 1, 1, 3, 2, 0, 11, 1, 1]), (20, [19, 5], [30, -4001, -1, 0, 0, -2, 0, 0]), (8, [12], [3]), (9, [5, 2], [11]), (20, [5, 2, 12], [50, 1, 1, 1010, 1001, 4, 11, 0, 6, 4, 2, 1, 0, 0, 1, 2, 1, 10, 1, 2, 1, 2, 9, 5, 3, 1, 1, 1, 0, 0, 256]), (20, [2, 5, 12], [50, 1, 0, 10, 4, 7, 0, 3, 2, 0, 10, 1, 1, 1, 2, 1, 2, 0, -1]), (20, [2], [50, 2, 0, 157, 11, 0, 3, 2, 0, 157, 2, 0, 11]), (20, [11, 2], [30, -4001, -1, 0, 0, -2, 1, 11]), (7, [9, 10], [1]), (20, [5, 2, 9], [50, 1, 1, 1010, 1001, 4, 11, 0, 6, 4, 2, 1, 0, 0, 1, 2, 1, 10, 1, 2, 1, 2, 9, 5, 3, 1, 1, 1, 0, 0, 256]), (20, [2, 5, 9], [50, 1, 0, 10, 4, 7, 0, 3, 2, 0, 10, 1, 1, 1, 2, 1, 2, 0, -1]), (7, [7, 8], [1]), (20, [5, 2, 7], [50, 1, 1, 1010, 1001, 4, 11, 0, 6, 4, 2, 1, 0, 0, 1, 2, 1, 10, 1, 2, 1, 2, 9, 5, 3, 1, 1, 1, 0, 0, 256]), (20, [2, 5, 7], [50, 1, 0, 10, 4, 7, 0, 3, 2, 0, 10, 1, 1, 1, 2, 1, 2, 0, -1]), (20, [2], [50, 2, 0, 157, 11, 0, 3, 2, 0, 157, 2, 0, 11]), (20, [6, 2], [30, -4001, -1, 0, 0, -2, 1, 11])] ta ws vs := hf
  obtain ⟨f0, hf⟩ := fc_un (by decide) hf
  have f0 : (w_fi ws (n_v vs 2) 157 ≤ v_iv (n_v vs 5)) ∧ (w_fi ws (n_v vs 2) 11 = v_iv (n_v vs 5)) := f0
  obtain ⟨f1, hf⟩ := fc_un (by decide) hf
  have f1 : (-1) * v_iv (n_v vs 25) + ((-2) * v_iv (n_v vs 5) + 0) ≤ (-4001) := f1
  obtain ⟨f2, hf⟩ := fc_un (by decide) hf
  have f2 : n_v vs 0 = n_v vs 2 := f2
  obtain ⟨f3, hf⟩ := fc_un (by decide) hf
  have f3 : v_iv (n_v vs 12) = v_iv (n_v vs 24) := f3
  obtain ⟨f4, hf⟩ := fc_un (by decide) hf
  have f4 : v_iv (n_v vs 12) ≠ v_iv (n_v vs 23) := f4
  obtain ⟨f5, hf⟩ := fc_un (by decide) hf
  have f5 : v_iv (n_v vs 12) ≠ v_iv (n_v vs 22) := f5
  obtain ⟨f6, hf⟩ := fc_un (by decide) hf
  have f6 : v_iv (n_v vs 12) ≠ v_iv (n_v vs 21) := f6
  obtain ⟨f7, hf⟩ := fc_un (by decide) hf
  have f7 : v_iv (n_v vs 12) ≠ v_iv (n_v vs 20) := f7
  obtain ⟨f8, hf⟩ := fc_un (by decide) hf
  have f8 : (w_fi ws (n_v vs 2) 157 ≤ v_iv (n_v vs 5)) ∧ (w_fi ws (n_v vs 2) 11 = v_iv (n_v vs 5)) := f8
  obtain ⟨f9, hf⟩ := fc_un (by decide) hf
  have f9 : (-1) * v_iv (n_v vs 19) + ((-2) * v_iv (n_v vs 5) + 0) ≤ (-4001) := f9
  obtain ⟨f10, hf⟩ := fc_un (by decide) hf
  have f10 : 0 ≤ v_iv (n_v vs 12) := f10
  obtain ⟨f11, hf⟩ := fc_un (by decide) hf
  have f11 : n_v vs 5 = w_fd ws (v_ad (n_v vs 2)) 11 := f11
  obtain ⟨f12, hf⟩ := fc_un (by decide) hf
  have f12 : ((v_iv (n_v vs 5) + 1) ≤ w_fi ws (n_v vs 2) 10) → (v_iv (n_v vs 12) = (w_ei ws (w_ar ws (n_v vs 2) 1) (v_iv (n_v vs 5)) % 256)) := f12
  obtain ⟨f13, hf⟩ := fc_un (by decide) hf
  have f13 : (w_fi ws (n_v vs 2) 10 ≤ v_iv (n_v vs 5)) → (v_iv (n_v vs 12) = (-1)) := f13
  obtain ⟨f14, hf⟩ := fc_un (by decide) hf
  have f14 : w_fi ws (n_v vs 2) 157 ≤ w_fi ws (n_v vs 2) 11 := f14
  obtain ⟨f15, hf⟩ := fc_un (by decide) hf
  have f15 : (-1) * v_iv (n_v vs 11) + ((-2) * w_fi ws (n_v vs 2) 11 + 0) ≤ (-4001) := f15
  obtain ⟨f16, hf⟩ := fc_un (by decide) hf
  have f16 : v_iv (n_v vs 9) ≠ v_iv (n_v vs 10) := f16
  obtain ⟨f17, hf⟩ := fc_un (by decide) hf
  have f17 : ((v_iv (n_v vs 5) + 1) ≤ w_fi ws (n_v vs 2) 10) → (v_iv (n_v vs 9) = (w_ei ws (w_ar ws (n_v vs 2) 1) (v_iv (n_v vs 5)) % 256)) := f17
  obtain ⟨f18, hf⟩ := fc_un (by decide) hf
  have f18 : (w_fi ws (n_v vs 2) 10 ≤ v_iv (n_v vs 5)) → (v_iv (n_v vs 9) = (-1)) := f18
  obtain ⟨f19, hf⟩ := fc_un (by decide) hf
  have f19 : v_iv (n_v vs 7) ≠ v_iv (n_v vs 8) := f19
  obtain ⟨f20, hf⟩ := fc_un (by decide) hf
  have f20 : ((v_iv (n_v vs 5) + 1) ≤ w_fi ws (n_v vs 2) 10) → (v_iv (n_v vs 7) = (w_ei ws (w_ar ws (n_v vs 2) 1) (v_iv (n_v vs 5)) % 256)) := f20
  obtain ⟨f21, hf⟩ := fc_un (by decide) hf
  have f21 : (w_fi ws (n_v vs 2) 10 ≤ v_iv (n_v vs 5)) → (v_iv (n_v vs 7) = (-1)) := f21
  obtain ⟨f22, hf⟩ := fc_un (by decide) hf
  have f22 : w_fi ws (n_v vs 2) 157 ≤ w_fi ws (n_v vs 2) 11 := f22
  obtain ⟨f23, hf⟩ := fc_un (by decide) hf
  have f23 : (-1) * v_iv (n_v vs 6) + ((-2) * w_fi ws (n_v vs 2) 11 + 0) ≤ (-4001) := f23
  have q2 : n_v vs 2 = n_v vs 0 := f2.symm
  rw [q2] at f0
  rw [q2] at f8
  rw [q2] at f11
  rw [q2] at f12
  rw [q2] at f13
  rw [q2] at f14
  rw [q2] at f15
  rw [q2] at f17
  rw [q2] at f18
  rw [q2] at f20
  rw [q2] at f21
  rw [q2] at f22
  rw [q2] at f23
  have cr_0_1 : ta (w_ar ws (n_v vs 0) 1) = some 151 := tv_rg (th_fd hD hth r0 (g := GG_150) rfl (k := 1) (t := (2, 0, 0, [151])) rfl rfl)
  have g11 : v_iv (n_v vs 5) = w_fi ws (n_v vs 0) 11 := congrArg v_iv f11
  have hK_0_1 : ∀ j : Int, 0 ≤ j → j < 2000 → (-128) ≤ w_ei ws (w_ar ws (n_v vs 0) 1) j ∧ w_ei ws (w_ar ws (n_v vs 0) 1) j ≤ 127 := fun j h0 h1 => th_el hD hth cr_0_1 (kd := 1) (n := 2000) (m := 2000) (lo := (-128)) (hi := 127) (rs := []) (L := []) rfl (by decide) (j := j.toNat) (by omega)
  have kz_0_10 : 0 ≤ w_fi ws (n_v vs 0) 10 ∧ w_fi ws (n_v vs 0) 10 ≤ 2000 := tv_rng (th_fd hD hth r0 (g := GG_150) rfl (k := 10) (t := (0, 0, 2000, [])) rfl rfl)
  have kz_0_11 : 0 ≤ w_fi ws (n_v vs 0) 11 ∧ w_fi ws (n_v vs 0) 11 ≤ 2000 := tv_rng (th_fd hD hth r0 (g := GG_150) rfl (k := 11) (t := (0, 0, 2000, [])) rfl rfl)
  have kz_0_157 : 0 ≤ w_fi ws (n_v vs 0) 157 ∧ w_fi ws (n_v vs 0) 157 ≤ 2010 := tv_rng (th_fd hD hth r0 (g := GG_150) rfl (k := 157) (t := (0, 0, 2010, [])) rfl rfl)
  obtain ⟨x, ex, hx⟩ := iv_ex (ta := ta) (lo := 0) (hi := 4001) (z := 0 + (1 * v_iv (n_v vs 6) + 0)) (by omega) (by omega) (by decide) (by decide)
  have ex2 : v_iv (Value.int x) = 0 + (1 * v_iv (n_v vs 6) + 0) := ex
  have ex3 : 0 ≤ v_iv (Value.int x) ∧ v_iv (Value.int x) ≤ 4001 := tv_rng hx
  have e_0 : n_v (vs ++ [Value.int x]) 0 = n_v vs 0 := n_v_old (by rw [hl]; decide)
  have e_2 : n_v (vs ++ [Value.int x]) 2 = n_v vs 2 := n_v_old (by rw [hl]; decide)
  have e_5 : n_v (vs ++ [Value.int x]) 5 = n_v vs 5 := n_v_old (by rw [hl]; decide)
  have e_27 : n_v (vs ++ [Value.int x]) 27 = Value.int x := n_v_new hl
  have nf0 : fc_1 (20, [2, 5], [50, 2, 0, 157, 11, 2, 7, 0, 3, 2, 0, 157, 1, 1, 1, 3, 2, 0, 11, 1, 1]) ws (vs ++ [Value.int x]) := by
    refine ⟨fun n hn => ?_, ?_⟩
    · have hn : n ∈ [2, 5] := hn
      rw [List.length_append, hl]
      simp only [List.mem_cons, List.not_mem_nil, or_false] at hn
      show n < 27 + 1; omega
    · show (w_fi ws (n_v (vs ++ [Value.int x]) 2) 157 ≤ v_iv (n_v (vs ++ [Value.int x]) 5)) ∧ (w_fi ws (n_v (vs ++ [Value.int x]) 2) 11 = v_iv (n_v (vs ++ [Value.int x]) 5))
      rw [e_2]
      rw [e_5]
      rw [q2]
      first | omega | grind
  have nf1 : fc_1 (20, [27, 5], [30, -4001, -1, 0, 0, -2, 0, 0]) ws (vs ++ [Value.int x]) := by
    refine ⟨fun n hn => ?_, ?_⟩
    · have hn : n ∈ [27, 5] := hn
      rw [List.length_append, hl]
      simp only [List.mem_cons, List.not_mem_nil, or_false] at hn
      show n < 27 + 1; omega
    · show (-1) * v_iv (n_v (vs ++ [Value.int x]) 27) + ((-2) * v_iv (n_v (vs ++ [Value.int x]) 5) + 0) ≤ (-4001)
      rw [e_5]
      rw [e_27]
      omega
  have nf2 : fc_1 (24, [0, 2], []) ws (vs ++ [Value.int x]) := by
    refine ⟨fun n hn => ?_, ?_⟩
    · have hn : n ∈ [0, 2] := hn
      rw [List.length_append, hl]
      simp only [List.mem_cons, List.not_mem_nil, or_false] at hn
      show n < 27 + 1; omega
    · show n_v (vs ++ [Value.int x]) 0 = n_v (vs ++ [Value.int x]) 2
      first | rfl | simp only [e_0, e_2, q2]
  obtain ⟨x0, e0, _, _⟩ := tv_int t6 rfl
  have e1 : v_iv (n_v vs 6) = x0.toInt := by rw [e0]; rfl
  have ho : sy_ofs (vs ++ [Value.int x]) (27, 6, 0, 0) := by
    refine ⟨x, x0, by rw [List.getElem?_append_right (by rw [hl]; decide), hl]; rfl, ?_, ?_, ?_⟩
    · rw [List.getElem?_append_left (by rw [hl]; decide)]; exact n_v_some (by rw [hl]; decide) e0
    · show x0.toInt + 0 ≤ x.toInt; omega
    · show x.toInt ≤ x0.toInt + 0; omega
  exact ⟨fun q hq => (by cases hq), [Value.int x], ag_one hx, List.forall_mem_cons.mpr ⟨⟨by decide, nf0⟩, List.forall_mem_cons.mpr ⟨⟨by decide, nf1⟩, List.forall_mem_cons.mpr ⟨⟨by decide, nf2⟩, (fun _ h => (by cases h))⟩⟩⟩, List.forall_mem_cons.mpr ⟨ho, (fun _ h => (by cases h))⟩⟩
def o_Mo_styleTokens_128 : or_T := (334, 26, [(0, (2, 0, 0, [150])), (2, (2, 0, 0, [150])), (5, (0, 0, 1999, [])), (6, (0, 0, 4001, [])), (7, (0, 0, 255, [])), (8, (0, 32, 32, [])), (9, (0, 0, 255, [])), (10, (0, 10, 10, [])), (11, (0, 0, 4001, [])), (12, (0, 45, 45, [])), (19, (0, 0, 4001, [])), (20, (0, 123, 123, [])), (21, (0, 125, 125, [])), (22, (0, 40, 40, [])), (23, (0, 41, 41, [])), (24, (0, 43, 43, [])), (25, (0, 45, 45, []))], [(7, [12, 25], [0]), (7, [12, 24], [1]), (7, [12, 23], [1]), (7, [12, 22], [1]), (7, [12, 21], [1]), (7, [12, 20], [1]), (20, [2, 5], [50, 2, 0, 157, 11, 2, 7, 0, 3, 2, 0, 157, 1, 1, 1, 3, 2, 0, 11, 1, 1]), (20, [19, 5], [30, -4001, -1, 0, 0, -2, 0, 0]), (24, [0, 2], []), (8, [12], [3]), (9, [5, 2], [11]), (20, [5, 2, 12], [50, 1, 1, 1010, 1001, 4, 11, 0, 6, 4, 2, 1, 0, 0, 1, 2, 1, 10, 1, 2, 1, 2, 9, 5, 3, 1, 1, 1, 0, 0, 256]), (20, [2, 5, 12], [50, 1, 0, 10, 4, 7, 0, 3, 2, 0, 10, 1, 1, 1, 2, 1, 2, 0, -1]), (20, [2], [50, 2, 0, 157, 11, 0, 3, 2, 0, 157, 2, 0, 11]), (20, [11, 2], [30, -4001, -1, 0, 0, -2, 1, 11]), (7, [9, 10], [1]), (20, [5, 2, 9], [50, 1, 1, 1010, 1001, 4, 11, 0, 6, 4, 2, 1, 0, 0, 1, 2, 1, 10, 1, 2, 1, 2, 9, 5, 3, 1, 1, 1, 0, 0, 256]), (20, [2, 5, 9], [50, 1, 0, 10, 4, 7, 0, 3, 2, 0, 10, 1, 1, 1, 2, 1, 2, 0, -1]), (7, [7, 8], [1]), (20, [5, 2, 7], [50, 1, 1, 1010, 1001, 4, 11, 0, 6, 4, 2, 1, 0, 0, 1, 2, 1, 10, 1, 2, 1, 2, 9, 5, 3, 1, 1, 1, 0, 0, 256]), (20, [2, 5, 7], [50, 1, 0, 10, 4, 7, 0, 3, 2, 0, 10, 1, 1, 1, 2, 1, 2, 0, -1]), (20, [2], [50, 2, 0, 157, 11, 0, 3, 2, 0, 157, 2, 0, 11]), (20, [6, 2], [30, -4001, -1, 0, 0, -2, 1, 11])], [], [(0, 0, 4001, [])], [(20, [2, 5], [50, 2, 0, 157, 11, 2, 7, 0, 3, 2, 0, 157, 1, 1, 1, 3, 2, 0, 11, 1, 1]), (20, [26, 5], [30, -4001, -1, 0, 0, -2, 0, 0]), (24, [0, 2], [])], [(26, 6, 0, 0)], [(19, 6, 0, 0), (11, 6, 0, 0)])
theorem oo_Mo_styleTokens_128 {kA : Nat → ClassId} : or_ok kA GG o_Mo_styleTokens_128 := by
  intro A ta ws vs hD hth hl hk hds hf
  have hl : vs.length = 26 := hl
  have hk : ∀ q ∈ ([(0, (2, 0, 0, [150])), (2, (2, 0, 0, [150])), (5, (0, 0, 1999, [])), (6, (0, 0, 4001, [])), (7, (0, 0, 255, [])), (8, (0, 32, 32, [])), (9, (0, 0, 255, [])), (10, (0, 10, 10, [])), (11, (0, 0, 4001, [])), (12, (0, 45, 45, [])), (19, (0, 0, 4001, [])), (20, (0, 123, 123, [])), (21, (0, 125, 125, [])), (22, (0, 40, 40, [])), (23, (0, 41, 41, [])), (24, (0, 43, 43, [])), (25, (0, 45, 45, []))] : List (Nat × tv_T)), tv_ok ta q.2 (n_v vs q.1) := hk
  obtain ⟨t0, hk⟩ := List.forall_mem_cons.mp hk
  have t0 : tv_ok ta (2, 0, 0, [150]) (n_v vs 0) := t0
  have r0 : ta (v_ad (n_v vs 0)) = some 150 := tv_rg t0
  obtain ⟨t2, hk⟩ := List.forall_mem_cons.mp hk
  have t2 : tv_ok ta (2, 0, 0, [150]) (n_v vs 2) := t2
  have r2 : ta (v_ad (n_v vs 2)) = some 150 := tv_rg t2
  obtain ⟨t5, hk⟩ := List.forall_mem_cons.mp hk
  have t5 : tv_ok ta (0, 0, 1999, []) (n_v vs 5) := t5
  have k5 : 0 ≤ v_iv (n_v vs 5) ∧ v_iv (n_v vs 5) ≤ 1999 := tv_rng t5
  obtain ⟨t6, hk⟩ := List.forall_mem_cons.mp hk
  have t6 : tv_ok ta (0, 0, 4001, []) (n_v vs 6) := t6
  have k6 : 0 ≤ v_iv (n_v vs 6) ∧ v_iv (n_v vs 6) ≤ 4001 := tv_rng t6
  obtain ⟨t7, hk⟩ := List.forall_mem_cons.mp hk
  have t7 : tv_ok ta (0, 0, 255, []) (n_v vs 7) := t7
  have k7 : 0 ≤ v_iv (n_v vs 7) ∧ v_iv (n_v vs 7) ≤ 255 := tv_rng t7
  obtain ⟨t8, hk⟩ := List.forall_mem_cons.mp hk
  have t8 : tv_ok ta (0, 32, 32, []) (n_v vs 8) := t8
  have k8 : 32 ≤ v_iv (n_v vs 8) ∧ v_iv (n_v vs 8) ≤ 32 := tv_rng t8
  obtain ⟨t9, hk⟩ := List.forall_mem_cons.mp hk
  have t9 : tv_ok ta (0, 0, 255, []) (n_v vs 9) := t9
  have k9 : 0 ≤ v_iv (n_v vs 9) ∧ v_iv (n_v vs 9) ≤ 255 := tv_rng t9
  obtain ⟨t10, hk⟩ := List.forall_mem_cons.mp hk
  have t10 : tv_ok ta (0, 10, 10, []) (n_v vs 10) := t10
  have k10 : 10 ≤ v_iv (n_v vs 10) ∧ v_iv (n_v vs 10) ≤ 10 := tv_rng t10
  obtain ⟨t11, hk⟩ := List.forall_mem_cons.mp hk
  have t11 : tv_ok ta (0, 0, 4001, []) (n_v vs 11) := t11
  have k11 : 0 ≤ v_iv (n_v vs 11) ∧ v_iv (n_v vs 11) ≤ 4001 := tv_rng t11
  obtain ⟨t12, hk⟩ := List.forall_mem_cons.mp hk
  have t12 : tv_ok ta (0, 45, 45, []) (n_v vs 12) := t12
  have k12 : 45 ≤ v_iv (n_v vs 12) ∧ v_iv (n_v vs 12) ≤ 45 := tv_rng t12
  obtain ⟨t19, hk⟩ := List.forall_mem_cons.mp hk
  have t19 : tv_ok ta (0, 0, 4001, []) (n_v vs 19) := t19
  have k19 : 0 ≤ v_iv (n_v vs 19) ∧ v_iv (n_v vs 19) ≤ 4001 := tv_rng t19
  obtain ⟨t20, hk⟩ := List.forall_mem_cons.mp hk
  have t20 : tv_ok ta (0, 123, 123, []) (n_v vs 20) := t20
  have k20 : 123 ≤ v_iv (n_v vs 20) ∧ v_iv (n_v vs 20) ≤ 123 := tv_rng t20
  obtain ⟨t21, hk⟩ := List.forall_mem_cons.mp hk
  have t21 : tv_ok ta (0, 125, 125, []) (n_v vs 21) := t21
  have k21 : 125 ≤ v_iv (n_v vs 21) ∧ v_iv (n_v vs 21) ≤ 125 := tv_rng t21
  obtain ⟨t22, hk⟩ := List.forall_mem_cons.mp hk
  have t22 : tv_ok ta (0, 40, 40, []) (n_v vs 22) := t22
  have k22 : 40 ≤ v_iv (n_v vs 22) ∧ v_iv (n_v vs 22) ≤ 40 := tv_rng t22
  obtain ⟨t23, hk⟩ := List.forall_mem_cons.mp hk
  have t23 : tv_ok ta (0, 41, 41, []) (n_v vs 23) := t23
  have k23 : 41 ≤ v_iv (n_v vs 23) ∧ v_iv (n_v vs 23) ≤ 41 := tv_rng t23
  obtain ⟨t24, hk⟩ := List.forall_mem_cons.mp hk
  have t24 : tv_ok ta (0, 43, 43, []) (n_v vs 24) := t24
  have k24 : 43 ≤ v_iv (n_v vs 24) ∧ v_iv (n_v vs 24) ≤ 43 := tv_rng t24
  obtain ⟨t25, hk⟩ := List.forall_mem_cons.mp hk
  have t25 : tv_ok ta (0, 45, 45, []) (n_v vs 25) := t25
  have k25 : 45 ≤ v_iv (n_v vs 25) ∧ v_iv (n_v vs 25) ≤ 45 := tv_rng t25
  have hds : ∀ q ∈ ([(19, 6, 0, 0), (11, 6, 0, 0)] : List of_T), n_iv vs q.2.1 + q.2.2.1 ≤ n_iv vs q.1 ∧ n_iv vs q.1 ≤ n_iv vs q.2.1 + q.2.2.2 := hds
  obtain ⟨d0, hds⟩ := List.forall_mem_cons.mp hds
  have d0 : v_iv (n_v vs 6) + 0 ≤ v_iv (n_v vs 19) ∧ v_iv (n_v vs 19) ≤ v_iv (n_v vs 6) + 0 := d0
  obtain ⟨d1, hds⟩ := List.forall_mem_cons.mp hds
  have d1 : v_iv (n_v vs 6) + 0 ≤ v_iv (n_v vs 11) ∧ v_iv (n_v vs 11) ≤ v_iv (n_v vs 6) + 0 := d1
  have hf : fc_ok [(7, [12, 25], [0]), (7, [12, 24], [1]), (7, [12, 23], [1]), (7, [12, 22], [1]), (7, [12, 21], [1]), (7, [12, 20], [1]), (20, [2, 5], [50, 2, 0, 157, 11, 2, 7, 0, 3, 2, 0, 157, 1, 1, 1, 3, 2, 0, 11, 1, 1]), (20, [19, 5], [30, -4001, -1, 0, 0, -2, 0, 0]), (24, [0, 2], []), (8, [12], [3]), (9, [5, 2], [11]), (20, [5, 2, 12], [50, 1, 1, 1010, 1001, 4, 11, 0, 6, 4, 2, 1, 0, 0, 1, 2, 1, 10, 1, 2, 1, 2, 9, 5, 3, 1, 1, 1, 0, 0, 256]), (20, [2, 5, 12], [50, 1, 0, 10, 4, 7, 0, 3, 2, 0, 10, 1, 1, 1, 2, 1, 2, 0, -1]), (20, [2], [50, 2, 0, 157, 11, 0, 3, 2, 0, 157, 2, 0, 11]), (20, [11, 2], [30, -4001, -1, 0, 0, -2, 1, 11]), (7, [9, 10], [1]), (20, [5, 2, 9], [50, 1, 1, 1010, 1001, 4, 11, 0, 6, 4, 2, 1, 0, 0, 1, 2, 1, 10, 1, 2, 1, 2, 9, 5, 3, 1, 1, 1, 0, 0, 256]), (20, [2, 5, 9], [50, 1, 0, 10, 4, 7, 0, 3, 2, 0, 10, 1, 1, 1, 2, 1, 2, 0, -1]), (7, [7, 8], [1]), (20, [5, 2, 7], [50, 1, 1, 1010, 1001, 4, 11, 0, 6, 4, 2, 1, 0, 0, 1, 2, 1, 10, 1, 2, 1, 2, 9, 5, 3, 1, 1, 1, 0, 0, 256]), (20, [2, 5, 7], [50, 1, 0, 10, 4, 7, 0, 3, 2, 0, 10, 1, 1, 1, 2, 1, 2, 0, -1]), (20, [2], [50, 2, 0, 157, 11, 0, 3, 2, 0, 157, 2, 0, 11]), (20, [6, 2], [30, -4001, -1, 0, 0, -2, 1, 11])] ta ws vs := hf
  obtain ⟨f0, hf⟩ := fc_un (by decide) hf
  have f0 : v_iv (n_v vs 12) = v_iv (n_v vs 25) := f0
  obtain ⟨f1, hf⟩ := fc_un (by decide) hf
  have f1 : v_iv (n_v vs 12) ≠ v_iv (n_v vs 24) := f1
  obtain ⟨f2, hf⟩ := fc_un (by decide) hf
  have f2 : v_iv (n_v vs 12) ≠ v_iv (n_v vs 23) := f2
  obtain ⟨f3, hf⟩ := fc_un (by decide) hf
  have f3 : v_iv (n_v vs 12) ≠ v_iv (n_v vs 22) := f3
  obtain ⟨f4, hf⟩ := fc_un (by decide) hf
  have f4 : v_iv (n_v vs 12) ≠ v_iv (n_v vs 21) := f4
  obtain ⟨f5, hf⟩ := fc_un (by decide) hf
  have f5 : v_iv (n_v vs 12) ≠ v_iv (n_v vs 20) := f5
  obtain ⟨f6, hf⟩ := fc_un (by decide) hf
  have f6 : (w_fi ws (n_v vs 2) 157 ≤ v_iv (n_v vs 5)) ∧ (w_fi ws (n_v vs 2) 11 = v_iv (n_v vs 5)) := f6
  obtain ⟨f7, hf⟩ := fc_un (by decide) hf
  have f7 : (-1) * v_iv (n_v vs 19) + ((-2) * v_iv (n_v vs 5) + 0) ≤ (-4001) := f7
  obtain ⟨f8, hf⟩ := fc_un (by decide) hf
  have f8 : n_v vs 0 = n_v vs 2 := f8
  obtain ⟨f9, hf⟩ := fc_un (by decide) hf
  have f9 : 0 ≤ v_iv (n_v vs 12) := f9
  obtain ⟨f10, hf⟩ := fc_un (by decide) hf
  have f10 : n_v vs 5 = w_fd ws (v_ad (n_v vs 2)) 11 := f10
  obtain ⟨f11, hf⟩ := fc_un (by decide) hf
  have f11 : ((v_iv (n_v vs 5) + 1) ≤ w_fi ws (n_v vs 2) 10) → (v_iv (n_v vs 12) = (w_ei ws (w_ar ws (n_v vs 2) 1) (v_iv (n_v vs 5)) % 256)) := f11
  obtain ⟨f12, hf⟩ := fc_un (by decide) hf
  have f12 : (w_fi ws (n_v vs 2) 10 ≤ v_iv (n_v vs 5)) → (v_iv (n_v vs 12) = (-1)) := f12
  obtain ⟨f13, hf⟩ := fc_un (by decide) hf
  have f13 : w_fi ws (n_v vs 2) 157 ≤ w_fi ws (n_v vs 2) 11 := f13
  obtain ⟨f14, hf⟩ := fc_un (by decide) hf
  have f14 : (-1) * v_iv (n_v vs 11) + ((-2) * w_fi ws (n_v vs 2) 11 + 0) ≤ (-4001) := f14
  obtain ⟨f15, hf⟩ := fc_un (by decide) hf
  have f15 : v_iv (n_v vs 9) ≠ v_iv (n_v vs 10) := f15
  obtain ⟨f16, hf⟩ := fc_un (by decide) hf
  have f16 : ((v_iv (n_v vs 5) + 1) ≤ w_fi ws (n_v vs 2) 10) → (v_iv (n_v vs 9) = (w_ei ws (w_ar ws (n_v vs 2) 1) (v_iv (n_v vs 5)) % 256)) := f16
  obtain ⟨f17, hf⟩ := fc_un (by decide) hf
  have f17 : (w_fi ws (n_v vs 2) 10 ≤ v_iv (n_v vs 5)) → (v_iv (n_v vs 9) = (-1)) := f17
  obtain ⟨f18, hf⟩ := fc_un (by decide) hf
  have f18 : v_iv (n_v vs 7) ≠ v_iv (n_v vs 8) := f18
  obtain ⟨f19, hf⟩ := fc_un (by decide) hf
  have f19 : ((v_iv (n_v vs 5) + 1) ≤ w_fi ws (n_v vs 2) 10) → (v_iv (n_v vs 7) = (w_ei ws (w_ar ws (n_v vs 2) 1) (v_iv (n_v vs 5)) % 256)) := f19
  obtain ⟨f20, hf⟩ := fc_un (by decide) hf
  have f20 : (w_fi ws (n_v vs 2) 10 ≤ v_iv (n_v vs 5)) → (v_iv (n_v vs 7) = (-1)) := f20
  obtain ⟨f21, hf⟩ := fc_un (by decide) hf
  have f21 : w_fi ws (n_v vs 2) 157 ≤ w_fi ws (n_v vs 2) 11 := f21
  obtain ⟨f22, hf⟩ := fc_un (by decide) hf
  have f22 : (-1) * v_iv (n_v vs 6) + ((-2) * w_fi ws (n_v vs 2) 11 + 0) ≤ (-4001) := f22
  have q2 : n_v vs 2 = n_v vs 0 := f8.symm
  rw [q2] at f6
  rw [q2] at f10
  rw [q2] at f11
  rw [q2] at f12
  rw [q2] at f13
  rw [q2] at f14
  rw [q2] at f16
  rw [q2] at f17
  rw [q2] at f19
  rw [q2] at f20
  rw [q2] at f21
  rw [q2] at f22
  have cr_0_1 : ta (w_ar ws (n_v vs 0) 1) = some 151 := tv_rg (th_fd hD hth r0 (g := GG_150) rfl (k := 1) (t := (2, 0, 0, [151])) rfl rfl)
  have g10 : v_iv (n_v vs 5) = w_fi ws (n_v vs 0) 11 := congrArg v_iv f10
  have hK_0_1 : ∀ j : Int, 0 ≤ j → j < 2000 → (-128) ≤ w_ei ws (w_ar ws (n_v vs 0) 1) j ∧ w_ei ws (w_ar ws (n_v vs 0) 1) j ≤ 127 := fun j h0 h1 => th_el hD hth cr_0_1 (kd := 1) (n := 2000) (m := 2000) (lo := (-128)) (hi := 127) (rs := []) (L := []) rfl (by decide) (j := j.toNat) (by omega)
  have kz_0_10 : 0 ≤ w_fi ws (n_v vs 0) 10 ∧ w_fi ws (n_v vs 0) 10 ≤ 2000 := tv_rng (th_fd hD hth r0 (g := GG_150) rfl (k := 10) (t := (0, 0, 2000, [])) rfl rfl)
  have kz_0_11 : 0 ≤ w_fi ws (n_v vs 0) 11 ∧ w_fi ws (n_v vs 0) 11 ≤ 2000 := tv_rng (th_fd hD hth r0 (g := GG_150) rfl (k := 11) (t := (0, 0, 2000, [])) rfl rfl)
  have kz_0_157 : 0 ≤ w_fi ws (n_v vs 0) 157 ∧ w_fi ws (n_v vs 0) 157 ≤ 2010 := tv_rng (th_fd hD hth r0 (g := GG_150) rfl (k := 157) (t := (0, 0, 2010, [])) rfl rfl)
  obtain ⟨x, ex, hx⟩ := iv_ex (ta := ta) (lo := 0) (hi := 4001) (z := 0 + (1 * v_iv (n_v vs 6) + 0)) (by omega) (by omega) (by decide) (by decide)
  have ex2 : v_iv (Value.int x) = 0 + (1 * v_iv (n_v vs 6) + 0) := ex
  have ex3 : 0 ≤ v_iv (Value.int x) ∧ v_iv (Value.int x) ≤ 4001 := tv_rng hx
  have e_0 : n_v (vs ++ [Value.int x]) 0 = n_v vs 0 := n_v_old (by rw [hl]; decide)
  have e_2 : n_v (vs ++ [Value.int x]) 2 = n_v vs 2 := n_v_old (by rw [hl]; decide)
  have e_5 : n_v (vs ++ [Value.int x]) 5 = n_v vs 5 := n_v_old (by rw [hl]; decide)
  have e_26 : n_v (vs ++ [Value.int x]) 26 = Value.int x := n_v_new hl
  have nf0 : fc_1 (20, [2, 5], [50, 2, 0, 157, 11, 2, 7, 0, 3, 2, 0, 157, 1, 1, 1, 3, 2, 0, 11, 1, 1]) ws (vs ++ [Value.int x]) := by
    refine ⟨fun n hn => ?_, ?_⟩
    · have hn : n ∈ [2, 5] := hn
      rw [List.length_append, hl]
      simp only [List.mem_cons, List.not_mem_nil, or_false] at hn
      show n < 26 + 1; omega
    · show (w_fi ws (n_v (vs ++ [Value.int x]) 2) 157 ≤ v_iv (n_v (vs ++ [Value.int x]) 5)) ∧ (w_fi ws (n_v (vs ++ [Value.int x]) 2) 11 = v_iv (n_v (vs ++ [Value.int x]) 5))
      rw [e_2]
      rw [e_5]
      rw [q2]
      first | omega | grind
  have nf1 : fc_1 (20, [26, 5], [30, -4001, -1, 0, 0, -2, 0, 0]) ws (vs ++ [Value.int x]) := by
    refine ⟨fun n hn => ?_, ?_⟩
    · have hn : n ∈ [26, 5] := hn
      rw [List.length_append, hl]
      simp only [List.mem_cons, List.not_mem_nil, or_false] at hn
      show n < 26 + 1; omega
    · show (-1) * v_iv (n_v (vs ++ [Value.int x]) 26) + ((-2) * v_iv (n_v (vs ++ [Value.int x]) 5) + 0) ≤ (-4001)
      rw [e_5]
      rw [e_26]
      omega
  have nf2 : fc_1 (24, [0, 2], []) ws (vs ++ [Value.int x]) := by
    refine ⟨fun n hn => ?_, ?_⟩
    · have hn : n ∈ [0, 2] := hn
      rw [List.length_append, hl]
      simp only [List.mem_cons, List.not_mem_nil, or_false] at hn
      show n < 26 + 1; omega
    · show n_v (vs ++ [Value.int x]) 0 = n_v (vs ++ [Value.int x]) 2
      first | rfl | simp only [e_0, e_2, q2]
  obtain ⟨x0, e0, _, _⟩ := tv_int t6 rfl
  have e1 : v_iv (n_v vs 6) = x0.toInt := by rw [e0]; rfl
  have ho : sy_ofs (vs ++ [Value.int x]) (26, 6, 0, 0) := by
    refine ⟨x, x0, by rw [List.getElem?_append_right (by rw [hl]; decide), hl]; rfl, ?_, ?_, ?_⟩
    · rw [List.getElem?_append_left (by rw [hl]; decide)]; exact n_v_some (by rw [hl]; decide) e0
    · show x0.toInt + 0 ≤ x.toInt; omega
    · show x.toInt ≤ x0.toInt + 0; omega
  exact ⟨fun q hq => (by cases hq), [Value.int x], ag_one hx, List.forall_mem_cons.mpr ⟨⟨by decide, nf0⟩, List.forall_mem_cons.mpr ⟨⟨by decide, nf1⟩, List.forall_mem_cons.mpr ⟨⟨by decide, nf2⟩, (fun _ h => (by cases h))⟩⟩⟩, List.forall_mem_cons.mpr ⟨ho, (fun _ h => (by cases h))⟩⟩
def o_Mo_styleTokens_129 : or_T := (339, 28, [(0, (2, 0, 0, [150])), (2, (2, 0, 0, [150])), (5, (0, 0, 1999, [])), (6, (0, 0, 4001, [])), (7, (0, 0, 255, [])), (8, (0, 32, 32, [])), (9, (0, 0, 255, [])), (10, (0, 10, 10, [])), (11, (0, 0, 4001, [])), (12, (0, 45, 45, [])), (19, (0, 0, 4001, [])), (20, (0, 123, 123, [])), (21, (0, 125, 125, [])), (22, (0, 40, 40, [])), (23, (0, 41, 41, [])), (24, (0, 43, 43, [])), (25, (0, 45, 45, [])), (26, (0, 0, 4001, []))], [(20, [2, 5], [50, 2, 0, 157, 11, 2, 7, 0, 3, 2, 0, 157, 1, 1, 1, 3, 2, 0, 11, 1, 1]), (20, [26, 5], [30, -4001, -1, 0, 0, -2, 0, 0]), (24, [0, 2], []), (7, [12, 25], [0]), (7, [12, 24], [1]), (7, [12, 23], [1]), (7, [12, 22], [1]), (7, [12, 21], [1]), (7, [12, 20], [1]), (20, [2, 5], [50, 2, 0, 157, 11, 2, 7, 0, 3, 2, 0, 157, 1, 1, 1, 3, 2, 0, 11, 1, 1]), (20, [19, 5], [30, -4001, -1, 0, 0, -2, 0, 0]), (8, [12], [3]), (9, [5, 2], [11]), (20, [5, 2, 12], [50, 1, 1, 1010, 1001, 4, 11, 0, 6, 4, 2, 1, 0, 0, 1, 2, 1, 10, 1, 2, 1, 2, 9, 5, 3, 1, 1, 1, 0, 0, 256]), (20, [2, 5, 12], [50, 1, 0, 10, 4, 7, 0, 3, 2, 0, 10, 1, 1, 1, 2, 1, 2, 0, -1]), (20, [2], [50, 2, 0, 157, 11, 0, 3, 2, 0, 157, 2, 0, 11]), (20, [11, 2], [30, -4001, -1, 0, 0, -2, 1, 11]), (7, [9, 10], [1]), (20, [5, 2, 9], [50, 1, 1, 1010, 1001, 4, 11, 0, 6, 4, 2, 1, 0, 0, 1, 2, 1, 10, 1, 2, 1, 2, 9, 5, 3, 1, 1, 1, 0, 0, 256]), (20, [2, 5, 9], [50, 1, 0, 10, 4, 7, 0, 3, 2, 0, 10, 1, 1, 1, 2, 1, 2, 0, -1]), (7, [7, 8], [1]), (20, [5, 2, 7], [50, 1, 1, 1010, 1001, 4, 11, 0, 6, 4, 2, 1, 0, 0, 1, 2, 1, 10, 1, 2, 1, 2, 9, 5, 3, 1, 1, 1, 0, 0, 256]), (20, [2, 5, 7], [50, 1, 0, 10, 4, 7, 0, 3, 2, 0, 10, 1, 1, 1, 2, 1, 2, 0, -1]), (20, [2], [50, 2, 0, 157, 11, 0, 3, 2, 0, 157, 2, 0, 11]), (20, [6, 2], [30, -4001, -1, 0, 0, -2, 1, 11])], [], [(0, 0, 4001, [])], [(20, [2, 5], [50, 2, 0, 157, 11, 2, 7, 0, 3, 2, 0, 157, 1, 1, 1, 3, 2, 0, 11, 1, 1]), (20, [28, 5], [30, -4001, -1, 0, 0, -2, 0, 0]), (24, [0, 2], [])], [(28, 6, 0, 0)], [(26, 6, 0, 0), (19, 6, 0, 0), (11, 6, 0, 0)])
theorem oo_Mo_styleTokens_129 {kA : Nat → ClassId} : or_ok kA GG o_Mo_styleTokens_129 := by
  intro A ta ws vs hD hth hl hk hds hf
  have hl : vs.length = 28 := hl
  have hk : ∀ q ∈ ([(0, (2, 0, 0, [150])), (2, (2, 0, 0, [150])), (5, (0, 0, 1999, [])), (6, (0, 0, 4001, [])), (7, (0, 0, 255, [])), (8, (0, 32, 32, [])), (9, (0, 0, 255, [])), (10, (0, 10, 10, [])), (11, (0, 0, 4001, [])), (12, (0, 45, 45, [])), (19, (0, 0, 4001, [])), (20, (0, 123, 123, [])), (21, (0, 125, 125, [])), (22, (0, 40, 40, [])), (23, (0, 41, 41, [])), (24, (0, 43, 43, [])), (25, (0, 45, 45, [])), (26, (0, 0, 4001, []))] : List (Nat × tv_T)), tv_ok ta q.2 (n_v vs q.1) := hk
  obtain ⟨t0, hk⟩ := List.forall_mem_cons.mp hk
  have t0 : tv_ok ta (2, 0, 0, [150]) (n_v vs 0) := t0
  have r0 : ta (v_ad (n_v vs 0)) = some 150 := tv_rg t0
  obtain ⟨t2, hk⟩ := List.forall_mem_cons.mp hk
  have t2 : tv_ok ta (2, 0, 0, [150]) (n_v vs 2) := t2
  have r2 : ta (v_ad (n_v vs 2)) = some 150 := tv_rg t2
  obtain ⟨t5, hk⟩ := List.forall_mem_cons.mp hk
  have t5 : tv_ok ta (0, 0, 1999, []) (n_v vs 5) := t5
  have k5 : 0 ≤ v_iv (n_v vs 5) ∧ v_iv (n_v vs 5) ≤ 1999 := tv_rng t5
  obtain ⟨t6, hk⟩ := List.forall_mem_cons.mp hk
  have t6 : tv_ok ta (0, 0, 4001, []) (n_v vs 6) := t6
  have k6 : 0 ≤ v_iv (n_v vs 6) ∧ v_iv (n_v vs 6) ≤ 4001 := tv_rng t6
  obtain ⟨t7, hk⟩ := List.forall_mem_cons.mp hk
  have t7 : tv_ok ta (0, 0, 255, []) (n_v vs 7) := t7
  have k7 : 0 ≤ v_iv (n_v vs 7) ∧ v_iv (n_v vs 7) ≤ 255 := tv_rng t7
  obtain ⟨t8, hk⟩ := List.forall_mem_cons.mp hk
  have t8 : tv_ok ta (0, 32, 32, []) (n_v vs 8) := t8
  have k8 : 32 ≤ v_iv (n_v vs 8) ∧ v_iv (n_v vs 8) ≤ 32 := tv_rng t8
  obtain ⟨t9, hk⟩ := List.forall_mem_cons.mp hk
  have t9 : tv_ok ta (0, 0, 255, []) (n_v vs 9) := t9
  have k9 : 0 ≤ v_iv (n_v vs 9) ∧ v_iv (n_v vs 9) ≤ 255 := tv_rng t9
  obtain ⟨t10, hk⟩ := List.forall_mem_cons.mp hk
  have t10 : tv_ok ta (0, 10, 10, []) (n_v vs 10) := t10
  have k10 : 10 ≤ v_iv (n_v vs 10) ∧ v_iv (n_v vs 10) ≤ 10 := tv_rng t10
  obtain ⟨t11, hk⟩ := List.forall_mem_cons.mp hk
  have t11 : tv_ok ta (0, 0, 4001, []) (n_v vs 11) := t11
  have k11 : 0 ≤ v_iv (n_v vs 11) ∧ v_iv (n_v vs 11) ≤ 4001 := tv_rng t11
  obtain ⟨t12, hk⟩ := List.forall_mem_cons.mp hk
  have t12 : tv_ok ta (0, 45, 45, []) (n_v vs 12) := t12
  have k12 : 45 ≤ v_iv (n_v vs 12) ∧ v_iv (n_v vs 12) ≤ 45 := tv_rng t12
  obtain ⟨t19, hk⟩ := List.forall_mem_cons.mp hk
  have t19 : tv_ok ta (0, 0, 4001, []) (n_v vs 19) := t19
  have k19 : 0 ≤ v_iv (n_v vs 19) ∧ v_iv (n_v vs 19) ≤ 4001 := tv_rng t19
  obtain ⟨t20, hk⟩ := List.forall_mem_cons.mp hk
  have t20 : tv_ok ta (0, 123, 123, []) (n_v vs 20) := t20
  have k20 : 123 ≤ v_iv (n_v vs 20) ∧ v_iv (n_v vs 20) ≤ 123 := tv_rng t20
  obtain ⟨t21, hk⟩ := List.forall_mem_cons.mp hk
  have t21 : tv_ok ta (0, 125, 125, []) (n_v vs 21) := t21
  have k21 : 125 ≤ v_iv (n_v vs 21) ∧ v_iv (n_v vs 21) ≤ 125 := tv_rng t21
  obtain ⟨t22, hk⟩ := List.forall_mem_cons.mp hk
  have t22 : tv_ok ta (0, 40, 40, []) (n_v vs 22) := t22
  have k22 : 40 ≤ v_iv (n_v vs 22) ∧ v_iv (n_v vs 22) ≤ 40 := tv_rng t22
  obtain ⟨t23, hk⟩ := List.forall_mem_cons.mp hk
  have t23 : tv_ok ta (0, 41, 41, []) (n_v vs 23) := t23
  have k23 : 41 ≤ v_iv (n_v vs 23) ∧ v_iv (n_v vs 23) ≤ 41 := tv_rng t23
  obtain ⟨t24, hk⟩ := List.forall_mem_cons.mp hk
  have t24 : tv_ok ta (0, 43, 43, []) (n_v vs 24) := t24
  have k24 : 43 ≤ v_iv (n_v vs 24) ∧ v_iv (n_v vs 24) ≤ 43 := tv_rng t24
  obtain ⟨t25, hk⟩ := List.forall_mem_cons.mp hk
  have t25 : tv_ok ta (0, 45, 45, []) (n_v vs 25) := t25
  have k25 : 45 ≤ v_iv (n_v vs 25) ∧ v_iv (n_v vs 25) ≤ 45 := tv_rng t25
  obtain ⟨t26, hk⟩ := List.forall_mem_cons.mp hk
  have t26 : tv_ok ta (0, 0, 4001, []) (n_v vs 26) := t26
  have k26 : 0 ≤ v_iv (n_v vs 26) ∧ v_iv (n_v vs 26) ≤ 4001 := tv_rng t26
  have hds : ∀ q ∈ ([(26, 6, 0, 0), (19, 6, 0, 0), (11, 6, 0, 0)] : List of_T), n_iv vs q.2.1 + q.2.2.1 ≤ n_iv vs q.1 ∧ n_iv vs q.1 ≤ n_iv vs q.2.1 + q.2.2.2 := hds
  obtain ⟨d0, hds⟩ := List.forall_mem_cons.mp hds
  have d0 : v_iv (n_v vs 6) + 0 ≤ v_iv (n_v vs 26) ∧ v_iv (n_v vs 26) ≤ v_iv (n_v vs 6) + 0 := d0
  obtain ⟨d1, hds⟩ := List.forall_mem_cons.mp hds
  have d1 : v_iv (n_v vs 6) + 0 ≤ v_iv (n_v vs 19) ∧ v_iv (n_v vs 19) ≤ v_iv (n_v vs 6) + 0 := d1
  obtain ⟨d2, hds⟩ := List.forall_mem_cons.mp hds
  have d2 : v_iv (n_v vs 6) + 0 ≤ v_iv (n_v vs 11) ∧ v_iv (n_v vs 11) ≤ v_iv (n_v vs 6) + 0 := d2
  have hf : fc_ok [(20, [2, 5], [50, 2, 0, 157, 11, 2, 7, 0, 3, 2, 0, 157, 1, 1, 1, 3, 2, 0, 11, 1, 1]), (20, [26, 5], [30, -4001, -1, 0, 0, -2, 0, 0]), (24, [0, 2], []), (7, [12, 25], [0]), (7, [12, 24], [1]), (7, [12, 23], [1]), (7, [12, 22], [1]), (7, [12, 21], [1]), (7, [12, 20], [1]), (20, [2, 5], [50, 2, 0, 157, 11, 2, 7, 0, 3, 2, 0, 157, 1, 1, 1, 3, 2, 0, 11, 1, 1]), (20, [19, 5], [30, -4001, -1, 0, 0, -2, 0, 0]), (8, [12], [3]), (9, [5, 2], [11]), (20, [5, 2, 12], [50, 1, 1, 1010, 1001, 4, 11, 0, 6, 4, 2, 1, 0, 0, 1, 2, 1, 10, 1, 2, 1, 2, 9, 5, 3, 1, 1, 1, 0, 0, 256]), (20, [2, 5, 12], [50, 1, 0, 10, 4, 7, 0, 3, 2, 0, 10, 1, 1, 1, 2, 1, 2, 0, -1]), (20, [2], [50, 2, 0, 157, 11, 0, 3, 2, 0, 157, 2, 0, 11]), (20, [11, 2], [30, -4001, -1, 0, 0, -2, 1, 11]), (7, [9, 10], [1]), (20, [5, 2, 9], [50, 1, 1, 1010, 1001, 4, 11, 0, 6, 4, 2, 1, 0, 0, 1, 2, 1, 10, 1, 2, 1, 2, 9, 5, 3, 1, 1, 1, 0, 0, 256]), (20, [2, 5, 9], [50, 1, 0, 10, 4, 7, 0, 3, 2, 0, 10, 1, 1, 1, 2, 1, 2, 0, -1]), (7, [7, 8], [1]), (20, [5, 2, 7], [50, 1, 1, 1010, 1001, 4, 11, 0, 6, 4, 2, 1, 0, 0, 1, 2, 1, 10, 1, 2, 1, 2, 9, 5, 3, 1, 1, 1, 0, 0, 256]), (20, [2, 5, 7], [50, 1, 0, 10, 4, 7, 0, 3, 2, 0, 10, 1, 1, 1, 2, 1, 2, 0, -1]), (20, [2], [50, 2, 0, 157, 11, 0, 3, 2, 0, 157, 2, 0, 11]), (20, [6, 2], [30, -4001, -1, 0, 0, -2, 1, 11])] ta ws vs := hf
  obtain ⟨f0, hf⟩ := fc_un (by decide) hf
  have f0 : (w_fi ws (n_v vs 2) 157 ≤ v_iv (n_v vs 5)) ∧ (w_fi ws (n_v vs 2) 11 = v_iv (n_v vs 5)) := f0
  obtain ⟨f1, hf⟩ := fc_un (by decide) hf
  have f1 : (-1) * v_iv (n_v vs 26) + ((-2) * v_iv (n_v vs 5) + 0) ≤ (-4001) := f1
  obtain ⟨f2, hf⟩ := fc_un (by decide) hf
  have f2 : n_v vs 0 = n_v vs 2 := f2
  obtain ⟨f3, hf⟩ := fc_un (by decide) hf
  have f3 : v_iv (n_v vs 12) = v_iv (n_v vs 25) := f3
  obtain ⟨f4, hf⟩ := fc_un (by decide) hf
  have f4 : v_iv (n_v vs 12) ≠ v_iv (n_v vs 24) := f4
  obtain ⟨f5, hf⟩ := fc_un (by decide) hf
  have f5 : v_iv (n_v vs 12) ≠ v_iv (n_v vs 23) := f5
  obtain ⟨f6, hf⟩ := fc_un (by decide) hf
  have f6 : v_iv (n_v vs 12) ≠ v_iv (n_v vs 22) := f6
  obtain ⟨f7, hf⟩ := fc_un (by decide) hf
  have f7 : v_iv (n_v vs 12) ≠ v_iv (n_v vs 21) := f7
  obtain ⟨f8, hf⟩ := fc_un (by decide) hf
  have f8 : v_iv (n_v vs 12) ≠ v_iv (n_v vs 20) := f8
  obtain ⟨f9, hf⟩ := fc_un (by decide) hf
  have f9 : (w_fi ws (n_v vs 2) 157 ≤ v_iv (n_v vs 5)) ∧ (w_fi ws (n_v vs 2) 11 = v_iv (n_v vs 5)) := f9
  obtain ⟨f10, hf⟩ := fc_un (by decide) hf
  have f10 : (-1) * v_iv (n_v vs 19) + ((-2) * v_iv (n_v vs 5) + 0) ≤ (-4001) := f10
  obtain ⟨f11, hf⟩ := fc_un (by decide) hf
  have f11 : 0 ≤ v_iv (n_v vs 12) := f11
  obtain ⟨f12, hf⟩ := fc_un (by decide) hf
  have f12 : n_v vs 5 = w_fd ws (v_ad (n_v vs 2)) 11 := f12
  obtain ⟨f13, hf⟩ := fc_un (by decide) hf
  have f13 : ((v_iv (n_v vs 5) + 1) ≤ w_fi ws (n_v vs 2) 10) → (v_iv (n_v vs 12) = (w_ei ws (w_ar ws (n_v vs 2) 1) (v_iv (n_v vs 5)) % 256)) := f13
  obtain ⟨f14, hf⟩ := fc_un (by decide) hf
  have f14 : (w_fi ws (n_v vs 2) 10 ≤ v_iv (n_v vs 5)) → (v_iv (n_v vs 12) = (-1)) := f14
  obtain ⟨f15, hf⟩ := fc_un (by decide) hf
  have f15 : w_fi ws (n_v vs 2) 157 ≤ w_fi ws (n_v vs 2) 11 := f15
  obtain ⟨f16, hf⟩ := fc_un (by decide) hf
  have f16 : (-1) * v_iv (n_v vs 11) + ((-2) * w_fi ws (n_v vs 2) 11 + 0) ≤ (-4001) := f16
  obtain ⟨f17, hf⟩ := fc_un (by decide) hf
  have f17 : v_iv (n_v vs 9) ≠ v_iv (n_v vs 10) := f17
  obtain ⟨f18, hf⟩ := fc_un (by decide) hf
  have f18 : ((v_iv (n_v vs 5) + 1) ≤ w_fi ws (n_v vs 2) 10) → (v_iv (n_v vs 9) = (w_ei ws (w_ar ws (n_v vs 2) 1) (v_iv (n_v vs 5)) % 256)) := f18
  obtain ⟨f19, hf⟩ := fc_un (by decide) hf
  have f19 : (w_fi ws (n_v vs 2) 10 ≤ v_iv (n_v vs 5)) → (v_iv (n_v vs 9) = (-1)) := f19
  obtain ⟨f20, hf⟩ := fc_un (by decide) hf
  have f20 : v_iv (n_v vs 7) ≠ v_iv (n_v vs 8) := f20
  obtain ⟨f21, hf⟩ := fc_un (by decide) hf
  have f21 : ((v_iv (n_v vs 5) + 1) ≤ w_fi ws (n_v vs 2) 10) → (v_iv (n_v vs 7) = (w_ei ws (w_ar ws (n_v vs 2) 1) (v_iv (n_v vs 5)) % 256)) := f21
  obtain ⟨f22, hf⟩ := fc_un (by decide) hf
  have f22 : (w_fi ws (n_v vs 2) 10 ≤ v_iv (n_v vs 5)) → (v_iv (n_v vs 7) = (-1)) := f22
  obtain ⟨f23, hf⟩ := fc_un (by decide) hf
  have f23 : w_fi ws (n_v vs 2) 157 ≤ w_fi ws (n_v vs 2) 11 := f23
  obtain ⟨f24, hf⟩ := fc_un (by decide) hf
  have f24 : (-1) * v_iv (n_v vs 6) + ((-2) * w_fi ws (n_v vs 2) 11 + 0) ≤ (-4001) := f24
  have q2 : n_v vs 2 = n_v vs 0 := f2.symm
  rw [q2] at f0
  rw [q2] at f9
  rw [q2] at f12
  rw [q2] at f13
  rw [q2] at f14
  rw [q2] at f15
  rw [q2] at f16
  rw [q2] at f18
  rw [q2] at f19
  rw [q2] at f21
  rw [q2] at f22
  rw [q2] at f23
  rw [q2] at f24
  have cr_0_1 : ta (w_ar ws (n_v vs 0) 1) = some 151 := tv_rg (th_fd hD hth r0 (g := GG_150) rfl (k := 1) (t := (2, 0, 0, [151])) rfl rfl)
  have g12 : v_iv (n_v vs 5) = w_fi ws (n_v vs 0) 11 := congrArg v_iv f12
  have hK_0_1 : ∀ j : Int, 0 ≤ j → j < 2000 → (-128) ≤ w_ei ws (w_ar ws (n_v vs 0) 1) j ∧ w_ei ws (w_ar ws (n_v vs 0) 1) j ≤ 127 := fun j h0 h1 => th_el hD hth cr_0_1 (kd := 1) (n := 2000) (m := 2000) (lo := (-128)) (hi := 127) (rs := []) (L := []) rfl (by decide) (j := j.toNat) (by omega)
  have kz_0_10 : 0 ≤ w_fi ws (n_v vs 0) 10 ∧ w_fi ws (n_v vs 0) 10 ≤ 2000 := tv_rng (th_fd hD hth r0 (g := GG_150) rfl (k := 10) (t := (0, 0, 2000, [])) rfl rfl)
  have kz_0_11 : 0 ≤ w_fi ws (n_v vs 0) 11 ∧ w_fi ws (n_v vs 0) 11 ≤ 2000 := tv_rng (th_fd hD hth r0 (g := GG_150) rfl (k := 11) (t := (0, 0, 2000, [])) rfl rfl)
  have kz_0_157 : 0 ≤ w_fi ws (n_v vs 0) 157 ∧ w_fi ws (n_v vs 0) 157 ≤ 2010 := tv_rng (th_fd hD hth r0 (g := GG_150) rfl (k := 157) (t := (0, 0, 2010, [])) rfl rfl)
  obtain ⟨x, ex, hx⟩ := iv_ex (ta := ta) (lo := 0) (hi := 4001) (z := 0 + (1 * v_iv (n_v vs 6) + 0)) (by omega) (by omega) (by decide) (by decide)
  have ex2 : v_iv (Value.int x) = 0 + (1 * v_iv (n_v vs 6) + 0) := ex
  have ex3 : 0 ≤ v_iv (Value.int x) ∧ v_iv (Value.int x) ≤ 4001 := tv_rng hx
  have e_0 : n_v (vs ++ [Value.int x]) 0 = n_v vs 0 := n_v_old (by rw [hl]; decide)
  have e_2 : n_v (vs ++ [Value.int x]) 2 = n_v vs 2 := n_v_old (by rw [hl]; decide)
  have e_5 : n_v (vs ++ [Value.int x]) 5 = n_v vs 5 := n_v_old (by rw [hl]; decide)
  have e_28 : n_v (vs ++ [Value.int x]) 28 = Value.int x := n_v_new hl
  have nf0 : fc_1 (20, [2, 5], [50, 2, 0, 157, 11, 2, 7, 0, 3, 2, 0, 157, 1, 1, 1, 3, 2, 0, 11, 1, 1]) ws (vs ++ [Value.int x]) := by
    refine ⟨fun n hn => ?_, ?_⟩
    · have hn : n ∈ [2, 5] := hn
      rw [List.length_append, hl]
      simp only [List.mem_cons, List.not_mem_nil, or_false] at hn
      show n < 28 + 1; omega
    · show (w_fi ws (n_v (vs ++ [Value.int x]) 2) 157 ≤ v_iv (n_v (vs ++ [Value.int x]) 5)) ∧ (w_fi ws (n_v (vs ++ [Value.int x]) 2) 11 = v_iv (n_v (vs ++ [Value.int x]) 5))
      rw [e_2]
      rw [e_5]
      rw [q2]
      first | omega | grind
  have nf1 : fc_1 (20, [28, 5], [30, -4001, -1, 0, 0, -2, 0, 0]) ws (vs ++ [Value.int x]) := by
    refine ⟨fun n hn => ?_, ?_⟩
    · have hn : n ∈ [28, 5] := hn
      rw [List.length_append, hl]
      simp only [List.mem_cons, List.not_mem_nil, or_false] at hn
      show n < 28 + 1; omega
    · show (-1) * v_iv (n_v (vs ++ [Value.int x]) 28) + ((-2) * v_iv (n_v (vs ++ [Value.int x]) 5) + 0) ≤ (-4001)
      rw [e_5]
      rw [e_28]
      omega
  have nf2 : fc_1 (24, [0, 2], []) ws (vs ++ [Value.int x]) := by
    refine ⟨fun n hn => ?_, ?_⟩
    · have hn : n ∈ [0, 2] := hn
      rw [List.length_append, hl]
      simp only [List.mem_cons, List.not_mem_nil, or_false] at hn
      show n < 28 + 1; omega
    · show n_v (vs ++ [Value.int x]) 0 = n_v (vs ++ [Value.int x]) 2
      first | rfl | simp only [e_0, e_2, q2]
  obtain ⟨x0, e0, _, _⟩ := tv_int t6 rfl
  have e1 : v_iv (n_v vs 6) = x0.toInt := by rw [e0]; rfl
  have ho : sy_ofs (vs ++ [Value.int x]) (28, 6, 0, 0) := by
    refine ⟨x, x0, by rw [List.getElem?_append_right (by rw [hl]; decide), hl]; rfl, ?_, ?_, ?_⟩
    · rw [List.getElem?_append_left (by rw [hl]; decide)]; exact n_v_some (by rw [hl]; decide) e0
    · show x0.toInt + 0 ≤ x.toInt; omega
    · show x.toInt ≤ x0.toInt + 0; omega
  exact ⟨fun q hq => (by cases hq), [Value.int x], ag_one hx, List.forall_mem_cons.mpr ⟨⟨by decide, nf0⟩, List.forall_mem_cons.mpr ⟨⟨by decide, nf1⟩, List.forall_mem_cons.mpr ⟨⟨by decide, nf2⟩, (fun _ h => (by cases h))⟩⟩⟩, List.forall_mem_cons.mpr ⟨ho, (fun _ h => (by cases h))⟩⟩
def o_Mo_styleTokens_130 : or_T := (334, 27, [(0, (2, 0, 0, [150])), (2, (2, 0, 0, [150])), (5, (0, 0, 1999, [])), (6, (0, 0, 4001, [])), (7, (0, 0, 255, [])), (8, (0, 32, 32, [])), (9, (0, 0, 255, [])), (10, (0, 10, 10, [])), (11, (0, 0, 4001, [])), (12, (0, 42, 42, [])), (19, (0, 0, 4001, [])), (20, (0, 123, 123, [])), (21, (0, 125, 125, [])), (22, (0, 40, 40, [])), (23, (0, 41, 41, [])), (24, (0, 43, 43, [])), (25, (0, 45, 45, [])), (26, (0, 42, 42, []))], [(7, [12, 26], [0]), (7, [12, 25], [1]), (7, [12, 24], [1]), (7, [12, 23], [1]), (7, [12, 22], [1]), (7, [12, 21], [1]), (7, [12, 20], [1]), (20, [2, 5], [50, 2, 0, 157, 11, 2, 7, 0, 3, 2, 0, 157, 1, 1, 1, 3, 2, 0, 11, 1, 1]), (20, [19, 5], [30, -4001, -1, 0, 0, -2, 0, 0]), (24, [0, 2], []), (8, [12], [3]), (9, [5, 2], [11]), (20, [5, 2, 12], [50, 1, 1, 1010, 1001, 4, 11, 0, 6, 4, 2, 1, 0, 0, 1, 2, 1, 10, 1, 2, 1, 2, 9, 5, 3, 1, 1, 1, 0, 0, 256]), (20, [2, 5, 12], [50, 1, 0, 10, 4, 7, 0, 3, 2, 0, 10, 1, 1, 1, 2, 1, 2, 0, -1]), (20, [2], [50, 2, 0, 157, 11, 0, 3, 2, 0, 157, 2, 0, 11]), (20, [11, 2], [30, -4001, -1, 0, 0, -2, 1, 11]), (7, [9, 10], [1]), (20, [5, 2, 9], [50, 1, 1, 1010, 1001, 4, 11, 0, 6, 4, 2, 1, 0, 0, 1, 2, 1, 10, 1, 2, 1, 2, 9, 5, 3, 1, 1, 1, 0, 0, 256]), (20, [2, 5, 9], [50, 1, 0, 10, 4, 7, 0, 3, 2, 0, 10, 1, 1, 1, 2, 1, 2, 0, -1]), (7, [7, 8], [1]), (20, [5, 2, 7], [50, 1, 1, 1010, 1001, 4, 11, 0, 6, 4, 2, 1, 0, 0, 1, 2, 1, 10, 1, 2, 1, 2, 9, 5, 3, 1, 1, 1, 0, 0, 256]), (20, [2, 5, 7], [50, 1, 0, 10, 4, 7, 0, 3, 2, 0, 10, 1, 1, 1, 2, 1, 2, 0, -1]), (20, [2], [50, 2, 0, 157, 11, 0, 3, 2, 0, 157, 2, 0, 11]), (20, [6, 2], [30, -4001, -1, 0, 0, -2, 1, 11])], [], [(0, 0, 4001, [])], [(20, [2, 5], [50, 2, 0, 157, 11, 2, 7, 0, 3, 2, 0, 157, 1, 1, 1, 3, 2, 0, 11, 1, 1]), (20, [27, 5], [30, -4001, -1, 0, 0, -2, 0, 0]), (24, [0, 2], [])], [(27, 6, 0, 0)], [(19, 6, 0, 0), (11, 6, 0, 0)])
theorem oo_Mo_styleTokens_130 {kA : Nat → ClassId} : or_ok kA GG o_Mo_styleTokens_130 := by
  intro A ta ws vs hD hth hl hk hds hf
  have hl : vs.length = 27 := hl
  have hk : ∀ q ∈ ([(0, (2, 0, 0, [150])), (2, (2, 0, 0, [150])), (5, (0, 0, 1999, [])), (6, (0, 0, 4001, [])), (7, (0, 0, 255, [])), (8, (0, 32, 32, [])), (9, (0, 0, 255, [])), (10, (0, 10, 10, [])), (11, (0, 0, 4001, [])), (12, (0, 42, 42, [])), (19, (0, 0, 4001, [])), (20, (0, 123, 123, [])), (21, (0, 125, 125, [])), (22, (0, 40, 40, [])), (23, (0, 41, 41, [])), (24, (0, 43, 43, [])), (25, (0, 45, 45, [])), (26, (0, 42, 42, []))] : List (Nat × tv_T)), tv_ok ta q.2 (n_v vs q.1) := hk
  obtain ⟨t0, hk⟩ := List.forall_mem_cons.mp hk
  have t0 : tv_ok ta (2, 0, 0, [150]) (n_v vs 0) := t0
  have r0 : ta (v_ad (n_v vs 0)) = some 150 := tv_rg t0
  obtain ⟨t2, hk⟩ := List.forall_mem_cons.mp hk
  have t2 : tv_ok ta (2, 0, 0, [150]) (n_v vs 2) := t2
  have r2 : ta (v_ad (n_v vs 2)) = some 150 := tv_rg t2
  obtain ⟨t5, hk⟩ := List.forall_mem_cons.mp hk
  have t5 : tv_ok ta (0, 0, 1999, []) (n_v vs 5) := t5
  have k5 : 0 ≤ v_iv (n_v vs 5) ∧ v_iv (n_v vs 5) ≤ 1999 := tv_rng t5
  obtain ⟨t6, hk⟩ := List.forall_mem_cons.mp hk
  have t6 : tv_ok ta (0, 0, 4001, []) (n_v vs 6) := t6
  have k6 : 0 ≤ v_iv (n_v vs 6) ∧ v_iv (n_v vs 6) ≤ 4001 := tv_rng t6
  obtain ⟨t7, hk⟩ := List.forall_mem_cons.mp hk
  have t7 : tv_ok ta (0, 0, 255, []) (n_v vs 7) := t7
  have k7 : 0 ≤ v_iv (n_v vs 7) ∧ v_iv (n_v vs 7) ≤ 255 := tv_rng t7
  obtain ⟨t8, hk⟩ := List.forall_mem_cons.mp hk
  have t8 : tv_ok ta (0, 32, 32, []) (n_v vs 8) := t8
  have k8 : 32 ≤ v_iv (n_v vs 8) ∧ v_iv (n_v vs 8) ≤ 32 := tv_rng t8
  obtain ⟨t9, hk⟩ := List.forall_mem_cons.mp hk
  have t9 : tv_ok ta (0, 0, 255, []) (n_v vs 9) := t9
  have k9 : 0 ≤ v_iv (n_v vs 9) ∧ v_iv (n_v vs 9) ≤ 255 := tv_rng t9
  obtain ⟨t10, hk⟩ := List.forall_mem_cons.mp hk
  have t10 : tv_ok ta (0, 10, 10, []) (n_v vs 10) := t10
  have k10 : 10 ≤ v_iv (n_v vs 10) ∧ v_iv (n_v vs 10) ≤ 10 := tv_rng t10
  obtain ⟨t11, hk⟩ := List.forall_mem_cons.mp hk
  have t11 : tv_ok ta (0, 0, 4001, []) (n_v vs 11) := t11
  have k11 : 0 ≤ v_iv (n_v vs 11) ∧ v_iv (n_v vs 11) ≤ 4001 := tv_rng t11
  obtain ⟨t12, hk⟩ := List.forall_mem_cons.mp hk
  have t12 : tv_ok ta (0, 42, 42, []) (n_v vs 12) := t12
  have k12 : 42 ≤ v_iv (n_v vs 12) ∧ v_iv (n_v vs 12) ≤ 42 := tv_rng t12
  obtain ⟨t19, hk⟩ := List.forall_mem_cons.mp hk
  have t19 : tv_ok ta (0, 0, 4001, []) (n_v vs 19) := t19
  have k19 : 0 ≤ v_iv (n_v vs 19) ∧ v_iv (n_v vs 19) ≤ 4001 := tv_rng t19
  obtain ⟨t20, hk⟩ := List.forall_mem_cons.mp hk
  have t20 : tv_ok ta (0, 123, 123, []) (n_v vs 20) := t20
  have k20 : 123 ≤ v_iv (n_v vs 20) ∧ v_iv (n_v vs 20) ≤ 123 := tv_rng t20
  obtain ⟨t21, hk⟩ := List.forall_mem_cons.mp hk
  have t21 : tv_ok ta (0, 125, 125, []) (n_v vs 21) := t21
  have k21 : 125 ≤ v_iv (n_v vs 21) ∧ v_iv (n_v vs 21) ≤ 125 := tv_rng t21
  obtain ⟨t22, hk⟩ := List.forall_mem_cons.mp hk
  have t22 : tv_ok ta (0, 40, 40, []) (n_v vs 22) := t22
  have k22 : 40 ≤ v_iv (n_v vs 22) ∧ v_iv (n_v vs 22) ≤ 40 := tv_rng t22
  obtain ⟨t23, hk⟩ := List.forall_mem_cons.mp hk
  have t23 : tv_ok ta (0, 41, 41, []) (n_v vs 23) := t23
  have k23 : 41 ≤ v_iv (n_v vs 23) ∧ v_iv (n_v vs 23) ≤ 41 := tv_rng t23
  obtain ⟨t24, hk⟩ := List.forall_mem_cons.mp hk
  have t24 : tv_ok ta (0, 43, 43, []) (n_v vs 24) := t24
  have k24 : 43 ≤ v_iv (n_v vs 24) ∧ v_iv (n_v vs 24) ≤ 43 := tv_rng t24
  obtain ⟨t25, hk⟩ := List.forall_mem_cons.mp hk
  have t25 : tv_ok ta (0, 45, 45, []) (n_v vs 25) := t25
  have k25 : 45 ≤ v_iv (n_v vs 25) ∧ v_iv (n_v vs 25) ≤ 45 := tv_rng t25
  obtain ⟨t26, hk⟩ := List.forall_mem_cons.mp hk
  have t26 : tv_ok ta (0, 42, 42, []) (n_v vs 26) := t26
  have k26 : 42 ≤ v_iv (n_v vs 26) ∧ v_iv (n_v vs 26) ≤ 42 := tv_rng t26
  have hds : ∀ q ∈ ([(19, 6, 0, 0), (11, 6, 0, 0)] : List of_T), n_iv vs q.2.1 + q.2.2.1 ≤ n_iv vs q.1 ∧ n_iv vs q.1 ≤ n_iv vs q.2.1 + q.2.2.2 := hds
  obtain ⟨d0, hds⟩ := List.forall_mem_cons.mp hds
  have d0 : v_iv (n_v vs 6) + 0 ≤ v_iv (n_v vs 19) ∧ v_iv (n_v vs 19) ≤ v_iv (n_v vs 6) + 0 := d0
  obtain ⟨d1, hds⟩ := List.forall_mem_cons.mp hds
  have d1 : v_iv (n_v vs 6) + 0 ≤ v_iv (n_v vs 11) ∧ v_iv (n_v vs 11) ≤ v_iv (n_v vs 6) + 0 := d1
  have hf : fc_ok [(7, [12, 26], [0]), (7, [12, 25], [1]), (7, [12, 24], [1]), (7, [12, 23], [1]), (7, [12, 22], [1]), (7, [12, 21], [1]), (7, [12, 20], [1]), (20, [2, 5], [50, 2, 0, 157, 11, 2, 7, 0, 3, 2, 0, 157, 1, 1, 1, 3, 2, 0, 11, 1, 1]), (20, [19, 5], [30, -4001, -1, 0, 0, -2, 0, 0]), (24, [0, 2], []), (8, [12], [3]), (9, [5, 2], [11]), (20, [5, 2, 12], [50, 1, 1, 1010, 1001, 4, 11, 0, 6, 4, 2, 1, 0, 0, 1, 2, 1, 10, 1, 2, 1, 2, 9, 5, 3, 1, 1, 1, 0, 0, 256]), (20, [2, 5, 12], [50, 1, 0, 10, 4, 7, 0, 3, 2, 0, 10, 1, 1, 1, 2, 1, 2, 0, -1]), (20, [2], [50, 2, 0, 157, 11, 0, 3, 2, 0, 157, 2, 0, 11]), (20, [11, 2], [30, -4001, -1, 0, 0, -2, 1, 11]), (7, [9, 10], [1]), (20, [5, 2, 9], [50, 1, 1, 1010, 1001, 4, 11, 0, 6, 4, 2, 1, 0, 0, 1, 2, 1, 10, 1, 2, 1, 2, 9, 5, 3, 1, 1, 1, 0, 0, 256]), (20, [2, 5, 9], [50, 1, 0, 10, 4, 7, 0, 3, 2, 0, 10, 1, 1, 1, 2, 1, 2, 0, -1]), (7, [7, 8], [1]), (20, [5, 2, 7], [50, 1, 1, 1010, 1001, 4, 11, 0, 6, 4, 2, 1, 0, 0, 1, 2, 1, 10, 1, 2, 1, 2, 9, 5, 3, 1, 1, 1, 0, 0, 256]), (20, [2, 5, 7], [50, 1, 0, 10, 4, 7, 0, 3, 2, 0, 10, 1, 1, 1, 2, 1, 2, 0, -1]), (20, [2], [50, 2, 0, 157, 11, 0, 3, 2, 0, 157, 2, 0, 11]), (20, [6, 2], [30, -4001, -1, 0, 0, -2, 1, 11])] ta ws vs := hf
  obtain ⟨f0, hf⟩ := fc_un (by decide) hf
  have f0 : v_iv (n_v vs 12) = v_iv (n_v vs 26) := f0
  obtain ⟨f1, hf⟩ := fc_un (by decide) hf
  have f1 : v_iv (n_v vs 12) ≠ v_iv (n_v vs 25) := f1
  obtain ⟨f2, hf⟩ := fc_un (by decide) hf
  have f2 : v_iv (n_v vs 12) ≠ v_iv (n_v vs 24) := f2
  obtain ⟨f3, hf⟩ := fc_un (by decide) hf
  have f3 : v_iv (n_v vs 12) ≠ v_iv (n_v vs 23) := f3
  obtain ⟨f4, hf⟩ := fc_un (by decide) hf
  have f4 : v_iv (n_v vs 12) ≠ v_iv (n_v vs 22) := f4
  obtain ⟨f5, hf⟩ := fc_un (by decide) hf
  have f5 : v_iv (n_v vs 12) ≠ v_iv (n_v vs 21) := f5
  obtain ⟨f6, hf⟩ := fc_un (by decide) hf
  have f6 : v_iv (n_v vs 12) ≠ v_iv (n_v vs 20) := f6
  obtain ⟨f7, hf⟩ := fc_un (by decide) hf
  have f7 : (w_fi ws (n_v vs 2) 157 ≤ v_iv (n_v vs 5)) ∧ (w_fi ws (n_v vs 2) 11 = v_iv (n_v vs 5)) := f7
  obtain ⟨f8, hf⟩ := fc_un (by decide) hf
  have f8 : (-1) * v_iv (n_v vs 19) + ((-2) * v_iv (n_v vs 5) + 0) ≤ (-4001) := f8
  obtain ⟨f9, hf⟩ := fc_un (by decide) hf
  have f9 : n_v vs 0 = n_v vs 2 := f9
  obtain ⟨f10, hf⟩ := fc_un (by decide) hf
  have f10 : 0 ≤ v_iv (n_v vs 12) := f10
  obtain ⟨f11, hf⟩ := fc_un (by decide) hf
  have f11 : n_v vs 5 = w_fd ws (v_ad (n_v vs 2)) 11 := f11
  obtain ⟨f12, hf⟩ := fc_un (by decide) hf
  have f12 : ((v_iv (n_v vs 5) + 1) ≤ w_fi ws (n_v vs 2) 10) → (v_iv (n_v vs 12) = (w_ei ws (w_ar ws (n_v vs 2) 1) (v_iv (n_v vs 5)) % 256)) := f12
  obtain ⟨f13, hf⟩ := fc_un (by decide) hf
  have f13 : (w_fi ws (n_v vs 2) 10 ≤ v_iv (n_v vs 5)) → (v_iv (n_v vs 12) = (-1)) := f13
  obtain ⟨f14, hf⟩ := fc_un (by decide) hf
  have f14 : w_fi ws (n_v vs 2) 157 ≤ w_fi ws (n_v vs 2) 11 := f14
  obtain ⟨f15, hf⟩ := fc_un (by decide) hf
  have f15 : (-1) * v_iv (n_v vs 11) + ((-2) * w_fi ws (n_v vs 2) 11 + 0) ≤ (-4001) := f15
  obtain ⟨f16, hf⟩ := fc_un (by decide) hf
  have f16 : v_iv (n_v vs 9) ≠ v_iv (n_v vs 10) := f16
  obtain ⟨f17, hf⟩ := fc_un (by decide) hf
  have f17 : ((v_iv (n_v vs 5) + 1) ≤ w_fi ws (n_v vs 2) 10) → (v_iv (n_v vs 9) = (w_ei ws (w_ar ws (n_v vs 2) 1) (v_iv (n_v vs 5)) % 256)) := f17
  obtain ⟨f18, hf⟩ := fc_un (by decide) hf
  have f18 : (w_fi ws (n_v vs 2) 10 ≤ v_iv (n_v vs 5)) → (v_iv (n_v vs 9) = (-1)) := f18
  obtain ⟨f19, hf⟩ := fc_un (by decide) hf
  have f19 : v_iv (n_v vs 7) ≠ v_iv (n_v vs 8) := f19
  obtain ⟨f20, hf⟩ := fc_un (by decide) hf
  have f20 : ((v_iv (n_v vs 5) + 1) ≤ w_fi ws (n_v vs 2) 10) → (v_iv (n_v vs 7) = (w_ei ws (w_ar ws (n_v vs 2) 1) (v_iv (n_v vs 5)) % 256)) := f20
  obtain ⟨f21, hf⟩ := fc_un (by decide) hf
  have f21 : (w_fi ws (n_v vs 2) 10 ≤ v_iv (n_v vs 5)) → (v_iv (n_v vs 7) = (-1)) := f21
  obtain ⟨f22, hf⟩ := fc_un (by decide) hf
  have f22 : w_fi ws (n_v vs 2) 157 ≤ w_fi ws (n_v vs 2) 11 := f22
  obtain ⟨f23, hf⟩ := fc_un (by decide) hf
  have f23 : (-1) * v_iv (n_v vs 6) + ((-2) * w_fi ws (n_v vs 2) 11 + 0) ≤ (-4001) := f23
  have q2 : n_v vs 2 = n_v vs 0 := f9.symm
  rw [q2] at f7
  rw [q2] at f11
  rw [q2] at f12
  rw [q2] at f13
  rw [q2] at f14
  rw [q2] at f15
  rw [q2] at f17
  rw [q2] at f18
  rw [q2] at f20
  rw [q2] at f21
  rw [q2] at f22
  rw [q2] at f23
  have cr_0_1 : ta (w_ar ws (n_v vs 0) 1) = some 151 := tv_rg (th_fd hD hth r0 (g := GG_150) rfl (k := 1) (t := (2, 0, 0, [151])) rfl rfl)
  have g11 : v_iv (n_v vs 5) = w_fi ws (n_v vs 0) 11 := congrArg v_iv f11
  have hK_0_1 : ∀ j : Int, 0 ≤ j → j < 2000 → (-128) ≤ w_ei ws (w_ar ws (n_v vs 0) 1) j ∧ w_ei ws (w_ar ws (n_v vs 0) 1) j ≤ 127 := fun j h0 h1 => th_el hD hth cr_0_1 (kd := 1) (n := 2000) (m := 2000) (lo := (-128)) (hi := 127) (rs := []) (L := []) rfl (by decide) (j := j.toNat) (by omega)
  have kz_0_10 : 0 ≤ w_fi ws (n_v vs 0) 10 ∧ w_fi ws (n_v vs 0) 10 ≤ 2000 := tv_rng (th_fd hD hth r0 (g := GG_150) rfl (k := 10) (t := (0, 0, 2000, [])) rfl rfl)
  have kz_0_11 : 0 ≤ w_fi ws (n_v vs 0) 11 ∧ w_fi ws (n_v vs 0) 11 ≤ 2000 := tv_rng (th_fd hD hth r0 (g := GG_150) rfl (k := 11) (t := (0, 0, 2000, [])) rfl rfl)
  have kz_0_157 : 0 ≤ w_fi ws (n_v vs 0) 157 ∧ w_fi ws (n_v vs 0) 157 ≤ 2010 := tv_rng (th_fd hD hth r0 (g := GG_150) rfl (k := 157) (t := (0, 0, 2010, [])) rfl rfl)
  obtain ⟨x, ex, hx⟩ := iv_ex (ta := ta) (lo := 0) (hi := 4001) (z := 0 + (1 * v_iv (n_v vs 6) + 0)) (by omega) (by omega) (by decide) (by decide)
  have ex2 : v_iv (Value.int x) = 0 + (1 * v_iv (n_v vs 6) + 0) := ex
  have ex3 : 0 ≤ v_iv (Value.int x) ∧ v_iv (Value.int x) ≤ 4001 := tv_rng hx
  have e_0 : n_v (vs ++ [Value.int x]) 0 = n_v vs 0 := n_v_old (by rw [hl]; decide)
  have e_2 : n_v (vs ++ [Value.int x]) 2 = n_v vs 2 := n_v_old (by rw [hl]; decide)
  have e_5 : n_v (vs ++ [Value.int x]) 5 = n_v vs 5 := n_v_old (by rw [hl]; decide)
  have e_27 : n_v (vs ++ [Value.int x]) 27 = Value.int x := n_v_new hl
  have nf0 : fc_1 (20, [2, 5], [50, 2, 0, 157, 11, 2, 7, 0, 3, 2, 0, 157, 1, 1, 1, 3, 2, 0, 11, 1, 1]) ws (vs ++ [Value.int x]) := by
    refine ⟨fun n hn => ?_, ?_⟩
    · have hn : n ∈ [2, 5] := hn
      rw [List.length_append, hl]
      simp only [List.mem_cons, List.not_mem_nil, or_false] at hn
      show n < 27 + 1; omega
    · show (w_fi ws (n_v (vs ++ [Value.int x]) 2) 157 ≤ v_iv (n_v (vs ++ [Value.int x]) 5)) ∧ (w_fi ws (n_v (vs ++ [Value.int x]) 2) 11 = v_iv (n_v (vs ++ [Value.int x]) 5))
      rw [e_2]
      rw [e_5]
      rw [q2]
      first | omega | grind
  have nf1 : fc_1 (20, [27, 5], [30, -4001, -1, 0, 0, -2, 0, 0]) ws (vs ++ [Value.int x]) := by
    refine ⟨fun n hn => ?_, ?_⟩
    · have hn : n ∈ [27, 5] := hn
      rw [List.length_append, hl]
      simp only [List.mem_cons, List.not_mem_nil, or_false] at hn
      show n < 27 + 1; omega
    · show (-1) * v_iv (n_v (vs ++ [Value.int x]) 27) + ((-2) * v_iv (n_v (vs ++ [Value.int x]) 5) + 0) ≤ (-4001)
      rw [e_5]
      rw [e_27]
      omega
  have nf2 : fc_1 (24, [0, 2], []) ws (vs ++ [Value.int x]) := by
    refine ⟨fun n hn => ?_, ?_⟩
    · have hn : n ∈ [0, 2] := hn
      rw [List.length_append, hl]
      simp only [List.mem_cons, List.not_mem_nil, or_false] at hn
      show n < 27 + 1; omega
    · show n_v (vs ++ [Value.int x]) 0 = n_v (vs ++ [Value.int x]) 2
      first | rfl | simp only [e_0, e_2, q2]
  obtain ⟨x0, e0, _, _⟩ := tv_int t6 rfl
  have e1 : v_iv (n_v vs 6) = x0.toInt := by rw [e0]; rfl
  have ho : sy_ofs (vs ++ [Value.int x]) (27, 6, 0, 0) := by
    refine ⟨x, x0, by rw [List.getElem?_append_right (by rw [hl]; decide), hl]; rfl, ?_, ?_, ?_⟩
    · rw [List.getElem?_append_left (by rw [hl]; decide)]; exact n_v_some (by rw [hl]; decide) e0
    · show x0.toInt + 0 ≤ x.toInt; omega
    · show x.toInt ≤ x0.toInt + 0; omega
  exact ⟨fun q hq => (by cases hq), [Value.int x], ag_one hx, List.forall_mem_cons.mpr ⟨⟨by decide, nf0⟩, List.forall_mem_cons.mpr ⟨⟨by decide, nf1⟩, List.forall_mem_cons.mpr ⟨⟨by decide, nf2⟩, (fun _ h => (by cases h))⟩⟩⟩, List.forall_mem_cons.mpr ⟨ho, (fun _ h => (by cases h))⟩⟩
def o_Mo_styleTokens_131 : or_T := (339, 29, [(0, (2, 0, 0, [150])), (2, (2, 0, 0, [150])), (5, (0, 0, 1999, [])), (6, (0, 0, 4001, [])), (7, (0, 0, 255, [])), (8, (0, 32, 32, [])), (9, (0, 0, 255, [])), (10, (0, 10, 10, [])), (11, (0, 0, 4001, [])), (12, (0, 42, 42, [])), (19, (0, 0, 4001, [])), (20, (0, 123, 123, [])), (21, (0, 125, 125, [])), (22, (0, 40, 40, [])), (23, (0, 41, 41, [])), (24, (0, 43, 43, [])), (25, (0, 45, 45, [])), (26, (0, 42, 42, [])), (27, (0, 0, 4001, []))], [(20, [2, 5], [50, 2, 0, 157, 11, 2, 7, 0, 3, 2, 0, 157, 1, 1, 1, 3, 2, 0, 11, 1, 1]), (20, [27, 5], [30, -4001, -1, 0, 0, -2, 0, 0]), (24, [0, 2], []), (7, [12, 26], [0]), (7, [12, 25], [1]), (7, [12, 24], [1]), (7, [12, 23], [1]), (7, [12, 22], [1]), (7, [12, 21], [1]), (7, [12, 20], [1]), (20, [2, 5], [50, 2, 0, 157, 11, 2, 7, 0, 3, 2, 0, 157, 1, 1, 1, 3, 2, 0, 11, 1, 1]), (20, [19, 5], [30, -4001, -1, 0, 0, -2, 0, 0]), (8, [12], [3]), (9, [5, 2], [11]), (20, [5, 2, 12], [50, 1, 1, 1010, 1001, 4, 11, 0, 6, 4, 2, 1, 0, 0, 1, 2, 1, 10, 1, 2, 1, 2, 9, 5, 3, 1, 1, 1, 0, 0, 256]), (20, [2, 5, 12], [50, 1, 0, 10, 4, 7, 0, 3, 2, 0, 10, 1, 1, 1, 2, 1, 2, 0, -1]), (20, [2], [50, 2, 0, 157, 11, 0, 3, 2, 0, 157, 2, 0, 11]), (20, [11, 2], [30, -4001, -1, 0, 0, -2, 1, 11]), (7, [9, 10], [1]), (20, [5, 2, 9], [50, 1, 1, 1010, 1001, 4, 11, 0, 6, 4, 2, 1, 0, 0, 1, 2, 1, 10, 1, 2, 1, 2, 9, 5, 3, 1, 1, 1, 0, 0, 256]), (20, [2, 5, 9], [50, 1, 0, 10, 4, 7, 0, 3, 2, 0, 10, 1, 1, 1, 2, 1, 2, 0, -1]), (7, [7, 8], [1]), (20, [5, 2, 7], [50, 1, 1, 1010, 1001, 4, 11, 0, 6, 4, 2, 1, 0, 0, 1, 2, 1, 10, 1, 2, 1, 2, 9, 5, 3, 1, 1, 1, 0, 0, 256]), (20, [2, 5, 7], [50, 1, 0, 10, 4, 7, 0, 3, 2, 0, 10, 1, 1, 1, 2, 1, 2, 0, -1]), (20, [2], [50, 2, 0, 157, 11, 0, 3, 2, 0, 157, 2, 0, 11]), (20, [6, 2], [30, -4001, -1, 0, 0, -2, 1, 11])], [], [(0, 0, 4001, [])], [(20, [2, 5], [50, 2, 0, 157, 11, 2, 7, 0, 3, 2, 0, 157, 1, 1, 1, 3, 2, 0, 11, 1, 1]), (20, [29, 5], [30, -4001, -1, 0, 0, -2, 0, 0]), (24, [0, 2], [])], [(29, 6, 0, 0)], [(27, 6, 0, 0), (19, 6, 0, 0), (11, 6, 0, 0)])
theorem oo_Mo_styleTokens_131 {kA : Nat → ClassId} : or_ok kA GG o_Mo_styleTokens_131 := by
  intro A ta ws vs hD hth hl hk hds hf
  have hl : vs.length = 29 := hl
  have hk : ∀ q ∈ ([(0, (2, 0, 0, [150])), (2, (2, 0, 0, [150])), (5, (0, 0, 1999, [])), (6, (0, 0, 4001, [])), (7, (0, 0, 255, [])), (8, (0, 32, 32, [])), (9, (0, 0, 255, [])), (10, (0, 10, 10, [])), (11, (0, 0, 4001, [])), (12, (0, 42, 42, [])), (19, (0, 0, 4001, [])), (20, (0, 123, 123, [])), (21, (0, 125, 125, [])), (22, (0, 40, 40, [])), (23, (0, 41, 41, [])), (24, (0, 43, 43, [])), (25, (0, 45, 45, [])), (26, (0, 42, 42, [])), (27, (0, 0, 4001, []))] : List (Nat × tv_T)), tv_ok ta q.2 (n_v vs q.1) := hk
  obtain ⟨t0, hk⟩ := List.forall_mem_cons.mp hk
  have t0 : tv_ok ta (2, 0, 0, [150]) (n_v vs 0) := t0
  have r0 : ta (v_ad (n_v vs 0)) = some 150 := tv_rg t0
  obtain ⟨t2, hk⟩ := List.forall_mem_cons.mp hk
  have t2 : tv_ok ta (2, 0, 0, [150]) (n_v vs 2) := t2
  have r2 : ta (v_ad (n_v vs 2)) = some 150 := tv_rg t2
  obtain ⟨t5, hk⟩ := List.forall_mem_cons.mp hk
  have t5 : tv_ok ta (0, 0, 1999, []) (n_v vs 5) := t5
  have k5 : 0 ≤ v_iv (n_v vs 5) ∧ v_iv (n_v vs 5) ≤ 1999 := tv_rng t5
  obtain ⟨t6, hk⟩ := List.forall_mem_cons.mp hk
  have t6 : tv_ok ta (0, 0, 4001, []) (n_v vs 6) := t6
  have k6 : 0 ≤ v_iv (n_v vs 6) ∧ v_iv (n_v vs 6) ≤ 4001 := tv_rng t6
  obtain ⟨t7, hk⟩ := List.forall_mem_cons.mp hk
  have t7 : tv_ok ta (0, 0, 255, []) (n_v vs 7) := t7
  have k7 : 0 ≤ v_iv (n_v vs 7) ∧ v_iv (n_v vs 7) ≤ 255 := tv_rng t7
  obtain ⟨t8, hk⟩ := List.forall_mem_cons.mp hk
  have t8 : tv_ok ta (0, 32, 32, []) (n_v vs 8) := t8
  have k8 : 32 ≤ v_iv (n_v vs 8) ∧ v_iv (n_v vs 8) ≤ 32 := tv_rng t8
  obtain ⟨t9, hk⟩ := List.forall_mem_cons.mp hk
  have t9 : tv_ok ta (0, 0, 255, []) (n_v vs 9) := t9
  have k9 : 0 ≤ v_iv (n_v vs 9) ∧ v_iv (n_v vs 9) ≤ 255 := tv_rng t9
  obtain ⟨t10, hk⟩ := List.forall_mem_cons.mp hk
  have t10 : tv_ok ta (0, 10, 10, []) (n_v vs 10) := t10
  have k10 : 10 ≤ v_iv (n_v vs 10) ∧ v_iv (n_v vs 10) ≤ 10 := tv_rng t10
  obtain ⟨t11, hk⟩ := List.forall_mem_cons.mp hk
  have t11 : tv_ok ta (0, 0, 4001, []) (n_v vs 11) := t11
  have k11 : 0 ≤ v_iv (n_v vs 11) ∧ v_iv (n_v vs 11) ≤ 4001 := tv_rng t11
  obtain ⟨t12, hk⟩ := List.forall_mem_cons.mp hk
  have t12 : tv_ok ta (0, 42, 42, []) (n_v vs 12) := t12
  have k12 : 42 ≤ v_iv (n_v vs 12) ∧ v_iv (n_v vs 12) ≤ 42 := tv_rng t12
  obtain ⟨t19, hk⟩ := List.forall_mem_cons.mp hk
  have t19 : tv_ok ta (0, 0, 4001, []) (n_v vs 19) := t19
  have k19 : 0 ≤ v_iv (n_v vs 19) ∧ v_iv (n_v vs 19) ≤ 4001 := tv_rng t19
  obtain ⟨t20, hk⟩ := List.forall_mem_cons.mp hk
  have t20 : tv_ok ta (0, 123, 123, []) (n_v vs 20) := t20
  have k20 : 123 ≤ v_iv (n_v vs 20) ∧ v_iv (n_v vs 20) ≤ 123 := tv_rng t20
  obtain ⟨t21, hk⟩ := List.forall_mem_cons.mp hk
  have t21 : tv_ok ta (0, 125, 125, []) (n_v vs 21) := t21
  have k21 : 125 ≤ v_iv (n_v vs 21) ∧ v_iv (n_v vs 21) ≤ 125 := tv_rng t21
  obtain ⟨t22, hk⟩ := List.forall_mem_cons.mp hk
  have t22 : tv_ok ta (0, 40, 40, []) (n_v vs 22) := t22
  have k22 : 40 ≤ v_iv (n_v vs 22) ∧ v_iv (n_v vs 22) ≤ 40 := tv_rng t22
  obtain ⟨t23, hk⟩ := List.forall_mem_cons.mp hk
  have t23 : tv_ok ta (0, 41, 41, []) (n_v vs 23) := t23
  have k23 : 41 ≤ v_iv (n_v vs 23) ∧ v_iv (n_v vs 23) ≤ 41 := tv_rng t23
  obtain ⟨t24, hk⟩ := List.forall_mem_cons.mp hk
  have t24 : tv_ok ta (0, 43, 43, []) (n_v vs 24) := t24
  have k24 : 43 ≤ v_iv (n_v vs 24) ∧ v_iv (n_v vs 24) ≤ 43 := tv_rng t24
  obtain ⟨t25, hk⟩ := List.forall_mem_cons.mp hk
  have t25 : tv_ok ta (0, 45, 45, []) (n_v vs 25) := t25
  have k25 : 45 ≤ v_iv (n_v vs 25) ∧ v_iv (n_v vs 25) ≤ 45 := tv_rng t25
  obtain ⟨t26, hk⟩ := List.forall_mem_cons.mp hk
  have t26 : tv_ok ta (0, 42, 42, []) (n_v vs 26) := t26
  have k26 : 42 ≤ v_iv (n_v vs 26) ∧ v_iv (n_v vs 26) ≤ 42 := tv_rng t26
  obtain ⟨t27, hk⟩ := List.forall_mem_cons.mp hk
  have t27 : tv_ok ta (0, 0, 4001, []) (n_v vs 27) := t27
  have k27 : 0 ≤ v_iv (n_v vs 27) ∧ v_iv (n_v vs 27) ≤ 4001 := tv_rng t27
  have hds : ∀ q ∈ ([(27, 6, 0, 0), (19, 6, 0, 0), (11, 6, 0, 0)] : List of_T), n_iv vs q.2.1 + q.2.2.1 ≤ n_iv vs q.1 ∧ n_iv vs q.1 ≤ n_iv vs q.2.1 + q.2.2.2 := hds
  obtain ⟨d0, hds⟩ := List.forall_mem_cons.mp hds
  have d0 : v_iv (n_v vs 6) + 0 ≤ v_iv (n_v vs 27) ∧ v_iv (n_v vs 27) ≤ v_iv (n_v vs 6) + 0 := d0
  obtain ⟨d1, hds⟩ := List.forall_mem_cons.mp hds
  have d1 : v_iv (n_v vs 6) + 0 ≤ v_iv (n_v vs 19) ∧ v_iv (n_v vs 19) ≤ v_iv (n_v vs 6) + 0 := d1
  obtain ⟨d2, hds⟩ := List.forall_mem_cons.mp hds
  have d2 : v_iv (n_v vs 6) + 0 ≤ v_iv (n_v vs 11) ∧ v_iv (n_v vs 11) ≤ v_iv (n_v vs 6) + 0 := d2
  have hf : fc_ok [(20, [2, 5], [50, 2, 0, 157, 11, 2, 7, 0, 3, 2, 0, 157, 1, 1, 1, 3, 2, 0, 11, 1, 1]), (20, [27, 5], [30, -4001, -1, 0, 0, -2, 0, 0]), (24, [0, 2], []), (7, [12, 26], [0]), (7, [12, 25], [1]), (7, [12, 24], [1]), (7, [12, 23], [1]), (7, [12, 22], [1]), (7, [12, 21], [1]), (7, [12, 20], [1]), (20, [2, 5], [50, 2, 0, 157, 11, 2, 7, 0, 3, 2, 0, 157, 1, 1, 1, 3, 2, 0, 11, 1, 1]), (20, [19, 5], [30, -4001, -1, 0, 0, -2, 0, 0]), (8, [12], [3]), (9, [5, 2], [11]), (20, [5, 2, 12], [50, 1, 1, 1010, 1001, 4, 11, 0, 6, 4, 2, 1, 0, 0, 1, 2, 1, 10, 1, 2, 1, 2, 9, 5, 3, 1, 1, 1, 0, 0, 256]), (20, [2, 5, 12], [50, 1, 0, 10, 4, 7, 0, 3, 2, 0, 10, 1, 1, 1, 2, 1, 2, 0, -1]), (20, [2], [50, 2, 0, 157, 11, 0, 3, 2, 0, 157, 2, 0, 11]), (20, [11, 2], [30, -4001, -1, 0, 0, -2, 1, 11]), (7, [9, 10], [1]), (20, [5, 2, 9], [50, 1, 1, 1010, 1001, 4, 11, 0, 6, 4, 2, 1, 0, 0, 1, 2, 1, 10, 1, 2, 1, 2, 9, 5, 3, 1, 1, 1, 0, 0, 256]), (20, [2, 5, 9], [50, 1, 0, 10, 4, 7, 0, 3, 2, 0, 10, 1, 1, 1, 2, 1, 2, 0, -1]), (7, [7, 8], [1]), (20, [5, 2, 7], [50, 1, 1, 1010, 1001, 4, 11, 0, 6, 4, 2, 1, 0, 0, 1, 2, 1, 10, 1, 2, 1, 2, 9, 5, 3, 1, 1, 1, 0, 0, 256]), (20, [2, 5, 7], [50, 1, 0, 10, 4, 7, 0, 3, 2, 0, 10, 1, 1, 1, 2, 1, 2, 0, -1]), (20, [2], [50, 2, 0, 157, 11, 0, 3, 2, 0, 157, 2, 0, 11]), (20, [6, 2], [30, -4001, -1, 0, 0, -2, 1, 11])] ta ws vs := hf
  obtain ⟨f0, hf⟩ := fc_un (by decide) hf
  have f0 : (w_fi ws (n_v vs 2) 157 ≤ v_iv (n_v vs 5)) ∧ (w_fi ws (n_v vs 2) 11 = v_iv (n_v vs 5)) := f0
  obtain ⟨f1, hf⟩ := fc_un (by decide) hf
  have f1 : (-1) * v_iv (n_v vs 27) + ((-2) * v_iv (n_v vs 5) + 0) ≤ (-4001) := f1
  obtain ⟨f2, hf⟩ := fc_un (by decide) hf
  have f2 : n_v vs 0 = n_v vs 2 := f2
  obtain ⟨f3, hf⟩ := fc_un (by decide) hf
  have f3 : v_iv (n_v vs 12) = v_iv (n_v vs 26) := f3
  obtain ⟨f4, hf⟩ := fc_un (by decide) hf
  have f4 : v_iv (n_v vs 12) ≠ v_iv (n_v vs 25) := f4
  obtain ⟨f5, hf⟩ := fc_un (by decide) hf
  have f5 : v_iv (n_v vs 12) ≠ v_iv (n_v vs 24) := f5
  obtain ⟨f6, hf⟩ := fc_un (by decide) hf
  have f6 : v_iv (n_v vs 12) ≠ v_iv (n_v vs 23) := f6
  obtain ⟨f7, hf⟩ := fc_un (by decide) hf
  have f7 : v_iv (n_v vs 12) ≠ v_iv (n_v vs 22) := f7
  obtain ⟨f8, hf⟩ := fc_un (by decide) hf
  have f8 : v_iv (n_v vs 12) ≠ v_iv (n_v vs 21) := f8
  obtain ⟨f9, hf⟩ := fc_un (by decide) hf
  have f9 : v_iv (n_v vs 12) ≠ v_iv (n_v vs 20) := f9
  obtain ⟨f10, hf⟩ := fc_un (by decide) hf
  have f10 : (w_fi ws (n_v vs 2) 157 ≤ v_iv (n_v vs 5)) ∧ (w_fi ws (n_v vs 2) 11 = v_iv (n_v vs 5)) := f10
  obtain ⟨f11, hf⟩ := fc_un (by decide) hf
  have f11 : (-1) * v_iv (n_v vs 19) + ((-2) * v_iv (n_v vs 5) + 0) ≤ (-4001) := f11
  obtain ⟨f12, hf⟩ := fc_un (by decide) hf
  have f12 : 0 ≤ v_iv (n_v vs 12) := f12
  obtain ⟨f13, hf⟩ := fc_un (by decide) hf
  have f13 : n_v vs 5 = w_fd ws (v_ad (n_v vs 2)) 11 := f13
  obtain ⟨f14, hf⟩ := fc_un (by decide) hf
  have f14 : ((v_iv (n_v vs 5) + 1) ≤ w_fi ws (n_v vs 2) 10) → (v_iv (n_v vs 12) = (w_ei ws (w_ar ws (n_v vs 2) 1) (v_iv (n_v vs 5)) % 256)) := f14
  obtain ⟨f15, hf⟩ := fc_un (by decide) hf
  have f15 : (w_fi ws (n_v vs 2) 10 ≤ v_iv (n_v vs 5)) → (v_iv (n_v vs 12) = (-1)) := f15
  obtain ⟨f16, hf⟩ := fc_un (by decide) hf
  have f16 : w_fi ws (n_v vs 2) 157 ≤ w_fi ws (n_v vs 2) 11 := f16
  obtain ⟨f17, hf⟩ := fc_un (by decide) hf
  have f17 : (-1) * v_iv (n_v vs 11) + ((-2) * w_fi ws (n_v vs 2) 11 + 0) ≤ (-4001) := f17
  obtain ⟨f18, hf⟩ := fc_un (by decide) hf
  have f18 : v_iv (n_v vs 9) ≠ v_iv (n_v vs 10) := f18
  obtain ⟨f19, hf⟩ := fc_un (by decide) hf
  have f19 : ((v_iv (n_v vs 5) + 1) ≤ w_fi ws (n_v vs 2) 10) → (v_iv (n_v vs 9) = (w_ei ws (w_ar ws (n_v vs 2) 1) (v_iv (n_v vs 5)) % 256)) := f19
  obtain ⟨f20, hf⟩ := fc_un (by decide) hf
  have f20 : (w_fi ws (n_v vs 2) 10 ≤ v_iv (n_v vs 5)) → (v_iv (n_v vs 9) = (-1)) := f20
  obtain ⟨f21, hf⟩ := fc_un (by decide) hf
  have f21 : v_iv (n_v vs 7) ≠ v_iv (n_v vs 8) := f21
  obtain ⟨f22, hf⟩ := fc_un (by decide) hf
  have f22 : ((v_iv (n_v vs 5) + 1) ≤ w_fi ws (n_v vs 2) 10) → (v_iv (n_v vs 7) = (w_ei ws (w_ar ws (n_v vs 2) 1) (v_iv (n_v vs 5)) % 256)) := f22
  obtain ⟨f23, hf⟩ := fc_un (by decide) hf
  have f23 : (w_fi ws (n_v vs 2) 10 ≤ v_iv (n_v vs 5)) → (v_iv (n_v vs 7) = (-1)) := f23
  obtain ⟨f24, hf⟩ := fc_un (by decide) hf
  have f24 : w_fi ws (n_v vs 2) 157 ≤ w_fi ws (n_v vs 2) 11 := f24
  obtain ⟨f25, hf⟩ := fc_un (by decide) hf
  have f25 : (-1) * v_iv (n_v vs 6) + ((-2) * w_fi ws (n_v vs 2) 11 + 0) ≤ (-4001) := f25
  have q2 : n_v vs 2 = n_v vs 0 := f2.symm
  rw [q2] at f0
  rw [q2] at f10
  rw [q2] at f13
  rw [q2] at f14
  rw [q2] at f15
  rw [q2] at f16
  rw [q2] at f17
  rw [q2] at f19
  rw [q2] at f20
  rw [q2] at f22
  rw [q2] at f23
  rw [q2] at f24
  rw [q2] at f25
  have cr_0_1 : ta (w_ar ws (n_v vs 0) 1) = some 151 := tv_rg (th_fd hD hth r0 (g := GG_150) rfl (k := 1) (t := (2, 0, 0, [151])) rfl rfl)
  have g13 : v_iv (n_v vs 5) = w_fi ws (n_v vs 0) 11 := congrArg v_iv f13
  have hK_0_1 : ∀ j : Int, 0 ≤ j → j < 2000 → (-128) ≤ w_ei ws (w_ar ws (n_v vs 0) 1) j ∧ w_ei ws (w_ar ws (n_v vs 0) 1) j ≤ 127 := fun j h0 h1 => th_el hD hth cr_0_1 (kd := 1) (n := 2000) (m := 2000) (lo := (-128)) (hi := 127) (rs := []) (L := []) rfl (by decide) (j := j.toNat) (by omega)
  have kz_0_10 : 0 ≤ w_fi ws (n_v vs 0) 10 ∧ w_fi ws (n_v vs 0) 10 ≤ 2000 := tv_rng (th_fd hD hth r0 (g := GG_150) rfl (k := 10) (t := (0, 0, 2000, [])) rfl rfl)
  have kz_0_11 : 0 ≤ w_fi ws (n_v vs 0) 11 ∧ w_fi ws (n_v vs 0) 11 ≤ 2000 := tv_rng (th_fd hD hth r0 (g := GG_150) rfl (k := 11) (t := (0, 0, 2000, [])) rfl rfl)
  have kz_0_157 : 0 ≤ w_fi ws (n_v vs 0) 157 ∧ w_fi ws (n_v vs 0) 157 ≤ 2010 := tv_rng (th_fd hD hth r0 (g := GG_150) rfl (k := 157) (t := (0, 0, 2010, [])) rfl rfl)
  obtain ⟨x, ex, hx⟩ := iv_ex (ta := ta) (lo := 0) (hi := 4001) (z := 0 + (1 * v_iv (n_v vs 6) + 0)) (by omega) (by omega) (by decide) (by decide)
  have ex2 : v_iv (Value.int x) = 0 + (1 * v_iv (n_v vs 6) + 0) := ex
  have ex3 : 0 ≤ v_iv (Value.int x) ∧ v_iv (Value.int x) ≤ 4001 := tv_rng hx
  have e_0 : n_v (vs ++ [Value.int x]) 0 = n_v vs 0 := n_v_old (by rw [hl]; decide)
  have e_2 : n_v (vs ++ [Value.int x]) 2 = n_v vs 2 := n_v_old (by rw [hl]; decide)
  have e_5 : n_v (vs ++ [Value.int x]) 5 = n_v vs 5 := n_v_old (by rw [hl]; decide)
  have e_29 : n_v (vs ++ [Value.int x]) 29 = Value.int x := n_v_new hl
  have nf0 : fc_1 (20, [2, 5], [50, 2, 0, 157, 11, 2, 7, 0, 3, 2, 0, 157, 1, 1, 1, 3, 2, 0, 11, 1, 1]) ws (vs ++ [Value.int x]) := by
    refine ⟨fun n hn => ?_, ?_⟩
    · have hn : n ∈ [2, 5] := hn
      rw [List.length_append, hl]
      simp only [List.mem_cons, List.not_mem_nil, or_false] at hn
      show n < 29 + 1; omega
    · show (w_fi ws (n_v (vs ++ [Value.int x]) 2) 157 ≤ v_iv (n_v (vs ++ [Value.int x]) 5)) ∧ (w_fi ws (n_v (vs ++ [Value.int x]) 2) 11 = v_iv (n_v (vs ++ [Value.int x]) 5))
      rw [e_2]
      rw [e_5]
      rw [q2]
      first | omega | grind
  have nf1 : fc_1 (20, [29, 5], [30, -4001, -1, 0, 0, -2, 0, 0]) ws (vs ++ [Value.int x]) := by
    refine ⟨fun n hn => ?_, ?_⟩
    · have hn : n ∈ [29, 5] := hn
      rw [List.length_append, hl]
      simp only [List.mem_cons, List.not_mem_nil, or_false] at hn
      show n < 29 + 1; omega
    · show (-1) * v_iv (n_v (vs ++ [Value.int x]) 29) + ((-2) * v_iv (n_v (vs ++ [Value.int x]) 5) + 0) ≤ (-4001)
      rw [e_5]
      rw [e_29]
      omega
  have nf2 : fc_1 (24, [0, 2], []) ws (vs ++ [Value.int x]) := by
    refine ⟨fun n hn => ?_, ?_⟩
    · have hn : n ∈ [0, 2] := hn
      rw [List.length_append, hl]
      simp only [List.mem_cons, List.not_mem_nil, or_false] at hn
      show n < 29 + 1; omega
    · show n_v (vs ++ [Value.int x]) 0 = n_v (vs ++ [Value.int x]) 2
      first | rfl | simp only [e_0, e_2, q2]
  obtain ⟨x0, e0, _, _⟩ := tv_int t6 rfl
  have e1 : v_iv (n_v vs 6) = x0.toInt := by rw [e0]; rfl
  have ho : sy_ofs (vs ++ [Value.int x]) (29, 6, 0, 0) := by
    refine ⟨x, x0, by rw [List.getElem?_append_right (by rw [hl]; decide), hl]; rfl, ?_, ?_, ?_⟩
    · rw [List.getElem?_append_left (by rw [hl]; decide)]; exact n_v_some (by rw [hl]; decide) e0
    · show x0.toInt + 0 ≤ x.toInt; omega
    · show x.toInt ≤ x0.toInt + 0; omega
  exact ⟨fun q hq => (by cases hq), [Value.int x], ag_one hx, List.forall_mem_cons.mpr ⟨⟨by decide, nf0⟩, List.forall_mem_cons.mpr ⟨⟨by decide, nf1⟩, List.forall_mem_cons.mpr ⟨⟨by decide, nf2⟩, (fun _ h => (by cases h))⟩⟩⟩, List.forall_mem_cons.mpr ⟨ho, (fun _ h => (by cases h))⟩⟩
def o_Mo_styleTokens_132 : or_T := (334, 28, [(0, (2, 0, 0, [150])), (2, (2, 0, 0, [150])), (5, (0, 0, 1999, [])), (6, (0, 0, 4001, [])), (7, (0, 0, 255, [])), (8, (0, 32, 32, [])), (9, (0, 0, 255, [])), (10, (0, 10, 10, [])), (11, (0, 0, 4001, [])), (12, (0, 47, 47, [])), (19, (0, 0, 4001, [])), (20, (0, 123, 123, [])), (21, (0, 125, 125, [])), (22, (0, 40, 40, [])), (23, (0, 41, 41, [])), (24, (0, 43, 43, [])), (25, (0, 45, 45, [])), (26, (0, 42, 42, [])), (27, (0, 47, 47, []))], [(7, [12, 27], [0]), (7, [12, 26], [1]), (7, [12, 25], [1]), (7, [12, 24], [1]), (7, [12, 23], [1]), (7, [12, 22], [1]), (7, [12, 21], [1]), (7, [12, 20], [1]), (20, [2, 5], [50, 2, 0, 157, 11, 2, 7, 0, 3, 2, 0, 157, 1, 1, 1, 3, 2, 0, 11, 1, 1]), (20, [19, 5], [30, -4001, -1, 0, 0, -2, 0, 0]), (24, [0, 2], []), (8, [12], [3]), (9, [5, 2], [11]), (20, [5, 2, 12], [50, 1, 1, 1010, 1001, 4, 11, 0, 6, 4, 2, 1, 0, 0, 1, 2, 1, 10, 1, 2, 1, 2, 9, 5, 3, 1, 1, 1, 0, 0, 256]), (20, [2, 5, 12], [50, 1, 0, 10, 4, 7, 0, 3, 2, 0, 10, 1, 1, 1, 2, 1, 2, 0, -1]), (20, [2], [50, 2, 0, 157, 11, 0, 3, 2, 0, 157, 2, 0, 11]), (20, [11, 2], [30, -4001, -1, 0, 0, -2, 1, 11]), (7, [9, 10], [1]), (20, [5, 2, 9], [50, 1, 1, 1010, 1001, 4, 11, 0, 6, 4, 2, 1, 0, 0, 1, 2, 1, 10, 1, 2, 1, 2, 9, 5, 3, 1, 1, 1, 0, 0, 256]), (20, [2, 5, 9], [50, 1, 0, 10, 4, 7, 0, 3, 2, 0, 10, 1, 1, 1, 2, 1, 2, 0, -1]), (7, [7, 8], [1]), (20, [5, 2, 7], [50, 1, 1, 1010, 1001, 4, 11, 0, 6, 4, 2, 1, 0, 0, 1, 2, 1, 10, 1, 2, 1, 2, 9, 5, 3, 1, 1, 1, 0, 0, 256]), (20, [2, 5, 7], [50, 1, 0, 10, 4, 7, 0, 3, 2, 0, 10, 1, 1, 1, 2, 1, 2, 0, -1]), (20, [2], [50, 2, 0, 157, 11, 0, 3, 2, 0, 157, 2, 0, 11]), (20, [6, 2], [30, -4001, -1, 0, 0, -2, 1, 11])], [], [(0, 0, 4001, [])], [(20, [2, 5], [50, 2, 0, 157, 11, 2, 7, 0, 3, 2, 0, 157, 1, 1, 1, 3, 2, 0, 11, 1, 1]), (20, [28, 5], [30, -4001, -1, 0, 0, -2, 0, 0]), (24, [0, 2], [])], [(28, 6, 0, 0)], [(19, 6, 0, 0), (11, 6, 0, 0)])
theorem oo_Mo_styleTokens_132 {kA : Nat → ClassId} : or_ok kA GG o_Mo_styleTokens_132 := by
  intro A ta ws vs hD hth hl hk hds hf
  have hl : vs.length = 28 := hl
  have hk : ∀ q ∈ ([(0, (2, 0, 0, [150])), (2, (2, 0, 0, [150])), (5, (0, 0, 1999, [])), (6, (0, 0, 4001, [])), (7, (0, 0, 255, [])), (8, (0, 32, 32, [])), (9, (0, 0, 255, [])), (10, (0, 10, 10, [])), (11, (0, 0, 4001, [])), (12, (0, 47, 47, [])), (19, (0, 0, 4001, [])), (20, (0, 123, 123, [])), (21, (0, 125, 125, [])), (22, (0, 40, 40, [])), (23, (0, 41, 41, [])), (24, (0, 43, 43, [])), (25, (0, 45, 45, [])), (26, (0, 42, 42, [])), (27, (0, 47, 47, []))] : List (Nat × tv_T)), tv_ok ta q.2 (n_v vs q.1) := hk
  obtain ⟨t0, hk⟩ := List.forall_mem_cons.mp hk
  have t0 : tv_ok ta (2, 0, 0, [150]) (n_v vs 0) := t0
  have r0 : ta (v_ad (n_v vs 0)) = some 150 := tv_rg t0
  obtain ⟨t2, hk⟩ := List.forall_mem_cons.mp hk
  have t2 : tv_ok ta (2, 0, 0, [150]) (n_v vs 2) := t2
  have r2 : ta (v_ad (n_v vs 2)) = some 150 := tv_rg t2
  obtain ⟨t5, hk⟩ := List.forall_mem_cons.mp hk
  have t5 : tv_ok ta (0, 0, 1999, []) (n_v vs 5) := t5
  have k5 : 0 ≤ v_iv (n_v vs 5) ∧ v_iv (n_v vs 5) ≤ 1999 := tv_rng t5
  obtain ⟨t6, hk⟩ := List.forall_mem_cons.mp hk
  have t6 : tv_ok ta (0, 0, 4001, []) (n_v vs 6) := t6
  have k6 : 0 ≤ v_iv (n_v vs 6) ∧ v_iv (n_v vs 6) ≤ 4001 := tv_rng t6
  obtain ⟨t7, hk⟩ := List.forall_mem_cons.mp hk
  have t7 : tv_ok ta (0, 0, 255, []) (n_v vs 7) := t7
  have k7 : 0 ≤ v_iv (n_v vs 7) ∧ v_iv (n_v vs 7) ≤ 255 := tv_rng t7
  obtain ⟨t8, hk⟩ := List.forall_mem_cons.mp hk
  have t8 : tv_ok ta (0, 32, 32, []) (n_v vs 8) := t8
  have k8 : 32 ≤ v_iv (n_v vs 8) ∧ v_iv (n_v vs 8) ≤ 32 := tv_rng t8
  obtain ⟨t9, hk⟩ := List.forall_mem_cons.mp hk
  have t9 : tv_ok ta (0, 0, 255, []) (n_v vs 9) := t9
  have k9 : 0 ≤ v_iv (n_v vs 9) ∧ v_iv (n_v vs 9) ≤ 255 := tv_rng t9
  obtain ⟨t10, hk⟩ := List.forall_mem_cons.mp hk
  have t10 : tv_ok ta (0, 10, 10, []) (n_v vs 10) := t10
  have k10 : 10 ≤ v_iv (n_v vs 10) ∧ v_iv (n_v vs 10) ≤ 10 := tv_rng t10
  obtain ⟨t11, hk⟩ := List.forall_mem_cons.mp hk
  have t11 : tv_ok ta (0, 0, 4001, []) (n_v vs 11) := t11
  have k11 : 0 ≤ v_iv (n_v vs 11) ∧ v_iv (n_v vs 11) ≤ 4001 := tv_rng t11
  obtain ⟨t12, hk⟩ := List.forall_mem_cons.mp hk
  have t12 : tv_ok ta (0, 47, 47, []) (n_v vs 12) := t12
  have k12 : 47 ≤ v_iv (n_v vs 12) ∧ v_iv (n_v vs 12) ≤ 47 := tv_rng t12
  obtain ⟨t19, hk⟩ := List.forall_mem_cons.mp hk
  have t19 : tv_ok ta (0, 0, 4001, []) (n_v vs 19) := t19
  have k19 : 0 ≤ v_iv (n_v vs 19) ∧ v_iv (n_v vs 19) ≤ 4001 := tv_rng t19
  obtain ⟨t20, hk⟩ := List.forall_mem_cons.mp hk
  have t20 : tv_ok ta (0, 123, 123, []) (n_v vs 20) := t20
  have k20 : 123 ≤ v_iv (n_v vs 20) ∧ v_iv (n_v vs 20) ≤ 123 := tv_rng t20
  obtain ⟨t21, hk⟩ := List.forall_mem_cons.mp hk
  have t21 : tv_ok ta (0, 125, 125, []) (n_v vs 21) := t21
  have k21 : 125 ≤ v_iv (n_v vs 21) ∧ v_iv (n_v vs 21) ≤ 125 := tv_rng t21
  obtain ⟨t22, hk⟩ := List.forall_mem_cons.mp hk
  have t22 : tv_ok ta (0, 40, 40, []) (n_v vs 22) := t22
  have k22 : 40 ≤ v_iv (n_v vs 22) ∧ v_iv (n_v vs 22) ≤ 40 := tv_rng t22
  obtain ⟨t23, hk⟩ := List.forall_mem_cons.mp hk
  have t23 : tv_ok ta (0, 41, 41, []) (n_v vs 23) := t23
  have k23 : 41 ≤ v_iv (n_v vs 23) ∧ v_iv (n_v vs 23) ≤ 41 := tv_rng t23
  obtain ⟨t24, hk⟩ := List.forall_mem_cons.mp hk
  have t24 : tv_ok ta (0, 43, 43, []) (n_v vs 24) := t24
  have k24 : 43 ≤ v_iv (n_v vs 24) ∧ v_iv (n_v vs 24) ≤ 43 := tv_rng t24
  obtain ⟨t25, hk⟩ := List.forall_mem_cons.mp hk
  have t25 : tv_ok ta (0, 45, 45, []) (n_v vs 25) := t25
  have k25 : 45 ≤ v_iv (n_v vs 25) ∧ v_iv (n_v vs 25) ≤ 45 := tv_rng t25
  obtain ⟨t26, hk⟩ := List.forall_mem_cons.mp hk
  have t26 : tv_ok ta (0, 42, 42, []) (n_v vs 26) := t26
  have k26 : 42 ≤ v_iv (n_v vs 26) ∧ v_iv (n_v vs 26) ≤ 42 := tv_rng t26
  obtain ⟨t27, hk⟩ := List.forall_mem_cons.mp hk
  have t27 : tv_ok ta (0, 47, 47, []) (n_v vs 27) := t27
  have k27 : 47 ≤ v_iv (n_v vs 27) ∧ v_iv (n_v vs 27) ≤ 47 := tv_rng t27
  have hds : ∀ q ∈ ([(19, 6, 0, 0), (11, 6, 0, 0)] : List of_T), n_iv vs q.2.1 + q.2.2.1 ≤ n_iv vs q.1 ∧ n_iv vs q.1 ≤ n_iv vs q.2.1 + q.2.2.2 := hds
  obtain ⟨d0, hds⟩ := List.forall_mem_cons.mp hds
  have d0 : v_iv (n_v vs 6) + 0 ≤ v_iv (n_v vs 19) ∧ v_iv (n_v vs 19) ≤ v_iv (n_v vs 6) + 0 := d0
  obtain ⟨d1, hds⟩ := List.forall_mem_cons.mp hds
  have d1 : v_iv (n_v vs 6) + 0 ≤ v_iv (n_v vs 11) ∧ v_iv (n_v vs 11) ≤ v_iv (n_v vs 6) + 0 := d1
  have hf : fc_ok [(7, [12, 27], [0]), (7, [12, 26], [1]), (7, [12, 25], [1]), (7, [12, 24], [1]), (7, [12, 23], [1]), (7, [12, 22], [1]), (7, [12, 21], [1]), (7, [12, 20], [1]), (20, [2, 5], [50, 2, 0, 157, 11, 2, 7, 0, 3, 2, 0, 157, 1, 1, 1, 3, 2, 0, 11, 1, 1]), (20, [19, 5], [30, -4001, -1, 0, 0, -2, 0, 0]), (24, [0, 2], []), (8, [12], [3]), (9, [5, 2], [11]), (20, [5, 2, 12], [50, 1, 1, 1010, 1001, 4, 11, 0, 6, 4, 2, 1, 0, 0, 1, 2, 1, 10, 1, 2, 1, 2, 9, 5, 3, 1, 1, 1, 0, 0, 256]), (20, [2, 5, 12], [50, 1, 0, 10, 4, 7, 0, 3, 2, 0, 10, 1, 1, 1, 2, 1, 2, 0, -1]), (20, [2], [50, 2, 0, 157, 11, 0, 3, 2, 0, 157, 2, 0, 11]), (20, [11, 2], [30, -4001, -1, 0, 0, -2, 1, 11]), (7, [9, 10], [1]), (20, [5, 2, 9], [50, 1, 1, 1010, 1001, 4, 11, 0, 6, 4, 2, 1, 0, 0, 1, 2, 1, 10, 1, 2, 1, 2, 9, 5, 3, 1, 1, 1, 0, 0, 256]), (20, [2, 5, 9], [50, 1, 0, 10, 4, 7, 0, 3, 2, 0, 10, 1, 1, 1, 2, 1, 2, 0, -1]), (7, [7, 8], [1]), (20, [5, 2, 7], [50, 1, 1, 1010, 1001, 4, 11, 0, 6, 4, 2, 1, 0, 0, 1, 2, 1, 10, 1, 2, 1, 2, 9, 5, 3, 1, 1, 1, 0, 0, 256]), (20, [2, 5, 7], [50, 1, 0, 10, 4, 7, 0, 3, 2, 0, 10, 1, 1, 1, 2, 1, 2, 0, -1]), (20, [2], [50, 2, 0, 157, 11, 0, 3, 2, 0, 157, 2, 0, 11]), (20, [6, 2], [30, -4001, -1, 0, 0, -2, 1, 11])] ta ws vs := hf
  obtain ⟨f0, hf⟩ := fc_un (by decide) hf
  have f0 : v_iv (n_v vs 12) = v_iv (n_v vs 27) := f0
  obtain ⟨f1, hf⟩ := fc_un (by decide) hf
  have f1 : v_iv (n_v vs 12) ≠ v_iv (n_v vs 26) := f1
  obtain ⟨f2, hf⟩ := fc_un (by decide) hf
  have f2 : v_iv (n_v vs 12) ≠ v_iv (n_v vs 25) := f2
  obtain ⟨f3, hf⟩ := fc_un (by decide) hf
  have f3 : v_iv (n_v vs 12) ≠ v_iv (n_v vs 24) := f3
  obtain ⟨f4, hf⟩ := fc_un (by decide) hf
  have f4 : v_iv (n_v vs 12) ≠ v_iv (n_v vs 23) := f4
  obtain ⟨f5, hf⟩ := fc_un (by decide) hf
  have f5 : v_iv (n_v vs 12) ≠ v_iv (n_v vs 22) := f5
  obtain ⟨f6, hf⟩ := fc_un (by decide) hf
  have f6 : v_iv (n_v vs 12) ≠ v_iv (n_v vs 21) := f6
  obtain ⟨f7, hf⟩ := fc_un (by decide) hf
  have f7 : v_iv (n_v vs 12) ≠ v_iv (n_v vs 20) := f7
  obtain ⟨f8, hf⟩ := fc_un (by decide) hf
  have f8 : (w_fi ws (n_v vs 2) 157 ≤ v_iv (n_v vs 5)) ∧ (w_fi ws (n_v vs 2) 11 = v_iv (n_v vs 5)) := f8
  obtain ⟨f9, hf⟩ := fc_un (by decide) hf
  have f9 : (-1) * v_iv (n_v vs 19) + ((-2) * v_iv (n_v vs 5) + 0) ≤ (-4001) := f9
  obtain ⟨f10, hf⟩ := fc_un (by decide) hf
  have f10 : n_v vs 0 = n_v vs 2 := f10
  obtain ⟨f11, hf⟩ := fc_un (by decide) hf
  have f11 : 0 ≤ v_iv (n_v vs 12) := f11
  obtain ⟨f12, hf⟩ := fc_un (by decide) hf
  have f12 : n_v vs 5 = w_fd ws (v_ad (n_v vs 2)) 11 := f12
  obtain ⟨f13, hf⟩ := fc_un (by decide) hf
  have f13 : ((v_iv (n_v vs 5) + 1) ≤ w_fi ws (n_v vs 2) 10) → (v_iv (n_v vs 12) = (w_ei ws (w_ar ws (n_v vs 2) 1) (v_iv (n_v vs 5)) % 256)) := f13
  obtain ⟨f14, hf⟩ := fc_un (by decide) hf
  have f14 : (w_fi ws (n_v vs 2) 10 ≤ v_iv (n_v vs 5)) → (v_iv (n_v vs 12) = (-1)) := f14
  obtain ⟨f15, hf⟩ := fc_un (by decide) hf
  have f15 : w_fi ws (n_v vs 2) 157 ≤ w_fi ws (n_v vs 2) 11 := f15
  obtain ⟨f16, hf⟩ := fc_un (by decide) hf
  have f16 : (-1) * v_iv (n_v vs 11) + ((-2) * w_fi ws (n_v vs 2) 11 + 0) ≤ (-4001) := f16
  obtain ⟨f17, hf⟩ := fc_un (by decide) hf
  have f17 : v_iv (n_v vs 9) ≠ v_iv (n_v vs 10) := f17
  obtain ⟨f18, hf⟩ := fc_un (by decide) hf
  have f18 : ((v_iv (n_v vs 5) + 1) ≤ w_fi ws (n_v vs 2) 10) → (v_iv (n_v vs 9) = (w_ei ws (w_ar ws (n_v vs 2) 1) (v_iv (n_v vs 5)) % 256)) := f18
  obtain ⟨f19, hf⟩ := fc_un (by decide) hf
  have f19 : (w_fi ws (n_v vs 2) 10 ≤ v_iv (n_v vs 5)) → (v_iv (n_v vs 9) = (-1)) := f19
  obtain ⟨f20, hf⟩ := fc_un (by decide) hf
  have f20 : v_iv (n_v vs 7) ≠ v_iv (n_v vs 8) := f20
  obtain ⟨f21, hf⟩ := fc_un (by decide) hf
  have f21 : ((v_iv (n_v vs 5) + 1) ≤ w_fi ws (n_v vs 2) 10) → (v_iv (n_v vs 7) = (w_ei ws (w_ar ws (n_v vs 2) 1) (v_iv (n_v vs 5)) % 256)) := f21
  obtain ⟨f22, hf⟩ := fc_un (by decide) hf
  have f22 : (w_fi ws (n_v vs 2) 10 ≤ v_iv (n_v vs 5)) → (v_iv (n_v vs 7) = (-1)) := f22
  obtain ⟨f23, hf⟩ := fc_un (by decide) hf
  have f23 : w_fi ws (n_v vs 2) 157 ≤ w_fi ws (n_v vs 2) 11 := f23
  obtain ⟨f24, hf⟩ := fc_un (by decide) hf
  have f24 : (-1) * v_iv (n_v vs 6) + ((-2) * w_fi ws (n_v vs 2) 11 + 0) ≤ (-4001) := f24
  have q2 : n_v vs 2 = n_v vs 0 := f10.symm
  rw [q2] at f8
  rw [q2] at f12
  rw [q2] at f13
  rw [q2] at f14
  rw [q2] at f15
  rw [q2] at f16
  rw [q2] at f18
  rw [q2] at f19
  rw [q2] at f21
  rw [q2] at f22
  rw [q2] at f23
  rw [q2] at f24
  have cr_0_1 : ta (w_ar ws (n_v vs 0) 1) = some 151 := tv_rg (th_fd hD hth r0 (g := GG_150) rfl (k := 1) (t := (2, 0, 0, [151])) rfl rfl)
  have g12 : v_iv (n_v vs 5) = w_fi ws (n_v vs 0) 11 := congrArg v_iv f12
  have hK_0_1 : ∀ j : Int, 0 ≤ j → j < 2000 → (-128) ≤ w_ei ws (w_ar ws (n_v vs 0) 1) j ∧ w_ei ws (w_ar ws (n_v vs 0) 1) j ≤ 127 := fun j h0 h1 => th_el hD hth cr_0_1 (kd := 1) (n := 2000) (m := 2000) (lo := (-128)) (hi := 127) (rs := []) (L := []) rfl (by decide) (j := j.toNat) (by omega)
  have kz_0_10 : 0 ≤ w_fi ws (n_v vs 0) 10 ∧ w_fi ws (n_v vs 0) 10 ≤ 2000 := tv_rng (th_fd hD hth r0 (g := GG_150) rfl (k := 10) (t := (0, 0, 2000, [])) rfl rfl)
  have kz_0_11 : 0 ≤ w_fi ws (n_v vs 0) 11 ∧ w_fi ws (n_v vs 0) 11 ≤ 2000 := tv_rng (th_fd hD hth r0 (g := GG_150) rfl (k := 11) (t := (0, 0, 2000, [])) rfl rfl)
  have kz_0_157 : 0 ≤ w_fi ws (n_v vs 0) 157 ∧ w_fi ws (n_v vs 0) 157 ≤ 2010 := tv_rng (th_fd hD hth r0 (g := GG_150) rfl (k := 157) (t := (0, 0, 2010, [])) rfl rfl)
  obtain ⟨x, ex, hx⟩ := iv_ex (ta := ta) (lo := 0) (hi := 4001) (z := 0 + (1 * v_iv (n_v vs 6) + 0)) (by omega) (by omega) (by decide) (by decide)
  have ex2 : v_iv (Value.int x) = 0 + (1 * v_iv (n_v vs 6) + 0) := ex
  have ex3 : 0 ≤ v_iv (Value.int x) ∧ v_iv (Value.int x) ≤ 4001 := tv_rng hx
  have e_0 : n_v (vs ++ [Value.int x]) 0 = n_v vs 0 := n_v_old (by rw [hl]; decide)
  have e_2 : n_v (vs ++ [Value.int x]) 2 = n_v vs 2 := n_v_old (by rw [hl]; decide)
  have e_5 : n_v (vs ++ [Value.int x]) 5 = n_v vs 5 := n_v_old (by rw [hl]; decide)
  have e_28 : n_v (vs ++ [Value.int x]) 28 = Value.int x := n_v_new hl
  have nf0 : fc_1 (20, [2, 5], [50, 2, 0, 157, 11, 2, 7, 0, 3, 2, 0, 157, 1, 1, 1, 3, 2, 0, 11, 1, 1]) ws (vs ++ [Value.int x]) := by
    refine ⟨fun n hn => ?_, ?_⟩
    · have hn : n ∈ [2, 5] := hn
      rw [List.length_append, hl]
      simp only [List.mem_cons, List.not_mem_nil, or_false] at hn
      show n < 28 + 1; omega
    · show (w_fi ws (n_v (vs ++ [Value.int x]) 2) 157 ≤ v_iv (n_v (vs ++ [Value.int x]) 5)) ∧ (w_fi ws (n_v (vs ++ [Value.int x]) 2) 11 = v_iv (n_v (vs ++ [Value.int x]) 5))
      rw [e_2]
      rw [e_5]
      rw [q2]
      first | omega | grind
  have nf1 : fc_1 (20, [28, 5], [30, -4001, -1, 0, 0, -2, 0, 0]) ws (vs ++ [Value.int x]) := by
    refine ⟨fun n hn => ?_, ?_⟩
    · have hn : n ∈ [28, 5] := hn
      rw [List.length_append, hl]
      simp only [List.mem_cons, List.not_mem_nil, or_false] at hn
      show n < 28 + 1; omega
    · show (-1) * v_iv (n_v (vs ++ [Value.int x]) 28) + ((-2) * v_iv (n_v (vs ++ [Value.int x]) 5) + 0) ≤ (-4001)
      rw [e_5]
      rw [e_28]
      omega
  have nf2 : fc_1 (24, [0, 2], []) ws (vs ++ [Value.int x]) := by
    refine ⟨fun n hn => ?_, ?_⟩
    · have hn : n ∈ [0, 2] := hn
      rw [List.length_append, hl]
      simp only [List.mem_cons, List.not_mem_nil, or_false] at hn
      show n < 28 + 1; omega
    · show n_v (vs ++ [Value.int x]) 0 = n_v (vs ++ [Value.int x]) 2
      first | rfl | simp only [e_0, e_2, q2]
  obtain ⟨x0, e0, _, _⟩ := tv_int t6 rfl
  have e1 : v_iv (n_v vs 6) = x0.toInt := by rw [e0]; rfl
  have ho : sy_ofs (vs ++ [Value.int x]) (28, 6, 0, 0) := by
    refine ⟨x, x0, by rw [List.getElem?_append_right (by rw [hl]; decide), hl]; rfl, ?_, ?_, ?_⟩
    · rw [List.getElem?_append_left (by rw [hl]; decide)]; exact n_v_some (by rw [hl]; decide) e0
    · show x0.toInt + 0 ≤ x.toInt; omega
    · show x.toInt ≤ x0.toInt + 0; omega
  exact ⟨fun q hq => (by cases hq), [Value.int x], ag_one hx, List.forall_mem_cons.mpr ⟨⟨by decide, nf0⟩, List.forall_mem_cons.mpr ⟨⟨by decide, nf1⟩, List.forall_mem_cons.mpr ⟨⟨by decide, nf2⟩, (fun _ h => (by cases h))⟩⟩⟩, List.forall_mem_cons.mpr ⟨ho, (fun _ h => (by cases h))⟩⟩
def o_Mo_styleTokens_133 : or_T := (339, 30, [(0, (2, 0, 0, [150])), (2, (2, 0, 0, [150])), (5, (0, 0, 1999, [])), (6, (0, 0, 4001, [])), (7, (0, 0, 255, [])), (8, (0, 32, 32, [])), (9, (0, 0, 255, [])), (10, (0, 10, 10, [])), (11, (0, 0, 4001, [])), (12, (0, 47, 47, [])), (19, (0, 0, 4001, [])), (20, (0, 123, 123, [])), (21, (0, 125, 125, [])), (22, (0, 40, 40, [])), (23, (0, 41, 41, [])), (24, (0, 43, 43, [])), (25, (0, 45, 45, [])), (26, (0, 42, 42, [])), (27, (0, 47, 47, [])), (28, (0, 0, 4001, []))], [(20, [2, 5], [50, 2, 0, 157, 11, 2, 7, 0, 3, 2, 0, 157, 1, 1, 1, 3, 2, 0, 11, 1, 1]), (20, [28, 5], [30, -4001, -1, 0, 0, -2, 0, 0]), (24, [0, 2], []), (7, [12, 27], [0]), (7, [12, 26], [1]), (7, [12, 25], [1]), (7, [12, 24], [1]), (7, [12, 23], [1]), (7, [12, 22], [1]), (7, [12, 21], [1]), (7, [12, 20], [1]), (20, [2, 5], [50, 2, 0, 157, 11, 2, 7, 0, 3, 2, 0, 157, 1, 1, 1, 3, 2, 0, 11, 1, 1]), (20, [19, 5], [30, -4001, -1, 0, 0, -2, 0, 0]), (8, [12], [3]), (9, [5, 2], [11]), (20, [5, 2, 12], [50, 1, 1, 1010, 1001, 4, 11, 0, 6, 4, 2, 1, 0, 0, 1, 2, 1, 10, 1, 2, 1, 2, 9, 5, 3, 1, 1, 1, 0, 0, 256]), (20, [2, 5, 12], [50, 1, 0, 10, 4, 7, 0, 3, 2, 0, 10, 1, 1, 1, 2, 1, 2, 0, -1]), (20, [2], [50, 2, 0, 157, 11, 0, 3, 2, 0, 157, 2, 0, 11]), (20, [11, 2], [30, -4001, -1, 0, 0, -2, 1, 11]), (7, [9, 10], [1]), (20, [5, 2, 9], [50, 1, 1, 1010, 1001, 4, 11, 0, 6, 4, 2, 1, 0, 0, 1, 2, 1, 10, 1, 2, 1, 2, 9, 5, 3, 1, 1, 1, 0, 0, 256]), (20, [2, 5, 9], [50, 1, 0, 10, 4, 7, 0, 3, 2, 0, 10, 1, 1, 1, 2, 1, 2, 0, -1]), (7, [7, 8], [1]), (20, [5, 2, 7], [50, 1, 1, 1010, 1001, 4, 11, 0, 6, 4, 2, 1, 0, 0, 1, 2, 1, 10, 1, 2, 1, 2, 9, 5, 3, 1, 1, 1, 0, 0, 256]), (20, [2, 5, 7], [50, 1, 0, 10, 4, 7, 0, 3, 2, 0, 10, 1, 1, 1, 2, 1, 2, 0, -1]), (20, [2], [50, 2, 0, 157, 11, 0, 3, 2, 0, 157, 2, 0, 11]), (20, [6, 2], [30, -4001, -1, 0, 0, -2, 1, 11])], [], [(0, 0, 4001, [])], [(20, [2, 5], [50, 2, 0, 157, 11, 2, 7, 0, 3, 2, 0, 157, 1, 1, 1, 3, 2, 0, 11, 1, 1]), (20, [30, 5], [30, -4001, -1, 0, 0, -2, 0, 0]), (24, [0, 2], [])], [(30, 6, 0, 0)], [(28, 6, 0, 0), (19, 6, 0, 0), (11, 6, 0, 0)])
theorem oo_Mo_styleTokens_133 {kA : Nat → ClassId} : or_ok kA GG o_Mo_styleTokens_133 := by
  intro A ta ws vs hD hth hl hk hds hf
  have hl : vs.length = 30 := hl
  have hk : ∀ q ∈ ([(0, (2, 0, 0, [150])), (2, (2, 0, 0, [150])), (5, (0, 0, 1999, [])), (6, (0, 0, 4001, [])), (7, (0, 0, 255, [])), (8, (0, 32, 32, [])), (9, (0, 0, 255, [])), (10, (0, 10, 10, [])), (11, (0, 0, 4001, [])), (12, (0, 47, 47, [])), (19, (0, 0, 4001, [])), (20, (0, 123, 123, [])), (21, (0, 125, 125, [])), (22, (0, 40, 40, [])), (23, (0, 41, 41, [])), (24, (0, 43, 43, [])), (25, (0, 45, 45, [])), (26, (0, 42, 42, [])), (27, (0, 47, 47, [])), (28, (0, 0, 4001, []))] : List (Nat × tv_T)), tv_ok ta q.2 (n_v vs q.1) := hk
  obtain ⟨t0, hk⟩ := List.forall_mem_cons.mp hk
  have t0 : tv_ok ta (2, 0, 0, [150]) (n_v vs 0) := t0
  have r0 : ta (v_ad (n_v vs 0)) = some 150 := tv_rg t0
  obtain ⟨t2, hk⟩ := List.forall_mem_cons.mp hk
  have t2 : tv_ok ta (2, 0, 0, [150]) (n_v vs 2) := t2
  have r2 : ta (v_ad (n_v vs 2)) = some 150 := tv_rg t2
  obtain ⟨t5, hk⟩ := List.forall_mem_cons.mp hk
  have t5 : tv_ok ta (0, 0, 1999, []) (n_v vs 5) := t5
  have k5 : 0 ≤ v_iv (n_v vs 5) ∧ v_iv (n_v vs 5) ≤ 1999 := tv_rng t5
  obtain ⟨t6, hk⟩ := List.forall_mem_cons.mp hk
  have t6 : tv_ok ta (0, 0, 4001, []) (n_v vs 6) := t6
  have k6 : 0 ≤ v_iv (n_v vs 6) ∧ v_iv (n_v vs 6) ≤ 4001 := tv_rng t6
  obtain ⟨t7, hk⟩ := List.forall_mem_cons.mp hk
  have t7 : tv_ok ta (0, 0, 255, []) (n_v vs 7) := t7
  have k7 : 0 ≤ v_iv (n_v vs 7) ∧ v_iv (n_v vs 7) ≤ 255 := tv_rng t7
  obtain ⟨t8, hk⟩ := List.forall_mem_cons.mp hk
  have t8 : tv_ok ta (0, 32, 32, []) (n_v vs 8) := t8
  have k8 : 32 ≤ v_iv (n_v vs 8) ∧ v_iv (n_v vs 8) ≤ 32 := tv_rng t8
  obtain ⟨t9, hk⟩ := List.forall_mem_cons.mp hk
  have t9 : tv_ok ta (0, 0, 255, []) (n_v vs 9) := t9
  have k9 : 0 ≤ v_iv (n_v vs 9) ∧ v_iv (n_v vs 9) ≤ 255 := tv_rng t9
  obtain ⟨t10, hk⟩ := List.forall_mem_cons.mp hk
  have t10 : tv_ok ta (0, 10, 10, []) (n_v vs 10) := t10
  have k10 : 10 ≤ v_iv (n_v vs 10) ∧ v_iv (n_v vs 10) ≤ 10 := tv_rng t10
  obtain ⟨t11, hk⟩ := List.forall_mem_cons.mp hk
  have t11 : tv_ok ta (0, 0, 4001, []) (n_v vs 11) := t11
  have k11 : 0 ≤ v_iv (n_v vs 11) ∧ v_iv (n_v vs 11) ≤ 4001 := tv_rng t11
  obtain ⟨t12, hk⟩ := List.forall_mem_cons.mp hk
  have t12 : tv_ok ta (0, 47, 47, []) (n_v vs 12) := t12
  have k12 : 47 ≤ v_iv (n_v vs 12) ∧ v_iv (n_v vs 12) ≤ 47 := tv_rng t12
  obtain ⟨t19, hk⟩ := List.forall_mem_cons.mp hk
  have t19 : tv_ok ta (0, 0, 4001, []) (n_v vs 19) := t19
  have k19 : 0 ≤ v_iv (n_v vs 19) ∧ v_iv (n_v vs 19) ≤ 4001 := tv_rng t19
  obtain ⟨t20, hk⟩ := List.forall_mem_cons.mp hk
  have t20 : tv_ok ta (0, 123, 123, []) (n_v vs 20) := t20
  have k20 : 123 ≤ v_iv (n_v vs 20) ∧ v_iv (n_v vs 20) ≤ 123 := tv_rng t20
  obtain ⟨t21, hk⟩ := List.forall_mem_cons.mp hk
  have t21 : tv_ok ta (0, 125, 125, []) (n_v vs 21) := t21
  have k21 : 125 ≤ v_iv (n_v vs 21) ∧ v_iv (n_v vs 21) ≤ 125 := tv_rng t21
  obtain ⟨t22, hk⟩ := List.forall_mem_cons.mp hk
  have t22 : tv_ok ta (0, 40, 40, []) (n_v vs 22) := t22
  have k22 : 40 ≤ v_iv (n_v vs 22) ∧ v_iv (n_v vs 22) ≤ 40 := tv_rng t22
  obtain ⟨t23, hk⟩ := List.forall_mem_cons.mp hk
  have t23 : tv_ok ta (0, 41, 41, []) (n_v vs 23) := t23
  have k23 : 41 ≤ v_iv (n_v vs 23) ∧ v_iv (n_v vs 23) ≤ 41 := tv_rng t23
  obtain ⟨t24, hk⟩ := List.forall_mem_cons.mp hk
  have t24 : tv_ok ta (0, 43, 43, []) (n_v vs 24) := t24
  have k24 : 43 ≤ v_iv (n_v vs 24) ∧ v_iv (n_v vs 24) ≤ 43 := tv_rng t24
  obtain ⟨t25, hk⟩ := List.forall_mem_cons.mp hk
  have t25 : tv_ok ta (0, 45, 45, []) (n_v vs 25) := t25
  have k25 : 45 ≤ v_iv (n_v vs 25) ∧ v_iv (n_v vs 25) ≤ 45 := tv_rng t25
  obtain ⟨t26, hk⟩ := List.forall_mem_cons.mp hk
  have t26 : tv_ok ta (0, 42, 42, []) (n_v vs 26) := t26
  have k26 : 42 ≤ v_iv (n_v vs 26) ∧ v_iv (n_v vs 26) ≤ 42 := tv_rng t26
  obtain ⟨t27, hk⟩ := List.forall_mem_cons.mp hk
  have t27 : tv_ok ta (0, 47, 47, []) (n_v vs 27) := t27
  have k27 : 47 ≤ v_iv (n_v vs 27) ∧ v_iv (n_v vs 27) ≤ 47 := tv_rng t27
  obtain ⟨t28, hk⟩ := List.forall_mem_cons.mp hk
  have t28 : tv_ok ta (0, 0, 4001, []) (n_v vs 28) := t28
  have k28 : 0 ≤ v_iv (n_v vs 28) ∧ v_iv (n_v vs 28) ≤ 4001 := tv_rng t28
  have hds : ∀ q ∈ ([(28, 6, 0, 0), (19, 6, 0, 0), (11, 6, 0, 0)] : List of_T), n_iv vs q.2.1 + q.2.2.1 ≤ n_iv vs q.1 ∧ n_iv vs q.1 ≤ n_iv vs q.2.1 + q.2.2.2 := hds
  obtain ⟨d0, hds⟩ := List.forall_mem_cons.mp hds
  have d0 : v_iv (n_v vs 6) + 0 ≤ v_iv (n_v vs 28) ∧ v_iv (n_v vs 28) ≤ v_iv (n_v vs 6) + 0 := d0
  obtain ⟨d1, hds⟩ := List.forall_mem_cons.mp hds
  have d1 : v_iv (n_v vs 6) + 0 ≤ v_iv (n_v vs 19) ∧ v_iv (n_v vs 19) ≤ v_iv (n_v vs 6) + 0 := d1
  obtain ⟨d2, hds⟩ := List.forall_mem_cons.mp hds
  have d2 : v_iv (n_v vs 6) + 0 ≤ v_iv (n_v vs 11) ∧ v_iv (n_v vs 11) ≤ v_iv (n_v vs 6) + 0 := d2
  have hf : fc_ok [(20, [2, 5], [50, 2, 0, 157, 11, 2, 7, 0, 3, 2, 0, 157, 1, 1, 1, 3, 2, 0, 11, 1, 1]), (20, [28, 5], [30, -4001, -1, 0, 0, -2, 0, 0]), (24, [0, 2], []), (7, [12, 27], [0]), (7, [12, 26], [1]), (7, [12, 25], [1]), (7, [12, 24], [1]), (7, [12, 23], [1]), (7, [12, 22], [1]), (7, [12, 21], [1]), (7, [12, 20], [1]), (20, [2, 5], [50, 2, 0, 157, 11, 2, 7, 0, 3, 2, 0, 157, 1, 1, 1, 3, 2, 0, 11, 1, 1]), (20, [19, 5], [30, -4001, -1, 0, 0, -2, 0, 0]), (8, [12], [3]), (9, [5, 2], [11]), (20, [5, 2, 12], [50, 1, 1, 1010, 1001, 4, 11, 0, 6, 4, 2, 1, 0, 0, 1, 2, 1, 10, 1, 2, 1, 2, 9, 5, 3, 1, 1, 1, 0, 0, 256]), (20, [2, 5, 12], [50, 1, 0, 10, 4, 7, 0, 3, 2, 0, 10, 1, 1, 1, 2, 1, 2, 0, -1]), (20, [2], [50, 2, 0, 157, 11, 0, 3, 2, 0, 157, 2, 0, 11]), (20, [11, 2], [30, -4001, -1, 0, 0, -2, 1, 11]), (7, [9, 10], [1]), (20, [5, 2, 9], [50, 1, 1, 1010, 1001, 4, 11, 0, 6, 4, 2, 1, 0, 0, 1, 2, 1, 10, 1, 2, 1, 2, 9, 5, 3, 1, 1, 1, 0, 0, 256]), (20, [2, 5, 9], [50, 1, 0, 10, 4, 7, 0, 3, 2, 0, 10, 1, 1, 1, 2, 1, 2, 0, -1]), (7, [7, 8], [1]), (20, [5, 2, 7], [50, 1, 1, 1010, 1001, 4, 11, 0, 6, 4, 2, 1, 0, 0, 1, 2, 1, 10, 1, 2, 1, 2, 9, 5, 3, 1, 1, 1, 0, 0, 256]), (20, [2, 5, 7], [50, 1, 0, 10, 4, 7, 0, 3, 2, 0, 10, 1, 1, 1, 2, 1, 2, 0, -1]), (20, [2], [50, 2, 0, 157, 11, 0, 3, 2, 0, 157, 2, 0, 11]), (20, [6, 2], [30, -4001, -1, 0, 0, -2, 1, 11])] ta ws vs := hf
  obtain ⟨f0, hf⟩ := fc_un (by decide) hf
  have f0 : (w_fi ws (n_v vs 2) 157 ≤ v_iv (n_v vs 5)) ∧ (w_fi ws (n_v vs 2) 11 = v_iv (n_v vs 5)) := f0
  obtain ⟨f1, hf⟩ := fc_un (by decide) hf
  have f1 : (-1) * v_iv (n_v vs 28) + ((-2) * v_iv (n_v vs 5) + 0) ≤ (-4001) := f1
  obtain ⟨f2, hf⟩ := fc_un (by decide) hf
  have f2 : n_v vs 0 = n_v vs 2 := f2
  obtain ⟨f3, hf⟩ := fc_un (by decide) hf
  have f3 : v_iv (n_v vs 12) = v_iv (n_v vs 27) := f3
  obtain ⟨f4, hf⟩ := fc_un (by decide) hf
  have f4 : v_iv (n_v vs 12) ≠ v_iv (n_v vs 26) := f4
  obtain ⟨f5, hf⟩ := fc_un (by decide) hf
  have f5 : v_iv (n_v vs 12) ≠ v_iv (n_v vs 25) := f5
  obtain ⟨f6, hf⟩ := fc_un (by decide) hf
  have f6 : v_iv (n_v vs 12) ≠ v_iv (n_v vs 24) := f6
  obtain ⟨f7, hf⟩ := fc_un (by decide) hf
  have f7 : v_iv (n_v vs 12) ≠ v_iv (n_v vs 23) := f7
  obtain ⟨f8, hf⟩ := fc_un (by decide) hf
  have f8 : v_iv (n_v vs 12) ≠ v_iv (n_v vs 22) := f8
  obtain ⟨f9, hf⟩ := fc_un (by decide) hf
  have f9 : v_iv (n_v vs 12) ≠ v_iv (n_v vs 21) := f9
  obtain ⟨f10, hf⟩ := fc_un (by decide) hf
  have f10 : v_iv (n_v vs 12) ≠ v_iv (n_v vs 20) := f10
  obtain ⟨f11, hf⟩ := fc_un (by decide) hf
  have f11 : (w_fi ws (n_v vs 2) 157 ≤ v_iv (n_v vs 5)) ∧ (w_fi ws (n_v vs 2) 11 = v_iv (n_v vs 5)) := f11
  obtain ⟨f12, hf⟩ := fc_un (by decide) hf
  have f12 : (-1) * v_iv (n_v vs 19) + ((-2) * v_iv (n_v vs 5) + 0) ≤ (-4001) := f12
  obtain ⟨f13, hf⟩ := fc_un (by decide) hf
  have f13 : 0 ≤ v_iv (n_v vs 12) := f13
  obtain ⟨f14, hf⟩ := fc_un (by decide) hf
  have f14 : n_v vs 5 = w_fd ws (v_ad (n_v vs 2)) 11 := f14
  obtain ⟨f15, hf⟩ := fc_un (by decide) hf
  have f15 : ((v_iv (n_v vs 5) + 1) ≤ w_fi ws (n_v vs 2) 10) → (v_iv (n_v vs 12) = (w_ei ws (w_ar ws (n_v vs 2) 1) (v_iv (n_v vs 5)) % 256)) := f15
  obtain ⟨f16, hf⟩ := fc_un (by decide) hf
  have f16 : (w_fi ws (n_v vs 2) 10 ≤ v_iv (n_v vs 5)) → (v_iv (n_v vs 12) = (-1)) := f16
  obtain ⟨f17, hf⟩ := fc_un (by decide) hf
  have f17 : w_fi ws (n_v vs 2) 157 ≤ w_fi ws (n_v vs 2) 11 := f17
  obtain ⟨f18, hf⟩ := fc_un (by decide) hf
  have f18 : (-1) * v_iv (n_v vs 11) + ((-2) * w_fi ws (n_v vs 2) 11 + 0) ≤ (-4001) := f18
  obtain ⟨f19, hf⟩ := fc_un (by decide) hf
  have f19 : v_iv (n_v vs 9) ≠ v_iv (n_v vs 10) := f19
  obtain ⟨f20, hf⟩ := fc_un (by decide) hf
  have f20 : ((v_iv (n_v vs 5) + 1) ≤ w_fi ws (n_v vs 2) 10) → (v_iv (n_v vs 9) = (w_ei ws (w_ar ws (n_v vs 2) 1) (v_iv (n_v vs 5)) % 256)) := f20
  obtain ⟨f21, hf⟩ := fc_un (by decide) hf
  have f21 : (w_fi ws (n_v vs 2) 10 ≤ v_iv (n_v vs 5)) → (v_iv (n_v vs 9) = (-1)) := f21
  obtain ⟨f22, hf⟩ := fc_un (by decide) hf
  have f22 : v_iv (n_v vs 7) ≠ v_iv (n_v vs 8) := f22
  obtain ⟨f23, hf⟩ := fc_un (by decide) hf
  have f23 : ((v_iv (n_v vs 5) + 1) ≤ w_fi ws (n_v vs 2) 10) → (v_iv (n_v vs 7) = (w_ei ws (w_ar ws (n_v vs 2) 1) (v_iv (n_v vs 5)) % 256)) := f23
  obtain ⟨f24, hf⟩ := fc_un (by decide) hf
  have f24 : (w_fi ws (n_v vs 2) 10 ≤ v_iv (n_v vs 5)) → (v_iv (n_v vs 7) = (-1)) := f24
  obtain ⟨f25, hf⟩ := fc_un (by decide) hf
  have f25 : w_fi ws (n_v vs 2) 157 ≤ w_fi ws (n_v vs 2) 11 := f25
  obtain ⟨f26, hf⟩ := fc_un (by decide) hf
  have f26 : (-1) * v_iv (n_v vs 6) + ((-2) * w_fi ws (n_v vs 2) 11 + 0) ≤ (-4001) := f26
  have q2 : n_v vs 2 = n_v vs 0 := f2.symm
  rw [q2] at f0
  rw [q2] at f11
  rw [q2] at f14
  rw [q2] at f15
  rw [q2] at f16
  rw [q2] at f17
  rw [q2] at f18
  rw [q2] at f20
  rw [q2] at f21
  rw [q2] at f23
  rw [q2] at f24
  rw [q2] at f25
  rw [q2] at f26
  have cr_0_1 : ta (w_ar ws (n_v vs 0) 1) = some 151 := tv_rg (th_fd hD hth r0 (g := GG_150) rfl (k := 1) (t := (2, 0, 0, [151])) rfl rfl)
  have g14 : v_iv (n_v vs 5) = w_fi ws (n_v vs 0) 11 := congrArg v_iv f14
  have hK_0_1 : ∀ j : Int, 0 ≤ j → j < 2000 → (-128) ≤ w_ei ws (w_ar ws (n_v vs 0) 1) j ∧ w_ei ws (w_ar ws (n_v vs 0) 1) j ≤ 127 := fun j h0 h1 => th_el hD hth cr_0_1 (kd := 1) (n := 2000) (m := 2000) (lo := (-128)) (hi := 127) (rs := []) (L := []) rfl (by decide) (j := j.toNat) (by omega)
  have kz_0_10 : 0 ≤ w_fi ws (n_v vs 0) 10 ∧ w_fi ws (n_v vs 0) 10 ≤ 2000 := tv_rng (th_fd hD hth r0 (g := GG_150) rfl (k := 10) (t := (0, 0, 2000, [])) rfl rfl)
  have kz_0_11 : 0 ≤ w_fi ws (n_v vs 0) 11 ∧ w_fi ws (n_v vs 0) 11 ≤ 2000 := tv_rng (th_fd hD hth r0 (g := GG_150) rfl (k := 11) (t := (0, 0, 2000, [])) rfl rfl)
  have kz_0_157 : 0 ≤ w_fi ws (n_v vs 0) 157 ∧ w_fi ws (n_v vs 0) 157 ≤ 2010 := tv_rng (th_fd hD hth r0 (g := GG_150) rfl (k := 157) (t := (0, 0, 2010, [])) rfl rfl)
  obtain ⟨x, ex, hx⟩ := iv_ex (ta := ta) (lo := 0) (hi := 4001) (z := 0 + (1 * v_iv (n_v vs 6) + 0)) (by omega) (by omega) (by decide) (by decide)
  have ex2 : v_iv (Value.int x) = 0 + (1 * v_iv (n_v vs 6) + 0) := ex
  have ex3 : 0 ≤ v_iv (Value.int x) ∧ v_iv (Value.int x) ≤ 4001 := tv_rng hx
  have e_0 : n_v (vs ++ [Value.int x]) 0 = n_v vs 0 := n_v_old (by rw [hl]; decide)
  have e_2 : n_v (vs ++ [Value.int x]) 2 = n_v vs 2 := n_v_old (by rw [hl]; decide)
  have e_5 : n_v (vs ++ [Value.int x]) 5 = n_v vs 5 := n_v_old (by rw [hl]; decide)
  have e_30 : n_v (vs ++ [Value.int x]) 30 = Value.int x := n_v_new hl
  have nf0 : fc_1 (20, [2, 5], [50, 2, 0, 157, 11, 2, 7, 0, 3, 2, 0, 157, 1, 1, 1, 3, 2, 0, 11, 1, 1]) ws (vs ++ [Value.int x]) := by
    refine ⟨fun n hn => ?_, ?_⟩
    · have hn : n ∈ [2, 5] := hn
      rw [List.length_append, hl]
      simp only [List.mem_cons, List.not_mem_nil, or_false] at hn
      show n < 30 + 1; omega
    · show (w_fi ws (n_v (vs ++ [Value.int x]) 2) 157 ≤ v_iv (n_v (vs ++ [Value.int x]) 5)) ∧ (w_fi ws (n_v (vs ++ [Value.int x]) 2) 11 = v_iv (n_v (vs ++ [Value.int x]) 5))
      rw [e_2]
      rw [e_5]
      rw [q2]
      first | omega | grind
  have nf1 : fc_1 (20, [30, 5], [30, -4001, -1, 0, 0, -2, 0, 0]) ws (vs ++ [Value.int x]) := by
    refine ⟨fun n hn => ?_, ?_⟩
    · have hn : n ∈ [30, 5] := hn
      rw [List.length_append, hl]
      simp only [List.mem_cons, List.not_mem_nil, or_false] at hn
      show n < 30 + 1; omega
    · show (-1) * v_iv (n_v (vs ++ [Value.int x]) 30) + ((-2) * v_iv (n_v (vs ++ [Value.int x]) 5) + 0) ≤ (-4001)
      rw [e_5]
      rw [e_30]
      omega
  have nf2 : fc_1 (24, [0, 2], []) ws (vs ++ [Value.int x]) := by
    refine ⟨fun n hn => ?_, ?_⟩
    · have hn : n ∈ [0, 2] := hn
      rw [List.length_append, hl]
      simp only [List.mem_cons, List.not_mem_nil, or_false] at hn
      show n < 30 + 1; omega
    · show n_v (vs ++ [Value.int x]) 0 = n_v (vs ++ [Value.int x]) 2
      first | rfl | simp only [e_0, e_2, q2]
  obtain ⟨x0, e0, _, _⟩ := tv_int t6 rfl
  have e1 : v_iv (n_v vs 6) = x0.toInt := by rw [e0]; rfl
  have ho : sy_ofs (vs ++ [Value.int x]) (30, 6, 0, 0) := by
    refine ⟨x, x0, by rw [List.getElem?_append_right (by rw [hl]; decide), hl]; rfl, ?_, ?_, ?_⟩
    · rw [List.getElem?_append_left (by rw [hl]; decide)]; exact n_v_some (by rw [hl]; decide) e0
    · show x0.toInt + 0 ≤ x.toInt; omega
    · show x.toInt ≤ x0.toInt + 0; omega
  exact ⟨fun q hq => (by cases hq), [Value.int x], ag_one hx, List.forall_mem_cons.mpr ⟨⟨by decide, nf0⟩, List.forall_mem_cons.mpr ⟨⟨by decide, nf1⟩, List.forall_mem_cons.mpr ⟨⟨by decide, nf2⟩, (fun _ h => (by cases h))⟩⟩⟩, List.forall_mem_cons.mpr ⟨ho, (fun _ h => (by cases h))⟩⟩
def o_Mo_styleTokens_134 : or_T := (334, 33, [(0, (2, 0, 0, [150])), (2, (2, 0, 0, [150])), (5, (0, 0, 1999, [])), (6, (0, 0, 4001, [])), (7, (0, 0, 255, [])), (8, (0, 32, 32, [])), (9, (0, 0, 255, [])), (10, (0, 10, 10, [])), (11, (0, 0, 4001, [])), (12, (0, 44, 44, [])), (19, (0, 0, 4001, [])), (20, (0, 123, 123, [])), (21, (0, 125, 125, [])), (22, (0, 40, 40, [])), (23, (0, 41, 41, [])), (24, (0, 43, 43, [])), (25, (0, 45, 45, [])), (26, (0, 42, 42, [])), (27, (0, 47, 47, [])), (28, (0, 60, 60, [])), (29, (0, 61, 61, [])), (30, (0, 62, 62, [])), (31, (0, 58, 58, [])), (32, (0, 44, 44, []))], [(7, [12, 32], [0]), (7, [12, 31], [1]), (7, [12, 30], [1]), (7, [12, 29], [1]), (7, [12, 28], [1]), (7, [12, 27], [1]), (7, [12, 26], [1]), (7, [12, 25], [1]), (7, [12, 24], [1]), (7, [12, 23], [1]), (7, [12, 22], [1]), (7, [12, 21], [1]), (7, [12, 20], [1]), (20, [2, 5], [50, 2, 0, 157, 11, 2, 7, 0, 3, 2, 0, 157, 1, 1, 1, 3, 2, 0, 11, 1, 1]), (20, [19, 5], [30, -4001, -1, 0, 0, -2, 0, 0]), (24, [0, 2], []), (8, [12], [3]), (9, [5, 2], [11]), (20, [5, 2, 12], [50, 1, 1, 1010, 1001, 4, 11, 0, 6, 4, 2, 1, 0, 0, 1, 2, 1, 10, 1, 2, 1, 2, 9, 5, 3, 1, 1, 1, 0, 0, 256]), (20, [2, 5, 12], [50, 1, 0, 10, 4, 7, 0, 3, 2, 0, 10, 1, 1, 1, 2, 1, 2, 0, -1]), (20, [2], [50, 2, 0, 157, 11, 0, 3, 2, 0, 157, 2, 0, 11]), (20, [11, 2], [30, -4001, -1, 0, 0, -2, 1, 11]), (7, [9, 10], [1]), (20, [5, 2, 9], [50, 1, 1, 1010, 1001, 4, 11, 0, 6, 4, 2, 1, 0, 0, 1, 2, 1, 10, 1, 2, 1, 2, 9, 5, 3, 1, 1, 1, 0, 0, 256]), (20, [2, 5, 9], [50, 1, 0, 10, 4, 7, 0, 3, 2, 0, 10, 1, 1, 1, 2, 1, 2, 0, -1]), (7, [7, 8], [1]), (20, [5, 2, 7], [50, 1, 1, 1010, 1001, 4, 11, 0, 6, 4, 2, 1, 0, 0, 1, 2, 1, 10, 1, 2, 1, 2, 9, 5, 3, 1, 1, 1, 0, 0, 256]), (20, [2, 5, 7], [50, 1, 0, 10, 4, 7, 0, 3, 2, 0, 10, 1, 1, 1, 2, 1, 2, 0, -1]), (20, [2], [50, 2, 0, 157, 11, 0, 3, 2, 0, 157, 2, 0, 11]), (20, [6, 2], [30, -4001, -1, 0, 0, -2, 1, 11])], [], [(0, 0, 4001, [])], [(20, [2, 5], [50, 2, 0, 157, 11, 2, 7, 0, 3, 2, 0, 157, 1, 1, 1, 3, 2, 0, 11, 1, 1]), (20, [33, 5], [30, -4001, -1, 0, 0, -2, 0, 0]), (24, [0, 2], [])], [(33, 6, 0, 0)], [(19, 6, 0, 0), (11, 6, 0, 0)])
theorem oo_Mo_styleTokens_134 {kA : Nat → ClassId} : or_ok kA GG o_Mo_styleTokens_134 := by
  intro A ta ws vs hD hth hl hk hds hf
  have hl : vs.length = 33 := hl
  have hk : ∀ q ∈ ([(0, (2, 0, 0, [150])), (2, (2, 0, 0, [150])), (5, (0, 0, 1999, [])), (6, (0, 0, 4001, [])), (7, (0, 0, 255, [])), (8, (0, 32, 32, [])), (9, (0, 0, 255, [])), (10, (0, 10, 10, [])), (11, (0, 0, 4001, [])), (12, (0, 44, 44, [])), (19, (0, 0, 4001, [])), (20, (0, 123, 123, [])), (21, (0, 125, 125, [])), (22, (0, 40, 40, [])), (23, (0, 41, 41, [])), (24, (0, 43, 43, [])), (25, (0, 45, 45, [])), (26, (0, 42, 42, [])), (27, (0, 47, 47, [])), (28, (0, 60, 60, [])), (29, (0, 61, 61, [])), (30, (0, 62, 62, [])), (31, (0, 58, 58, [])), (32, (0, 44, 44, []))] : List (Nat × tv_T)), tv_ok ta q.2 (n_v vs q.1) := hk
  obtain ⟨t0, hk⟩ := List.forall_mem_cons.mp hk
  have t0 : tv_ok ta (2, 0, 0, [150]) (n_v vs 0) := t0
  have r0 : ta (v_ad (n_v vs 0)) = some 150 := tv_rg t0
  obtain ⟨t2, hk⟩ := List.forall_mem_cons.mp hk
  have t2 : tv_ok ta (2, 0, 0, [150]) (n_v vs 2) := t2
  have r2 : ta (v_ad (n_v vs 2)) = some 150 := tv_rg t2
  obtain ⟨t5, hk⟩ := List.forall_mem_cons.mp hk
  have t5 : tv_ok ta (0, 0, 1999, []) (n_v vs 5) := t5
  have k5 : 0 ≤ v_iv (n_v vs 5) ∧ v_iv (n_v vs 5) ≤ 1999 := tv_rng t5
  obtain ⟨t6, hk⟩ := List.forall_mem_cons.mp hk
  have t6 : tv_ok ta (0, 0, 4001, []) (n_v vs 6) := t6
  have k6 : 0 ≤ v_iv (n_v vs 6) ∧ v_iv (n_v vs 6) ≤ 4001 := tv_rng t6
  obtain ⟨t7, hk⟩ := List.forall_mem_cons.mp hk
  have t7 : tv_ok ta (0, 0, 255, []) (n_v vs 7) := t7
  have k7 : 0 ≤ v_iv (n_v vs 7) ∧ v_iv (n_v vs 7) ≤ 255 := tv_rng t7
  obtain ⟨t8, hk⟩ := List.forall_mem_cons.mp hk
  have t8 : tv_ok ta (0, 32, 32, []) (n_v vs 8) := t8
  have k8 : 32 ≤ v_iv (n_v vs 8) ∧ v_iv (n_v vs 8) ≤ 32 := tv_rng t8
  obtain ⟨t9, hk⟩ := List.forall_mem_cons.mp hk
  have t9 : tv_ok ta (0, 0, 255, []) (n_v vs 9) := t9
  have k9 : 0 ≤ v_iv (n_v vs 9) ∧ v_iv (n_v vs 9) ≤ 255 := tv_rng t9
  obtain ⟨t10, hk⟩ := List.forall_mem_cons.mp hk
  have t10 : tv_ok ta (0, 10, 10, []) (n_v vs 10) := t10
  have k10 : 10 ≤ v_iv (n_v vs 10) ∧ v_iv (n_v vs 10) ≤ 10 := tv_rng t10
  obtain ⟨t11, hk⟩ := List.forall_mem_cons.mp hk
  have t11 : tv_ok ta (0, 0, 4001, []) (n_v vs 11) := t11
  have k11 : 0 ≤ v_iv (n_v vs 11) ∧ v_iv (n_v vs 11) ≤ 4001 := tv_rng t11
  obtain ⟨t12, hk⟩ := List.forall_mem_cons.mp hk
  have t12 : tv_ok ta (0, 44, 44, []) (n_v vs 12) := t12
  have k12 : 44 ≤ v_iv (n_v vs 12) ∧ v_iv (n_v vs 12) ≤ 44 := tv_rng t12
  obtain ⟨t19, hk⟩ := List.forall_mem_cons.mp hk
  have t19 : tv_ok ta (0, 0, 4001, []) (n_v vs 19) := t19
  have k19 : 0 ≤ v_iv (n_v vs 19) ∧ v_iv (n_v vs 19) ≤ 4001 := tv_rng t19
  obtain ⟨t20, hk⟩ := List.forall_mem_cons.mp hk
  have t20 : tv_ok ta (0, 123, 123, []) (n_v vs 20) := t20
  have k20 : 123 ≤ v_iv (n_v vs 20) ∧ v_iv (n_v vs 20) ≤ 123 := tv_rng t20
  obtain ⟨t21, hk⟩ := List.forall_mem_cons.mp hk
  have t21 : tv_ok ta (0, 125, 125, []) (n_v vs 21) := t21
  have k21 : 125 ≤ v_iv (n_v vs 21) ∧ v_iv (n_v vs 21) ≤ 125 := tv_rng t21
  obtain ⟨t22, hk⟩ := List.forall_mem_cons.mp hk
  have t22 : tv_ok ta (0, 40, 40, []) (n_v vs 22) := t22
  have k22 : 40 ≤ v_iv (n_v vs 22) ∧ v_iv (n_v vs 22) ≤ 40 := tv_rng t22
  obtain ⟨t23, hk⟩ := List.forall_mem_cons.mp hk
  have t23 : tv_ok ta (0, 41, 41, []) (n_v vs 23) := t23
  have k23 : 41 ≤ v_iv (n_v vs 23) ∧ v_iv (n_v vs 23) ≤ 41 := tv_rng t23
  obtain ⟨t24, hk⟩ := List.forall_mem_cons.mp hk
  have t24 : tv_ok ta (0, 43, 43, []) (n_v vs 24) := t24
  have k24 : 43 ≤ v_iv (n_v vs 24) ∧ v_iv (n_v vs 24) ≤ 43 := tv_rng t24
  obtain ⟨t25, hk⟩ := List.forall_mem_cons.mp hk
  have t25 : tv_ok ta (0, 45, 45, []) (n_v vs 25) := t25
  have k25 : 45 ≤ v_iv (n_v vs 25) ∧ v_iv (n_v vs 25) ≤ 45 := tv_rng t25
  obtain ⟨t26, hk⟩ := List.forall_mem_cons.mp hk
  have t26 : tv_ok ta (0, 42, 42, []) (n_v vs 26) := t26
  have k26 : 42 ≤ v_iv (n_v vs 26) ∧ v_iv (n_v vs 26) ≤ 42 := tv_rng t26
  obtain ⟨t27, hk⟩ := List.forall_mem_cons.mp hk
  have t27 : tv_ok ta (0, 47, 47, []) (n_v vs 27) := t27
  have k27 : 47 ≤ v_iv (n_v vs 27) ∧ v_iv (n_v vs 27) ≤ 47 := tv_rng t27
  obtain ⟨t28, hk⟩ := List.forall_mem_cons.mp hk
  have t28 : tv_ok ta (0, 60, 60, []) (n_v vs 28) := t28
  have k28 : 60 ≤ v_iv (n_v vs 28) ∧ v_iv (n_v vs 28) ≤ 60 := tv_rng t28
  obtain ⟨t29, hk⟩ := List.forall_mem_cons.mp hk
  have t29 : tv_ok ta (0, 61, 61, []) (n_v vs 29) := t29
  have k29 : 61 ≤ v_iv (n_v vs 29) ∧ v_iv (n_v vs 29) ≤ 61 := tv_rng t29
  obtain ⟨t30, hk⟩ := List.forall_mem_cons.mp hk
  have t30 : tv_ok ta (0, 62, 62, []) (n_v vs 30) := t30
  have k30 : 62 ≤ v_iv (n_v vs 30) ∧ v_iv (n_v vs 30) ≤ 62 := tv_rng t30
  obtain ⟨t31, hk⟩ := List.forall_mem_cons.mp hk
  have t31 : tv_ok ta (0, 58, 58, []) (n_v vs 31) := t31
  have k31 : 58 ≤ v_iv (n_v vs 31) ∧ v_iv (n_v vs 31) ≤ 58 := tv_rng t31
  obtain ⟨t32, hk⟩ := List.forall_mem_cons.mp hk
  have t32 : tv_ok ta (0, 44, 44, []) (n_v vs 32) := t32
  have k32 : 44 ≤ v_iv (n_v vs 32) ∧ v_iv (n_v vs 32) ≤ 44 := tv_rng t32
  have hds : ∀ q ∈ ([(19, 6, 0, 0), (11, 6, 0, 0)] : List of_T), n_iv vs q.2.1 + q.2.2.1 ≤ n_iv vs q.1 ∧ n_iv vs q.1 ≤ n_iv vs q.2.1 + q.2.2.2 := hds
  obtain ⟨d0, hds⟩ := List.forall_mem_cons.mp hds
  have d0 : v_iv (n_v vs 6) + 0 ≤ v_iv (n_v vs 19) ∧ v_iv (n_v vs 19) ≤ v_iv (n_v vs 6) + 0 := d0
  obtain ⟨d1, hds⟩ := List.forall_mem_cons.mp hds
  have d1 : v_iv (n_v vs 6) + 0 ≤ v_iv (n_v vs 11) ∧ v_iv (n_v vs 11) ≤ v_iv (n_v vs 6) + 0 := d1
  have hf : fc_ok [(7, [12, 32], [0]), (7, [12, 31], [1]), (7, [12, 30], [1]), (7, [12, 29], [1]), (7, [12, 28], [1]), (7, [12, 27], [1]), (7, [12, 26], [1]), (7, [12, 25], [1]), (7, [12, 24], [1]), (7, [12, 23], [1]), (7, [12, 22], [1]), (7, [12, 21], [1]), (7, [12, 20], [1]), (20, [2, 5], [50, 2, 0, 157, 11, 2, 7, 0, 3, 2, 0, 157, 1, 1, 1, 3, 2, 0, 11, 1, 1]), (20, [19, 5], [30, -4001, -1, 0, 0, -2, 0, 0]), (24, [0, 2], []), (8, [12], [3]), (9, [5, 2], [11]), (20, [5, 2, 12], [50, 1, 1, 1010, 1001, 4, 11, 0, 6, 4, 2, 1, 0, 0, 1, 2, 1, 10, 1, 2, 1, 2, 9, 5, 3, 1, 1, 1, 0, 0, 256]), (20, [2, 5, 12], [50, 1, 0, 10, 4, 7, 0, 3, 2, 0, 10, 1, 1, 1, 2, 1, 2, 0, -1]), (20, [2], [50, 2, 0, 157, 11, 0, 3, 2, 0, 157, 2, 0, 11]), (20, [11, 2], [30, -4001, -1, 0, 0, -2, 1, 11]), (7, [9, 10], [1]), (20, [5, 2, 9], [50, 1, 1, 1010, 1001, 4, 11, 0, 6, 4, 2, 1, 0, 0, 1, 2, 1, 10, 1, 2, 1, 2, 9, 5, 3, 1, 1, 1, 0, 0, 256]), (20, [2, 5, 9], [50, 1, 0, 10, 4, 7, 0, 3, 2, 0, 10, 1, 1, 1, 2, 1, 2, 0, -1]), (7, [7, 8], [1]), (20, [5, 2, 7], [50, 1, 1, 1010, 1001, 4, 11, 0, 6, 4, 2, 1, 0, 0, 1, 2, 1, 10, 1, 2, 1, 2, 9, 5, 3, 1, 1, 1, 0, 0, 256]), (20, [2, 5, 7], [50, 1, 0, 10, 4, 7, 0, 3, 2, 0, 10, 1, 1, 1, 2, 1, 2, 0, -1]), (20, [2], [50, 2, 0, 157, 11, 0, 3, 2, 0, 157, 2, 0, 11]), (20, [6, 2], [30, -4001, -1, 0, 0, -2, 1, 11])] ta ws vs := hf
  obtain ⟨f0, hf⟩ := fc_un (by decide) hf
  have f0 : v_iv (n_v vs 12) = v_iv (n_v vs 32) := f0
  obtain ⟨f1, hf⟩ := fc_un (by decide) hf
  have f1 : v_iv (n_v vs 12) ≠ v_iv (n_v vs 31) := f1
  obtain ⟨f2, hf⟩ := fc_un (by decide) hf
  have f2 : v_iv (n_v vs 12) ≠ v_iv (n_v vs 30) := f2
  obtain ⟨f3, hf⟩ := fc_un (by decide) hf
  have f3 : v_iv (n_v vs 12) ≠ v_iv (n_v vs 29) := f3
  obtain ⟨f4, hf⟩ := fc_un (by decide) hf
  have f4 : v_iv (n_v vs 12) ≠ v_iv (n_v vs 28) := f4
  obtain ⟨f5, hf⟩ := fc_un (by decide) hf
  have f5 : v_iv (n_v vs 12) ≠ v_iv (n_v vs 27) := f5
  obtain ⟨f6, hf⟩ := fc_un (by decide) hf
  have f6 : v_iv (n_v vs 12) ≠ v_iv (n_v vs 26) := f6
  obtain ⟨f7, hf⟩ := fc_un (by decide) hf
  have f7 : v_iv (n_v vs 12) ≠ v_iv (n_v vs 25) := f7
  obtain ⟨f8, hf⟩ := fc_un (by decide) hf
  have f8 : v_iv (n_v vs 12) ≠ v_iv (n_v vs 24) := f8
  obtain ⟨f9, hf⟩ := fc_un (by decide) hf
  have f9 : v_iv (n_v vs 12) ≠ v_iv (n_v vs 23) := f9
  obtain ⟨f10, hf⟩ := fc_un (by decide) hf
  have f10 : v_iv (n_v vs 12) ≠ v_iv (n_v vs 22) := f10
  obtain ⟨f11, hf⟩ := fc_un (by decide) hf
  have f11 : v_iv (n_v vs 12) ≠ v_iv (n_v vs 21) := f11
  obtain ⟨f12, hf⟩ := fc_un (by decide) hf
  have f12 : v_iv (n_v vs 12) ≠ v_iv (n_v vs 20) := f12
  obtain ⟨f13, hf⟩ := fc_un (by decide) hf
  have f13 : (w_fi ws (n_v vs 2) 157 ≤ v_iv (n_v vs 5)) ∧ (w_fi ws (n_v vs 2) 11 = v_iv (n_v vs 5)) := f13
  obtain ⟨f14, hf⟩ := fc_un (by decide) hf
  have f14 : (-1) * v_iv (n_v vs 19) + ((-2) * v_iv (n_v vs 5) + 0) ≤ (-4001) := f14
  obtain ⟨f15, hf⟩ := fc_un (by decide) hf
  have f15 : n_v vs 0 = n_v vs 2 := f15
  obtain ⟨f16, hf⟩ := fc_un (by decide) hf
  have f16 : 0 ≤ v_iv (n_v vs 12) := f16
  obtain ⟨f17, hf⟩ := fc_un (by decide) hf
  have f17 : n_v vs 5 = w_fd ws (v_ad (n_v vs 2)) 11 := f17
  obtain ⟨f18, hf⟩ := fc_un (by decide) hf
  have f18 : ((v_iv (n_v vs 5) + 1) ≤ w_fi ws (n_v vs 2) 10) → (v_iv (n_v vs 12) = (w_ei ws (w_ar ws (n_v vs 2) 1) (v_iv (n_v vs 5)) % 256)) := f18
  obtain ⟨f19, hf⟩ := fc_un (by decide) hf
  have f19 : (w_fi ws (n_v vs 2) 10 ≤ v_iv (n_v vs 5)) → (v_iv (n_v vs 12) = (-1)) := f19
  obtain ⟨f20, hf⟩ := fc_un (by decide) hf
  have f20 : w_fi ws (n_v vs 2) 157 ≤ w_fi ws (n_v vs 2) 11 := f20
  obtain ⟨f21, hf⟩ := fc_un (by decide) hf
  have f21 : (-1) * v_iv (n_v vs 11) + ((-2) * w_fi ws (n_v vs 2) 11 + 0) ≤ (-4001) := f21
  obtain ⟨f22, hf⟩ := fc_un (by decide) hf
  have f22 : v_iv (n_v vs 9) ≠ v_iv (n_v vs 10) := f22
  obtain ⟨f23, hf⟩ := fc_un (by decide) hf
  have f23 : ((v_iv (n_v vs 5) + 1) ≤ w_fi ws (n_v vs 2) 10) → (v_iv (n_v vs 9) = (w_ei ws (w_ar ws (n_v vs 2) 1) (v_iv (n_v vs 5)) % 256)) := f23
  obtain ⟨f24, hf⟩ := fc_un (by decide) hf
  have f24 : (w_fi ws (n_v vs 2) 10 ≤ v_iv (n_v vs 5)) → (v_iv (n_v vs 9) = (-1)) := f24
  obtain ⟨f25, hf⟩ := fc_un (by decide) hf
  have f25 : v_iv (n_v vs 7) ≠ v_iv (n_v vs 8) := f25
  obtain ⟨f26, hf⟩ := fc_un (by decide) hf
  have f26 : ((v_iv (n_v vs 5) + 1) ≤ w_fi ws (n_v vs 2) 10) → (v_iv (n_v vs 7) = (w_ei ws (w_ar ws (n_v vs 2) 1) (v_iv (n_v vs 5)) % 256)) := f26
  obtain ⟨f27, hf⟩ := fc_un (by decide) hf
  have f27 : (w_fi ws (n_v vs 2) 10 ≤ v_iv (n_v vs 5)) → (v_iv (n_v vs 7) = (-1)) := f27
  obtain ⟨f28, hf⟩ := fc_un (by decide) hf
  have f28 : w_fi ws (n_v vs 2) 157 ≤ w_fi ws (n_v vs 2) 11 := f28
  obtain ⟨f29, hf⟩ := fc_un (by decide) hf
  have f29 : (-1) * v_iv (n_v vs 6) + ((-2) * w_fi ws (n_v vs 2) 11 + 0) ≤ (-4001) := f29
  have q2 : n_v vs 2 = n_v vs 0 := f15.symm
  rw [q2] at f13
  rw [q2] at f17
  rw [q2] at f18
  rw [q2] at f19
  rw [q2] at f20
  rw [q2] at f21
  rw [q2] at f23
  rw [q2] at f24
  rw [q2] at f26
  rw [q2] at f27
  rw [q2] at f28
  rw [q2] at f29
  have cr_0_1 : ta (w_ar ws (n_v vs 0) 1) = some 151 := tv_rg (th_fd hD hth r0 (g := GG_150) rfl (k := 1) (t := (2, 0, 0, [151])) rfl rfl)
  have g17 : v_iv (n_v vs 5) = w_fi ws (n_v vs 0) 11 := congrArg v_iv f17
  have hK_0_1 : ∀ j : Int, 0 ≤ j → j < 2000 → (-128) ≤ w_ei ws (w_ar ws (n_v vs 0) 1) j ∧ w_ei ws (w_ar ws (n_v vs 0) 1) j ≤ 127 := fun j h0 h1 => th_el hD hth cr_0_1 (kd := 1) (n := 2000) (m := 2000) (lo := (-128)) (hi := 127) (rs := []) (L := []) rfl (by decide) (j := j.toNat) (by omega)
  have kz_0_10 : 0 ≤ w_fi ws (n_v vs 0) 10 ∧ w_fi ws (n_v vs 0) 10 ≤ 2000 := tv_rng (th_fd hD hth r0 (g := GG_150) rfl (k := 10) (t := (0, 0, 2000, [])) rfl rfl)
  have kz_0_11 : 0 ≤ w_fi ws (n_v vs 0) 11 ∧ w_fi ws (n_v vs 0) 11 ≤ 2000 := tv_rng (th_fd hD hth r0 (g := GG_150) rfl (k := 11) (t := (0, 0, 2000, [])) rfl rfl)
  have kz_0_157 : 0 ≤ w_fi ws (n_v vs 0) 157 ∧ w_fi ws (n_v vs 0) 157 ≤ 2010 := tv_rng (th_fd hD hth r0 (g := GG_150) rfl (k := 157) (t := (0, 0, 2010, [])) rfl rfl)
  obtain ⟨x, ex, hx⟩ := iv_ex (ta := ta) (lo := 0) (hi := 4001) (z := 0 + (1 * v_iv (n_v vs 6) + 0)) (by omega) (by omega) (by decide) (by decide)
  have ex2 : v_iv (Value.int x) = 0 + (1 * v_iv (n_v vs 6) + 0) := ex
  have ex3 : 0 ≤ v_iv (Value.int x) ∧ v_iv (Value.int x) ≤ 4001 := tv_rng hx
  have e_0 : n_v (vs ++ [Value.int x]) 0 = n_v vs 0 := n_v_old (by rw [hl]; decide)
  have e_2 : n_v (vs ++ [Value.int x]) 2 = n_v vs 2 := n_v_old (by rw [hl]; decide)
  have e_5 : n_v (vs ++ [Value.int x]) 5 = n_v vs 5 := n_v_old (by rw [hl]; decide)
  have e_33 : n_v (vs ++ [Value.int x]) 33 = Value.int x := n_v_new hl
  have nf0 : fc_1 (20, [2, 5], [50, 2, 0, 157, 11, 2, 7, 0, 3, 2, 0, 157, 1, 1, 1, 3, 2, 0, 11, 1, 1]) ws (vs ++ [Value.int x]) := by
    refine ⟨fun n hn => ?_, ?_⟩
    · have hn : n ∈ [2, 5] := hn
      rw [List.length_append, hl]
      simp only [List.mem_cons, List.not_mem_nil, or_false] at hn
      show n < 33 + 1; omega
    · show (w_fi ws (n_v (vs ++ [Value.int x]) 2) 157 ≤ v_iv (n_v (vs ++ [Value.int x]) 5)) ∧ (w_fi ws (n_v (vs ++ [Value.int x]) 2) 11 = v_iv (n_v (vs ++ [Value.int x]) 5))
      rw [e_2]
      rw [e_5]
      rw [q2]
      first | omega | grind
  have nf1 : fc_1 (20, [33, 5], [30, -4001, -1, 0, 0, -2, 0, 0]) ws (vs ++ [Value.int x]) := by
    refine ⟨fun n hn => ?_, ?_⟩
    · have hn : n ∈ [33, 5] := hn
      rw [List.length_append, hl]
      simp only [List.mem_cons, List.not_mem_nil, or_false] at hn
      show n < 33 + 1; omega
    · show (-1) * v_iv (n_v (vs ++ [Value.int x]) 33) + ((-2) * v_iv (n_v (vs ++ [Value.int x]) 5) + 0) ≤ (-4001)
      rw [e_5]
      rw [e_33]
      omega
  have nf2 : fc_1 (24, [0, 2], []) ws (vs ++ [Value.int x]) := by
    refine ⟨fun n hn => ?_, ?_⟩
    · have hn : n ∈ [0, 2] := hn
      rw [List.length_append, hl]
      simp only [List.mem_cons, List.not_mem_nil, or_false] at hn
      show n < 33 + 1; omega
    · show n_v (vs ++ [Value.int x]) 0 = n_v (vs ++ [Value.int x]) 2
      first | rfl | simp only [e_0, e_2, q2]
  obtain ⟨x0, e0, _, _⟩ := tv_int t6 rfl
  have e1 : v_iv (n_v vs 6) = x0.toInt := by rw [e0]; rfl
  have ho : sy_ofs (vs ++ [Value.int x]) (33, 6, 0, 0) := by
    refine ⟨x, x0, by rw [List.getElem?_append_right (by rw [hl]; decide), hl]; rfl, ?_, ?_, ?_⟩
    · rw [List.getElem?_append_left (by rw [hl]; decide)]; exact n_v_some (by rw [hl]; decide) e0
    · show x0.toInt + 0 ≤ x.toInt; omega
    · show x.toInt ≤ x0.toInt + 0; omega
  exact ⟨fun q hq => (by cases hq), [Value.int x], ag_one hx, List.forall_mem_cons.mpr ⟨⟨by decide, nf0⟩, List.forall_mem_cons.mpr ⟨⟨by decide, nf1⟩, List.forall_mem_cons.mpr ⟨⟨by decide, nf2⟩, (fun _ h => (by cases h))⟩⟩⟩, List.forall_mem_cons.mpr ⟨ho, (fun _ h => (by cases h))⟩⟩
def o_Mo_styleTokens_135 : or_T := (339, 35, [(0, (2, 0, 0, [150])), (2, (2, 0, 0, [150])), (5, (0, 0, 1999, [])), (6, (0, 0, 4001, [])), (7, (0, 0, 255, [])), (8, (0, 32, 32, [])), (9, (0, 0, 255, [])), (10, (0, 10, 10, [])), (11, (0, 0, 4001, [])), (12, (0, 44, 44, [])), (19, (0, 0, 4001, [])), (20, (0, 123, 123, [])), (21, (0, 125, 125, [])), (22, (0, 40, 40, [])), (23, (0, 41, 41, [])), (24, (0, 43, 43, [])), (25, (0, 45, 45, [])), (26, (0, 42, 42, [])), (27, (0, 47, 47, [])), (28, (0, 60, 60, [])), (29, (0, 61, 61, [])), (30, (0, 62, 62, [])), (31, (0, 58, 58, [])), (32, (0, 44, 44, [])), (33, (0, 0, 4001, []))], [(20, [2, 5], [50, 2, 0, 157, 11, 2, 7, 0, 3, 2, 0, 157, 1, 1, 1, 3, 2, 0, 11, 1, 1]), (20, [33, 5], [30, -4001, -1, 0, 0, -2, 0, 0]), (24, [0, 2], []), (7, [12, 32], [0]), (7, [12, 31], [1]), (7, [12, 30], [1]), (7, [12, 29], [1]), (7, [12, 28], [1]), (7, [12, 27], [1]), (7, [12, 26], [1]), (7, [12, 25], [1]), (7, [12, 24], [1]), (7, [12, 23], [1]), (7, [12, 22], [1]), (7, [12, 21], [1]), (7, [12, 20], [1]), (20, [2, 5], [50, 2, 0, 157, 11, 2, 7, 0, 3, 2, 0, 157, 1, 1, 1, 3, 2, 0, 11, 1, 1]), (20, [19, 5], [30, -4001, -1, 0, 0, -2, 0, 0]), (8, [12], [3]), (9, [5, 2], [11]), (20, [5, 2, 12], [50, 1, 1, 1010, 1001, 4, 11, 0, 6, 4, 2, 1, 0, 0, 1, 2, 1, 10, 1, 2, 1, 2, 9, 5, 3, 1, 1, 1, 0, 0, 256]), (20, [2, 5, 12], [50, 1, 0, 10, 4, 7, 0, 3, 2, 0, 10, 1, 1, 1, 2, 1, 2, 0, -1]), (20, [2], [50, 2, 0, 157, 11, 0, 3, 2, 0, 157, 2, 0, 11]), (20, [11, 2], [30, -4001, -1, 0, 0, -2, 1, 11]), (7, [9, 10], [1]), (20, [5, 2, 9], [50, 1, 1, 1010, 1001, 4, 11, 0, 6, 4, 2, 1, 0, 0, 1, 2, 1, 10, 1, 2, 1, 2, 9, 5, 3, 1, 1, 1, 0, 0, 256]), (20, [2, 5, 9], [50, 1, 0, 10, 4, 7, 0, 3, 2, 0, 10, 1, 1, 1, 2, 1, 2, 0, -1]), (7, [7, 8], [1]), (20, [5, 2, 7], [50, 1, 1, 1010, 1001, 4, 11, 0, 6, 4, 2, 1, 0, 0, 1, 2, 1, 10, 1, 2, 1, 2, 9, 5, 3, 1, 1, 1, 0, 0, 256]), (20, [2, 5, 7], [50, 1, 0, 10, 4, 7, 0, 3, 2, 0, 10, 1, 1, 1, 2, 1, 2, 0, -1]), (20, [2], [50, 2, 0, 157, 11, 0, 3, 2, 0, 157, 2, 0, 11]), (20, [6, 2], [30, -4001, -1, 0, 0, -2, 1, 11])], [], [(0, 0, 4001, [])], [(20, [2, 5], [50, 2, 0, 157, 11, 2, 7, 0, 3, 2, 0, 157, 1, 1, 1, 3, 2, 0, 11, 1, 1]), (20, [35, 5], [30, -4001, -1, 0, 0, -2, 0, 0]), (24, [0, 2], [])], [(35, 6, 0, 0)], [(33, 6, 0, 0), (19, 6, 0, 0), (11, 6, 0, 0)])
theorem oo_Mo_styleTokens_135 {kA : Nat → ClassId} : or_ok kA GG o_Mo_styleTokens_135 := by
  intro A ta ws vs hD hth hl hk hds hf
  have hl : vs.length = 35 := hl
  have hk : ∀ q ∈ ([(0, (2, 0, 0, [150])), (2, (2, 0, 0, [150])), (5, (0, 0, 1999, [])), (6, (0, 0, 4001, [])), (7, (0, 0, 255, [])), (8, (0, 32, 32, [])), (9, (0, 0, 255, [])), (10, (0, 10, 10, [])), (11, (0, 0, 4001, [])), (12, (0, 44, 44, [])), (19, (0, 0, 4001, [])), (20, (0, 123, 123, [])), (21, (0, 125, 125, [])), (22, (0, 40, 40, [])), (23, (0, 41, 41, [])), (24, (0, 43, 43, [])), (25, (0, 45, 45, [])), (26, (0, 42, 42, [])), (27, (0, 47, 47, [])), (28, (0, 60, 60, [])), (29, (0, 61, 61, [])), (30, (0, 62, 62, [])), (31, (0, 58, 58, [])), (32, (0, 44, 44, [])), (33, (0, 0, 4001, []))] : List (Nat × tv_T)), tv_ok ta q.2 (n_v vs q.1) := hk
  obtain ⟨t0, hk⟩ := List.forall_mem_cons.mp hk
  have t0 : tv_ok ta (2, 0, 0, [150]) (n_v vs 0) := t0
  have r0 : ta (v_ad (n_v vs 0)) = some 150 := tv_rg t0
  obtain ⟨t2, hk⟩ := List.forall_mem_cons.mp hk
  have t2 : tv_ok ta (2, 0, 0, [150]) (n_v vs 2) := t2
  have r2 : ta (v_ad (n_v vs 2)) = some 150 := tv_rg t2
  obtain ⟨t5, hk⟩ := List.forall_mem_cons.mp hk
  have t5 : tv_ok ta (0, 0, 1999, []) (n_v vs 5) := t5
  have k5 : 0 ≤ v_iv (n_v vs 5) ∧ v_iv (n_v vs 5) ≤ 1999 := tv_rng t5
  obtain ⟨t6, hk⟩ := List.forall_mem_cons.mp hk
  have t6 : tv_ok ta (0, 0, 4001, []) (n_v vs 6) := t6
  have k6 : 0 ≤ v_iv (n_v vs 6) ∧ v_iv (n_v vs 6) ≤ 4001 := tv_rng t6
  obtain ⟨t7, hk⟩ := List.forall_mem_cons.mp hk
  have t7 : tv_ok ta (0, 0, 255, []) (n_v vs 7) := t7
  have k7 : 0 ≤ v_iv (n_v vs 7) ∧ v_iv (n_v vs 7) ≤ 255 := tv_rng t7
  obtain ⟨t8, hk⟩ := List.forall_mem_cons.mp hk
  have t8 : tv_ok ta (0, 32, 32, []) (n_v vs 8) := t8
  have k8 : 32 ≤ v_iv (n_v vs 8) ∧ v_iv (n_v vs 8) ≤ 32 := tv_rng t8
  obtain ⟨t9, hk⟩ := List.forall_mem_cons.mp hk
  have t9 : tv_ok ta (0, 0, 255, []) (n_v vs 9) := t9
  have k9 : 0 ≤ v_iv (n_v vs 9) ∧ v_iv (n_v vs 9) ≤ 255 := tv_rng t9
  obtain ⟨t10, hk⟩ := List.forall_mem_cons.mp hk
  have t10 : tv_ok ta (0, 10, 10, []) (n_v vs 10) := t10
  have k10 : 10 ≤ v_iv (n_v vs 10) ∧ v_iv (n_v vs 10) ≤ 10 := tv_rng t10
  obtain ⟨t11, hk⟩ := List.forall_mem_cons.mp hk
  have t11 : tv_ok ta (0, 0, 4001, []) (n_v vs 11) := t11
  have k11 : 0 ≤ v_iv (n_v vs 11) ∧ v_iv (n_v vs 11) ≤ 4001 := tv_rng t11
  obtain ⟨t12, hk⟩ := List.forall_mem_cons.mp hk
  have t12 : tv_ok ta (0, 44, 44, []) (n_v vs 12) := t12
  have k12 : 44 ≤ v_iv (n_v vs 12) ∧ v_iv (n_v vs 12) ≤ 44 := tv_rng t12
  obtain ⟨t19, hk⟩ := List.forall_mem_cons.mp hk
  have t19 : tv_ok ta (0, 0, 4001, []) (n_v vs 19) := t19
  have k19 : 0 ≤ v_iv (n_v vs 19) ∧ v_iv (n_v vs 19) ≤ 4001 := tv_rng t19
  obtain ⟨t20, hk⟩ := List.forall_mem_cons.mp hk
  have t20 : tv_ok ta (0, 123, 123, []) (n_v vs 20) := t20
  have k20 : 123 ≤ v_iv (n_v vs 20) ∧ v_iv (n_v vs 20) ≤ 123 := tv_rng t20
  obtain ⟨t21, hk⟩ := List.forall_mem_cons.mp hk
  have t21 : tv_ok ta (0, 125, 125, []) (n_v vs 21) := t21
  have k21 : 125 ≤ v_iv (n_v vs 21) ∧ v_iv (n_v vs 21) ≤ 125 := tv_rng t21
  obtain ⟨t22, hk⟩ := List.forall_mem_cons.mp hk
  have t22 : tv_ok ta (0, 40, 40, []) (n_v vs 22) := t22
  have k22 : 40 ≤ v_iv (n_v vs 22) ∧ v_iv (n_v vs 22) ≤ 40 := tv_rng t22
  obtain ⟨t23, hk⟩ := List.forall_mem_cons.mp hk
  have t23 : tv_ok ta (0, 41, 41, []) (n_v vs 23) := t23
  have k23 : 41 ≤ v_iv (n_v vs 23) ∧ v_iv (n_v vs 23) ≤ 41 := tv_rng t23
  obtain ⟨t24, hk⟩ := List.forall_mem_cons.mp hk
  have t24 : tv_ok ta (0, 43, 43, []) (n_v vs 24) := t24
  have k24 : 43 ≤ v_iv (n_v vs 24) ∧ v_iv (n_v vs 24) ≤ 43 := tv_rng t24
  obtain ⟨t25, hk⟩ := List.forall_mem_cons.mp hk
  have t25 : tv_ok ta (0, 45, 45, []) (n_v vs 25) := t25
  have k25 : 45 ≤ v_iv (n_v vs 25) ∧ v_iv (n_v vs 25) ≤ 45 := tv_rng t25
  obtain ⟨t26, hk⟩ := List.forall_mem_cons.mp hk
  have t26 : tv_ok ta (0, 42, 42, []) (n_v vs 26) := t26
  have k26 : 42 ≤ v_iv (n_v vs 26) ∧ v_iv (n_v vs 26) ≤ 42 := tv_rng t26
  obtain ⟨t27, hk⟩ := List.forall_mem_cons.mp hk
  have t27 : tv_ok ta (0, 47, 47, []) (n_v vs 27) := t27
  have k27 : 47 ≤ v_iv (n_v vs 27) ∧ v_iv (n_v vs 27) ≤ 47 := tv_rng t27
  obtain ⟨t28, hk⟩ := List.forall_mem_cons.mp hk
  have t28 : tv_ok ta (0, 60, 60, []) (n_v vs 28) := t28
  have k28 : 60 ≤ v_iv (n_v vs 28) ∧ v_iv (n_v vs 28) ≤ 60 := tv_rng t28
  obtain ⟨t29, hk⟩ := List.forall_mem_cons.mp hk
  have t29 : tv_ok ta (0, 61, 61, []) (n_v vs 29) := t29
  have k29 : 61 ≤ v_iv (n_v vs 29) ∧ v_iv (n_v vs 29) ≤ 61 := tv_rng t29
  obtain ⟨t30, hk⟩ := List.forall_mem_cons.mp hk
  have t30 : tv_ok ta (0, 62, 62, []) (n_v vs 30) := t30
  have k30 : 62 ≤ v_iv (n_v vs 30) ∧ v_iv (n_v vs 30) ≤ 62 := tv_rng t30
  obtain ⟨t31, hk⟩ := List.forall_mem_cons.mp hk
  have t31 : tv_ok ta (0, 58, 58, []) (n_v vs 31) := t31
  have k31 : 58 ≤ v_iv (n_v vs 31) ∧ v_iv (n_v vs 31) ≤ 58 := tv_rng t31
  obtain ⟨t32, hk⟩ := List.forall_mem_cons.mp hk
  have t32 : tv_ok ta (0, 44, 44, []) (n_v vs 32) := t32
  have k32 : 44 ≤ v_iv (n_v vs 32) ∧ v_iv (n_v vs 32) ≤ 44 := tv_rng t32
  obtain ⟨t33, hk⟩ := List.forall_mem_cons.mp hk
  have t33 : tv_ok ta (0, 0, 4001, []) (n_v vs 33) := t33
  have k33 : 0 ≤ v_iv (n_v vs 33) ∧ v_iv (n_v vs 33) ≤ 4001 := tv_rng t33
  have hds : ∀ q ∈ ([(33, 6, 0, 0), (19, 6, 0, 0), (11, 6, 0, 0)] : List of_T), n_iv vs q.2.1 + q.2.2.1 ≤ n_iv vs q.1 ∧ n_iv vs q.1 ≤ n_iv vs q.2.1 + q.2.2.2 := hds
  obtain ⟨d0, hds⟩ := List.forall_mem_cons.mp hds
  have d0 : v_iv (n_v vs 6) + 0 ≤ v_iv (n_v vs 33) ∧ v_iv (n_v vs 33) ≤ v_iv (n_v vs 6) + 0 := d0
  obtain ⟨d1, hds⟩ := List.forall_mem_cons.mp hds
  have d1 : v_iv (n_v vs 6) + 0 ≤ v_iv (n_v vs 19) ∧ v_iv (n_v vs 19) ≤ v_iv (n_v vs 6) + 0 := d1
  obtain ⟨d2, hds⟩ := List.forall_mem_cons.mp hds
  have d2 : v_iv (n_v vs 6) + 0 ≤ v_iv (n_v vs 11) ∧ v_iv (n_v vs 11) ≤ v_iv (n_v vs 6) + 0 := d2
  have hf : fc_ok [(20, [2, 5], [50, 2, 0, 157, 11, 2, 7, 0, 3, 2, 0, 157, 1, 1, 1, 3, 2, 0, 11, 1, 1]), (20, [33, 5], [30, -4001, -1, 0, 0, -2, 0, 0]), (24, [0, 2], []), (7, [12, 32], [0]), (7, [12, 31], [1]), (7, [12, 30], [1]), (7, [12, 29], [1]), (7, [12, 28], [1]), (7, [12, 27], [1]), (7, [12, 26], [1]), (7, [12, 25], [1]), (7, [12, 24], [1]), (7, [12, 23], [1]), (7, [12, 22], [1]), (7, [12, 21], [1]), (7, [12, 20], [1]), (20, [2, 5], [50, 2, 0, 157, 11, 2, 7, 0, 3, 2, 0, 157, 1, 1, 1, 3, 2, 0, 11, 1, 1]), (20, [19, 5], [30, -4001, -1, 0, 0, -2, 0, 0]), (8, [12], [3]), (9, [5, 2], [11]), (20, [5, 2, 12], [50, 1, 1, 1010, 1001, 4, 11, 0, 6, 4, 2, 1, 0, 0, 1, 2, 1, 10, 1, 2, 1, 2, 9, 5, 3, 1, 1, 1, 0, 0, 256]), (20, [2, 5, 12], [50, 1, 0, 10, 4, 7, 0, 3, 2, 0, 10, 1, 1, 1, 2, 1, 2, 0, -1]), (20, [2], [50, 2, 0, 157, 11, 0, 3, 2, 0, 157, 2, 0, 11]), (20, [11, 2], [30, -4001, -1, 0, 0, -2, 1, 11]), (7, [9, 10], [1]), (20, [5, 2, 9], [50, 1, 1, 1010, 1001, 4, 11, 0, 6, 4, 2, 1, 0, 0, 1, 2, 1, 10, 1, 2, 1, 2, 9, 5, 3, 1, 1, 1, 0, 0, 256]), (20, [2, 5, 9], [50, 1, 0, 10, 4, 7, 0, 3, 2, 0, 10, 1, 1, 1, 2, 1, 2, 0, -1]), (7, [7, 8], [1]), (20, [5, 2, 7], [50, 1, 1, 1010, 1001, 4, 11, 0, 6, 4, 2, 1, 0, 0, 1, 2, 1, 10, 1, 2, 1, 2, 9, 5, 3, 1, 1, 1, 0, 0, 256]), (20, [2, 5, 7], [50, 1, 0, 10, 4, 7, 0, 3, 2, 0, 10, 1, 1, 1, 2, 1, 2, 0, -1]), (20, [2], [50, 2, 0, 157, 11, 0, 3, 2, 0, 157, 2, 0, 11]), (20, [6, 2], [30, -4001, -1, 0, 0, -2, 1, 11])] ta ws vs := hf
  obtain ⟨f0, hf⟩ := fc_un (by decide) hf
  have f0 : (w_fi ws (n_v vs 2) 157 ≤ v_iv (n_v vs 5)) ∧ (w_fi ws (n_v vs 2) 11 = v_iv (n_v vs 5)) := f0
  obtain ⟨f1, hf⟩ := fc_un (by decide) hf
  have f1 : (-1) * v_iv (n_v vs 33) + ((-2) * v_iv (n_v vs 5) + 0) ≤ (-4001) := f1
  obtain ⟨f2, hf⟩ := fc_un (by decide) hf
  have f2 : n_v vs 0 = n_v vs 2 := f2
  obtain ⟨f3, hf⟩ := fc_un (by decide) hf
  have f3 : v_iv (n_v vs 12) = v_iv (n_v vs 32) := f3
  obtain ⟨f4, hf⟩ := fc_un (by decide) hf
  have f4 : v_iv (n_v vs 12) ≠ v_iv (n_v vs 31) := f4
  obtain ⟨f5, hf⟩ := fc_un (by decide) hf
  have f5 : v_iv (n_v vs 12) ≠ v_iv (n_v vs 30) := f5
  obtain ⟨f6, hf⟩ := fc_un (by decide) hf
  have f6 : v_iv (n_v vs 12) ≠ v_iv (n_v vs 29) := f6
  obtain ⟨f7, hf⟩ := fc_un (by decide) hf
  have f7 : v_iv (n_v vs 12) ≠ v_iv (n_v vs 28) := f7
  obtain ⟨f8, hf⟩ := fc_un (by decide) hf
  have f8 : v_iv (n_v vs 12) ≠ v_iv (n_v vs 27) := f8
  obtain ⟨f9, hf⟩ := fc_un (by decide) hf
  have f9 : v_iv (n_v vs 12) ≠ v_iv (n_v vs 26) := f9
  obtain ⟨f10, hf⟩ := fc_un (by decide) hf
  have f10 : v_iv (n_v vs 12) ≠ v_iv (n_v vs 25) := f10
  obtain ⟨f11, hf⟩ := fc_un (by decide) hf
  have f11 : v_iv (n_v vs 12) ≠ v_iv (n_v vs 24) := f11
  obtain ⟨f12, hf⟩ := fc_un (by decide) hf
  have f12 : v_iv (n_v vs 12) ≠ v_iv (n_v vs 23) := f12
  obtain ⟨f13, hf⟩ := fc_un (by decide) hf
  have f13 : v_iv (n_v vs 12) ≠ v_iv (n_v vs 22) := f13
  obtain ⟨f14, hf⟩ := fc_un (by decide) hf
  have f14 : v_iv (n_v vs 12) ≠ v_iv (n_v vs 21) := f14
  obtain ⟨f15, hf⟩ := fc_un (by decide) hf
  have f15 : v_iv (n_v vs 12) ≠ v_iv (n_v vs 20) := f15
  obtain ⟨f16, hf⟩ := fc_un (by decide) hf
  have f16 : (w_fi ws (n_v vs 2) 157 ≤ v_iv (n_v vs 5)) ∧ (w_fi ws (n_v vs 2) 11 = v_iv (n_v vs 5)) := f16
  obtain ⟨f17, hf⟩ := fc_un (by decide) hf
  have f17 : (-1) * v_iv (n_v vs 19) + ((-2) * v_iv (n_v vs 5) + 0) ≤ (-4001) := f17
  obtain ⟨f18, hf⟩ := fc_un (by decide) hf
  have f18 : 0 ≤ v_iv (n_v vs 12) := f18
  obtain ⟨f19, hf⟩ := fc_un (by decide) hf
  have f19 : n_v vs 5 = w_fd ws (v_ad (n_v vs 2)) 11 := f19
  obtain ⟨f20, hf⟩ := fc_un (by decide) hf
  have f20 : ((v_iv (n_v vs 5) + 1) ≤ w_fi ws (n_v vs 2) 10) → (v_iv (n_v vs 12) = (w_ei ws (w_ar ws (n_v vs 2) 1) (v_iv (n_v vs 5)) % 256)) := f20
  obtain ⟨f21, hf⟩ := fc_un (by decide) hf
  have f21 : (w_fi ws (n_v vs 2) 10 ≤ v_iv (n_v vs 5)) → (v_iv (n_v vs 12) = (-1)) := f21
  obtain ⟨f22, hf⟩ := fc_un (by decide) hf
  have f22 : w_fi ws (n_v vs 2) 157 ≤ w_fi ws (n_v vs 2) 11 := f22
  obtain ⟨f23, hf⟩ := fc_un (by decide) hf
  have f23 : (-1) * v_iv (n_v vs 11) + ((-2) * w_fi ws (n_v vs 2) 11 + 0) ≤ (-4001) := f23
  obtain ⟨f24, hf⟩ := fc_un (by decide) hf
  have f24 : v_iv (n_v vs 9) ≠ v_iv (n_v vs 10) := f24
  obtain ⟨f25, hf⟩ := fc_un (by decide) hf
  have f25 : ((v_iv (n_v vs 5) + 1) ≤ w_fi ws (n_v vs 2) 10) → (v_iv (n_v vs 9) = (w_ei ws (w_ar ws (n_v vs 2) 1) (v_iv (n_v vs 5)) % 256)) := f25
  obtain ⟨f26, hf⟩ := fc_un (by decide) hf
  have f26 : (w_fi ws (n_v vs 2) 10 ≤ v_iv (n_v vs 5)) → (v_iv (n_v vs 9) = (-1)) := f26
  obtain ⟨f27, hf⟩ := fc_un (by decide) hf
  have f27 : v_iv (n_v vs 7) ≠ v_iv (n_v vs 8) := f27
  obtain ⟨f28, hf⟩ := fc_un (by decide) hf
  have f28 : ((v_iv (n_v vs 5) + 1) ≤ w_fi ws (n_v vs 2) 10) → (v_iv (n_v vs 7) = (w_ei ws (w_ar ws (n_v vs 2) 1) (v_iv (n_v vs 5)) % 256)) := f28
  obtain ⟨f29, hf⟩ := fc_un (by decide) hf
  have f29 : (w_fi ws (n_v vs 2) 10 ≤ v_iv (n_v vs 5)) → (v_iv (n_v vs 7) = (-1)) := f29
  obtain ⟨f30, hf⟩ := fc_un (by decide) hf
  have f30 : w_fi ws (n_v vs 2) 157 ≤ w_fi ws (n_v vs 2) 11 := f30
  obtain ⟨f31, hf⟩ := fc_un (by decide) hf
  have f31 : (-1) * v_iv (n_v vs 6) + ((-2) * w_fi ws (n_v vs 2) 11 + 0) ≤ (-4001) := f31
  have q2 : n_v vs 2 = n_v vs 0 := f2.symm
  rw [q2] at f0
  rw [q2] at f16
  rw [q2] at f19
  rw [q2] at f20
  rw [q2] at f21
  rw [q2] at f22
  rw [q2] at f23
  rw [q2] at f25
  rw [q2] at f26
  rw [q2] at f28
  rw [q2] at f29
  rw [q2] at f30
  rw [q2] at f31
  have cr_0_1 : ta (w_ar ws (n_v vs 0) 1) = some 151 := tv_rg (th_fd hD hth r0 (g := GG_150) rfl (k := 1) (t := (2, 0, 0, [151])) rfl rfl)
  have g19 : v_iv (n_v vs 5) = w_fi ws (n_v vs 0) 11 := congrArg v_iv f19
  have hK_0_1 : ∀ j : Int, 0 ≤ j → j < 2000 → (-128) ≤ w_ei ws (w_ar ws (n_v vs 0) 1) j ∧ w_ei ws (w_ar ws (n_v vs 0) 1) j ≤ 127 := fun j h0 h1 => th_el hD hth cr_0_1 (kd := 1) (n := 2000) (m := 2000) (lo := (-128)) (hi := 127) (rs := []) (L := []) rfl (by decide) (j := j.toNat) (by omega)
  have kz_0_10 : 0 ≤ w_fi ws (n_v vs 0) 10 ∧ w_fi ws (n_v vs 0) 10 ≤ 2000 := tv_rng (th_fd hD hth r0 (g := GG_150) rfl (k := 10) (t := (0, 0, 2000, [])) rfl rfl)
  have kz_0_11 : 0 ≤ w_fi ws (n_v vs 0) 11 ∧ w_fi ws (n_v vs 0) 11 ≤ 2000 := tv_rng (th_fd hD hth r0 (g := GG_150) rfl (k := 11) (t := (0, 0, 2000, [])) rfl rfl)
  have kz_0_157 : 0 ≤ w_fi ws (n_v vs 0) 157 ∧ w_fi ws (n_v vs 0) 157 ≤ 2010 := tv_rng (th_fd hD hth r0 (g := GG_150) rfl (k := 157) (t := (0, 0, 2010, [])) rfl rfl)
  obtain ⟨x, ex, hx⟩ := iv_ex (ta := ta) (lo := 0) (hi := 4001) (z := 0 + (1 * v_iv (n_v vs 6) + 0)) (by omega) (by omega) (by decide) (by decide)
  have ex2 : v_iv (Value.int x) = 0 + (1 * v_iv (n_v vs 6) + 0) := ex
  have ex3 : 0 ≤ v_iv (Value.int x) ∧ v_iv (Value.int x) ≤ 4001 := tv_rng hx
  have e_0 : n_v (vs ++ [Value.int x]) 0 = n_v vs 0 := n_v_old (by rw [hl]; decide)
  have e_2 : n_v (vs ++ [Value.int x]) 2 = n_v vs 2 := n_v_old (by rw [hl]; decide)
  have e_5 : n_v (vs ++ [Value.int x]) 5 = n_v vs 5 := n_v_old (by rw [hl]; decide)
  have e_35 : n_v (vs ++ [Value.int x]) 35 = Value.int x := n_v_new hl
  have nf0 : fc_1 (20, [2, 5], [50, 2, 0, 157, 11, 2, 7, 0, 3, 2, 0, 157, 1, 1, 1, 3, 2, 0, 11, 1, 1]) ws (vs ++ [Value.int x]) := by
    refine ⟨fun n hn => ?_, ?_⟩
    · have hn : n ∈ [2, 5] := hn
      rw [List.length_append, hl]
      simp only [List.mem_cons, List.not_mem_nil, or_false] at hn
      show n < 35 + 1; omega
    · show (w_fi ws (n_v (vs ++ [Value.int x]) 2) 157 ≤ v_iv (n_v (vs ++ [Value.int x]) 5)) ∧ (w_fi ws (n_v (vs ++ [Value.int x]) 2) 11 = v_iv (n_v (vs ++ [Value.int x]) 5))
      rw [e_2]
      rw [e_5]
      rw [q2]
      first | omega | grind
  have nf1 : fc_1 (20, [35, 5], [30, -4001, -1, 0, 0, -2, 0, 0]) ws (vs ++ [Value.int x]) := by
    refine ⟨fun n hn => ?_, ?_⟩
    · have hn : n ∈ [35, 5] := hn
      rw [List.length_append, hl]
      simp only [List.mem_cons, List.not_mem_nil, or_false] at hn
      show n < 35 + 1; omega
    · show (-1) * v_iv (n_v (vs ++ [Value.int x]) 35) + ((-2) * v_iv (n_v (vs ++ [Value.int x]) 5) + 0) ≤ (-4001)
      rw [e_5]
      rw [e_35]
      omega
  have nf2 : fc_1 (24, [0, 2], []) ws (vs ++ [Value.int x]) := by
    refine ⟨fun n hn => ?_, ?_⟩
    · have hn : n ∈ [0, 2] := hn
      rw [List.length_append, hl]
      simp only [List.mem_cons, List.not_mem_nil, or_false] at hn
      show n < 35 + 1; omega
    · show n_v (vs ++ [Value.int x]) 0 = n_v (vs ++ [Value.int x]) 2
      first | rfl | simp only [e_0, e_2, q2]
  obtain ⟨x0, e0, _, _⟩ := tv_int t6 rfl
  have e1 : v_iv (n_v vs 6) = x0.toInt := by rw [e0]; rfl
  have ho : sy_ofs (vs ++ [Value.int x]) (35, 6, 0, 0) := by
    refine ⟨x, x0, by rw [List.getElem?_append_right (by rw [hl]; decide), hl]; rfl, ?_, ?_, ?_⟩
    · rw [List.getElem?_append_left (by rw [hl]; decide)]; exact n_v_some (by rw [hl]; decide) e0
    · show x0.toInt + 0 ≤ x.toInt; omega
    · show x.toInt ≤ x0.toInt + 0; omega
  exact ⟨fun q hq => (by cases hq), [Value.int x], ag_one hx, List.forall_mem_cons.mpr ⟨⟨by decide, nf0⟩, List.forall_mem_cons.mpr ⟨⟨by decide, nf1⟩, List.forall_mem_cons.mpr ⟨⟨by decide, nf2⟩, (fun _ h => (by cases h))⟩⟩⟩, List.forall_mem_cons.mpr ⟨ho, (fun _ h => (by cases h))⟩⟩
def o_Mo_styleTokens_136 : or_T := (339, 35, [(0, (2, 0, 0, [150])), (2, (2, 0, 0, [150])), (5, (0, 0, 1999, [])), (6, (0, 0, 4001, [])), (7, (0, 0, 255, [])), (8, (0, 32, 32, [])), (9, (0, 0, 255, [])), (10, (0, 10, 10, [])), (11, (0, 0, 4001, [])), (12, (0, 0, 46, [])), (19, (0, 0, 4001, [])), (20, (0, 123, 123, [])), (21, (0, 125, 125, [])), (22, (0, 40, 40, [])), (23, (0, 41, 41, [])), (24, (0, 43, 43, [])), (25, (0, 45, 45, [])), (26, (0, 42, 42, [])), (27, (0, 47, 47, [])), (28, (0, 60, 60, [])), (29, (0, 61, 61, [])), (30, (0, 62, 62, [])), (31, (0, 58, 58, [])), (32, (0, 44, 44, [])), (33, (0, 59, 59, []))], [(7, [12, 33], [1]), (7, [12, 32], [1]), (7, [12, 31], [1]), (7, [12, 30], [1]), (7, [12, 29], [1]), (7, [12, 28], [1]), (7, [12, 27], [1]), (7, [12, 26], [1]), (7, [12, 25], [1]), (7, [12, 24], [1]), (7, [12, 23], [1]), (7, [12, 22], [1]), (7, [12, 21], [1]), (7, [12, 20], [1]), (20, [2, 5], [50, 2, 0, 157, 11, 2, 7, 0, 3, 2, 0, 157, 1, 1, 1, 3, 2, 0, 11, 1, 1]), (20, [19, 5], [30, -4001, -1, 0, 0, -2, 0, 0]), (24, [0, 2], []), (8, [12], [3]), (9, [5, 2], [11]), (20, [5, 2, 12], [50, 1, 1, 1010, 1001, 4, 11, 0, 6, 4, 2, 1, 0, 0, 1, 2, 1, 10, 1, 2, 1, 2, 9, 5, 3, 1, 1, 1, 0, 0, 256]), (20, [2, 5, 12], [50, 1, 0, 10, 4, 7, 0, 3, 2, 0, 10, 1, 1, 1, 2, 1, 2, 0, -1]), (20, [2], [50, 2, 0, 157, 11, 0, 3, 2, 0, 157, 2, 0, 11]), (20, [11, 2], [30, -4001, -1, 0, 0, -2, 1, 11]), (7, [9, 10], [1]), (20, [5, 2, 9], [50, 1, 1, 1010, 1001, 4, 11, 0, 6, 4, 2, 1, 0, 0, 1, 2, 1, 10, 1, 2, 1, 2, 9, 5, 3, 1, 1, 1, 0, 0, 256]), (20, [2, 5, 9], [50, 1, 0, 10, 4, 7, 0, 3, 2, 0, 10, 1, 1, 1, 2, 1, 2, 0, -1]), (7, [7, 8], [1]), (20, [5, 2, 7], [50, 1, 1, 1010, 1001, 4, 11, 0, 6, 4, 2, 1, 0, 0, 1, 2, 1, 10, 1, 2, 1, 2, 9, 5, 3, 1, 1, 1, 0, 0, 256]), (20, [2, 5, 7], [50, 1, 0, 10, 4, 7, 0, 3, 2, 0, 10, 1, 1, 1, 2, 1, 2, 0, -1]), (20, [2], [50, 2, 0, 157, 11, 0, 3, 2, 0, 157, 2, 0, 11]), (20, [6, 2], [30, -4001, -1, 0, 0, -2, 1, 11])], [], [(0, 0, 4001, [])], [(20, [2, 5], [50, 2, 0, 157, 11, 2, 7, 0, 3, 2, 0, 157, 1, 1, 1, 3, 2, 0, 11, 1, 1]), (20, [35, 5], [30, -4001, -1, 0, 0, -2, 0, 0]), (24, [0, 2], [])], [(35, 6, 0, 0)], [(19, 6, 0, 0), (11, 6, 0, 0)])
theorem oo_Mo_styleTokens_136 {kA : Nat → ClassId} : or_ok kA GG o_Mo_styleTokens_136 := by
  intro A ta ws vs hD hth hl hk hds hf
  have hl : vs.length = 35 := hl
  have hk : ∀ q ∈ ([(0, (2, 0, 0, [150])), (2, (2, 0, 0, [150])), (5, (0, 0, 1999, [])), (6, (0, 0, 4001, [])), (7, (0, 0, 255, [])), (8, (0, 32, 32, [])), (9, (0, 0, 255, [])), (10, (0, 10, 10, [])), (11, (0, 0, 4001, [])), (12, (0, 0, 46, [])), (19, (0, 0, 4001, [])), (20, (0, 123, 123, [])), (21, (0, 125, 125, [])), (22, (0, 40, 40, [])), (23, (0, 41, 41, [])), (24, (0, 43, 43, [])), (25, (0, 45, 45, [])), (26, (0, 42, 42, [])), (27, (0, 47, 47, [])), (28, (0, 60, 60, [])), (29, (0, 61, 61, [])), (30, (0, 62, 62, [])), (31, (0, 58, 58, [])), (32, (0, 44, 44, [])), (33, (0, 59, 59, []))] : List (Nat × tv_T)), tv_ok ta q.2 (n_v vs q.1) := hk
  obtain ⟨t0, hk⟩ := List.forall_mem_cons.mp hk
  have t0 : tv_ok ta (2, 0, 0, [150]) (n_v vs 0) := t0
  have r0 : ta (v_ad (n_v vs 0)) = some 150 := tv_rg t0
  obtain ⟨t2, hk⟩ := List.forall_mem_cons.mp hk
  have t2 : tv_ok ta (2, 0, 0, [150]) (n_v vs 2) := t2
  have r2 : ta (v_ad (n_v vs 2)) = some 150 := tv_rg t2
  obtain ⟨t5, hk⟩ := List.forall_mem_cons.mp hk
  have t5 : tv_ok ta (0, 0, 1999, []) (n_v vs 5) := t5
  have k5 : 0 ≤ v_iv (n_v vs 5) ∧ v_iv (n_v vs 5) ≤ 1999 := tv_rng t5
  obtain ⟨t6, hk⟩ := List.forall_mem_cons.mp hk
  have t6 : tv_ok ta (0, 0, 4001, []) (n_v vs 6) := t6
  have k6 : 0 ≤ v_iv (n_v vs 6) ∧ v_iv (n_v vs 6) ≤ 4001 := tv_rng t6
  obtain ⟨t7, hk⟩ := List.forall_mem_cons.mp hk
  have t7 : tv_ok ta (0, 0, 255, []) (n_v vs 7) := t7
  have k7 : 0 ≤ v_iv (n_v vs 7) ∧ v_iv (n_v vs 7) ≤ 255 := tv_rng t7
  obtain ⟨t8, hk⟩ := List.forall_mem_cons.mp hk
  have t8 : tv_ok ta (0, 32, 32, []) (n_v vs 8) := t8
  have k8 : 32 ≤ v_iv (n_v vs 8) ∧ v_iv (n_v vs 8) ≤ 32 := tv_rng t8
  obtain ⟨t9, hk⟩ := List.forall_mem_cons.mp hk
  have t9 : tv_ok ta (0, 0, 255, []) (n_v vs 9) := t9
  have k9 : 0 ≤ v_iv (n_v vs 9) ∧ v_iv (n_v vs 9) ≤ 255 := tv_rng t9
  obtain ⟨t10, hk⟩ := List.forall_mem_cons.mp hk
  have t10 : tv_ok ta (0, 10, 10, []) (n_v vs 10) := t10
  have k10 : 10 ≤ v_iv (n_v vs 10) ∧ v_iv (n_v vs 10) ≤ 10 := tv_rng t10
  obtain ⟨t11, hk⟩ := List.forall_mem_cons.mp hk
  have t11 : tv_ok ta (0, 0, 4001, []) (n_v vs 11) := t11
  have k11 : 0 ≤ v_iv (n_v vs 11) ∧ v_iv (n_v vs 11) ≤ 4001 := tv_rng t11
  obtain ⟨t12, hk⟩ := List.forall_mem_cons.mp hk
  have t12 : tv_ok ta (0, 0, 46, []) (n_v vs 12) := t12
  have k12 : 0 ≤ v_iv (n_v vs 12) ∧ v_iv (n_v vs 12) ≤ 46 := tv_rng t12
  obtain ⟨t19, hk⟩ := List.forall_mem_cons.mp hk
  have t19 : tv_ok ta (0, 0, 4001, []) (n_v vs 19) := t19
  have k19 : 0 ≤ v_iv (n_v vs 19) ∧ v_iv (n_v vs 19) ≤ 4001 := tv_rng t19
  obtain ⟨t20, hk⟩ := List.forall_mem_cons.mp hk
  have t20 : tv_ok ta (0, 123, 123, []) (n_v vs 20) := t20
  have k20 : 123 ≤ v_iv (n_v vs 20) ∧ v_iv (n_v vs 20) ≤ 123 := tv_rng t20
  obtain ⟨t21, hk⟩ := List.forall_mem_cons.mp hk
  have t21 : tv_ok ta (0, 125, 125, []) (n_v vs 21) := t21
  have k21 : 125 ≤ v_iv (n_v vs 21) ∧ v_iv (n_v vs 21) ≤ 125 := tv_rng t21
  obtain ⟨t22, hk⟩ := List.forall_mem_cons.mp hk
  have t22 : tv_ok ta (0, 40, 40, []) (n_v vs 22) := t22
  have k22 : 40 ≤ v_iv (n_v vs 22) ∧ v_iv (n_v vs 22) ≤ 40 := tv_rng t22
  obtain ⟨t23, hk⟩ := List.forall_mem_cons.mp hk
  have t23 : tv_ok ta (0, 41, 41, []) (n_v vs 23) := t23
  have k23 : 41 ≤ v_iv (n_v vs 23) ∧ v_iv (n_v vs 23) ≤ 41 := tv_rng t23
  obtain ⟨t24, hk⟩ := List.forall_mem_cons.mp hk
  have t24 : tv_ok ta (0, 43, 43, []) (n_v vs 24) := t24
  have k24 : 43 ≤ v_iv (n_v vs 24) ∧ v_iv (n_v vs 24) ≤ 43 := tv_rng t24
  obtain ⟨t25, hk⟩ := List.forall_mem_cons.mp hk
  have t25 : tv_ok ta (0, 45, 45, []) (n_v vs 25) := t25
  have k25 : 45 ≤ v_iv (n_v vs 25) ∧ v_iv (n_v vs 25) ≤ 45 := tv_rng t25
  obtain ⟨t26, hk⟩ := List.forall_mem_cons.mp hk
  have t26 : tv_ok ta (0, 42, 42, []) (n_v vs 26) := t26
  have k26 : 42 ≤ v_iv (n_v vs 26) ∧ v_iv (n_v vs 26) ≤ 42 := tv_rng t26
  obtain ⟨t27, hk⟩ := List.forall_mem_cons.mp hk
  have t27 : tv_ok ta (0, 47, 47, []) (n_v vs 27) := t27
  have k27 : 47 ≤ v_iv (n_v vs 27) ∧ v_iv (n_v vs 27) ≤ 47 := tv_rng t27
  obtain ⟨t28, hk⟩ := List.forall_mem_cons.mp hk
  have t28 : tv_ok ta (0, 60, 60, []) (n_v vs 28) := t28
  have k28 : 60 ≤ v_iv (n_v vs 28) ∧ v_iv (n_v vs 28) ≤ 60 := tv_rng t28
  obtain ⟨t29, hk⟩ := List.forall_mem_cons.mp hk
  have t29 : tv_ok ta (0, 61, 61, []) (n_v vs 29) := t29
  have k29 : 61 ≤ v_iv (n_v vs 29) ∧ v_iv (n_v vs 29) ≤ 61 := tv_rng t29
  obtain ⟨t30, hk⟩ := List.forall_mem_cons.mp hk
  have t30 : tv_ok ta (0, 62, 62, []) (n_v vs 30) := t30
  have k30 : 62 ≤ v_iv (n_v vs 30) ∧ v_iv (n_v vs 30) ≤ 62 := tv_rng t30
  obtain ⟨t31, hk⟩ := List.forall_mem_cons.mp hk
  have t31 : tv_ok ta (0, 58, 58, []) (n_v vs 31) := t31
  have k31 : 58 ≤ v_iv (n_v vs 31) ∧ v_iv (n_v vs 31) ≤ 58 := tv_rng t31
  obtain ⟨t32, hk⟩ := List.forall_mem_cons.mp hk
  have t32 : tv_ok ta (0, 44, 44, []) (n_v vs 32) := t32
  have k32 : 44 ≤ v_iv (n_v vs 32) ∧ v_iv (n_v vs 32) ≤ 44 := tv_rng t32
  obtain ⟨t33, hk⟩ := List.forall_mem_cons.mp hk
  have t33 : tv_ok ta (0, 59, 59, []) (n_v vs 33) := t33
  have k33 : 59 ≤ v_iv (n_v vs 33) ∧ v_iv (n_v vs 33) ≤ 59 := tv_rng t33
  have hds : ∀ q ∈ ([(19, 6, 0, 0), (11, 6, 0, 0)] : List of_T), n_iv vs q.2.1 + q.2.2.1 ≤ n_iv vs q.1 ∧ n_iv vs q.1 ≤ n_iv vs q.2.1 + q.2.2.2 := hds
  obtain ⟨d0, hds⟩ := List.forall_mem_cons.mp hds
  have d0 : v_iv (n_v vs 6) + 0 ≤ v_iv (n_v vs 19) ∧ v_iv (n_v vs 19) ≤ v_iv (n_v vs 6) + 0 := d0
  obtain ⟨d1, hds⟩ := List.forall_mem_cons.mp hds
  have d1 : v_iv (n_v vs 6) + 0 ≤ v_iv (n_v vs 11) ∧ v_iv (n_v vs 11) ≤ v_iv (n_v vs 6) + 0 := d1
  have hf : fc_ok [(7, [12, 33], [1]), (7, [12, 32], [1]), (7, [12, 31], [1]), (7, [12, 30], [1]), (7, [12, 29], [1]), (7, [12, 28], [1]), (7, [12, 27], [1]), (7, [12, 26], [1]), (7, [12, 25], [1]), (7, [12, 24], [1]), (7, [12, 23], [1]), (7, [12, 22], [1]), (7, [12, 21], [1]), (7, [12, 20], [1]), (20, [2, 5], [50, 2, 0, 157, 11, 2, 7, 0, 3, 2, 0, 157, 1, 1, 1, 3, 2, 0, 11, 1, 1]), (20, [19, 5], [30, -4001, -1, 0, 0, -2, 0, 0]), (24, [0, 2], []), (8, [12], [3]), (9, [5, 2], [11]), (20, [5, 2, 12], [50, 1, 1, 1010, 1001, 4, 11, 0, 6, 4, 2, 1, 0, 0, 1, 2, 1, 10, 1, 2, 1, 2, 9, 5, 3, 1, 1, 1, 0, 0, 256]), (20, [2, 5, 12], [50, 1, 0, 10, 4, 7, 0, 3, 2, 0, 10, 1, 1, 1, 2, 1, 2, 0, -1]), (20, [2], [50, 2, 0, 157, 11, 0, 3, 2, 0, 157, 2, 0, 11]), (20, [11, 2], [30, -4001, -1, 0, 0, -2, 1, 11]), (7, [9, 10], [1]), (20, [5, 2, 9], [50, 1, 1, 1010, 1001, 4, 11, 0, 6, 4, 2, 1, 0, 0, 1, 2, 1, 10, 1, 2, 1, 2, 9, 5, 3, 1, 1, 1, 0, 0, 256]), (20, [2, 5, 9], [50, 1, 0, 10, 4, 7, 0, 3, 2, 0, 10, 1, 1, 1, 2, 1, 2, 0, -1]), (7, [7, 8], [1]), (20, [5, 2, 7], [50, 1, 1, 1010, 1001, 4, 11, 0, 6, 4, 2, 1, 0, 0, 1, 2, 1, 10, 1, 2, 1, 2, 9, 5, 3, 1, 1, 1, 0, 0, 256]), (20, [2, 5, 7], [50, 1, 0, 10, 4, 7, 0, 3, 2, 0, 10, 1, 1, 1, 2, 1, 2, 0, -1]), (20, [2], [50, 2, 0, 157, 11, 0, 3, 2, 0, 157, 2, 0, 11]), (20, [6, 2], [30, -4001, -1, 0, 0, -2, 1, 11])] ta ws vs := hf
  obtain ⟨f0, hf⟩ := fc_un (by decide) hf
  have f0 : v_iv (n_v vs 12) ≠ v_iv (n_v vs 33) := f0
  obtain ⟨f1, hf⟩ := fc_un (by decide) hf
  have f1 : v_iv (n_v vs 12) ≠ v_iv (n_v vs 32) := f1
  obtain ⟨f2, hf⟩ := fc_un (by decide) hf
  have f2 : v_iv (n_v vs 12) ≠ v_iv (n_v vs 31) := f2
  obtain ⟨f3, hf⟩ := fc_un (by decide) hf
  have f3 : v_iv (n_v vs 12) ≠ v_iv (n_v vs 30) := f3
  obtain ⟨f4, hf⟩ := fc_un (by decide) hf
  have f4 : v_iv (n_v vs 12) ≠ v_iv (n_v vs 29) := f4
  obtain ⟨f5, hf⟩ := fc_un (by decide) hf
  have f5 : v_iv (n_v vs 12) ≠ v_iv (n_v vs 28) := f5
  obtain ⟨f6, hf⟩ := fc_un (by decide) hf
  have f6 : v_iv (n_v vs 12) ≠ v_iv (n_v vs 27) := f6
  obtain ⟨f7, hf⟩ := fc_un (by decide) hf
  have f7 : v_iv (n_v vs 12) ≠ v_iv (n_v vs 26) := f7
  obtain ⟨f8, hf⟩ := fc_un (by decide) hf
  have f8 : v_iv (n_v vs 12) ≠ v_iv (n_v vs 25) := f8
  obtain ⟨f9, hf⟩ := fc_un (by decide) hf
  have f9 : v_iv (n_v vs 12) ≠ v_iv (n_v vs 24) := f9
  obtain ⟨f10, hf⟩ := fc_un (by decide) hf
  have f10 : v_iv (n_v vs 12) ≠ v_iv (n_v vs 23) := f10
  obtain ⟨f11, hf⟩ := fc_un (by decide) hf
  have f11 : v_iv (n_v vs 12) ≠ v_iv (n_v vs 22) := f11
  obtain ⟨f12, hf⟩ := fc_un (by decide) hf
  have f12 : v_iv (n_v vs 12) ≠ v_iv (n_v vs 21) := f12
  obtain ⟨f13, hf⟩ := fc_un (by decide) hf
  have f13 : v_iv (n_v vs 12) ≠ v_iv (n_v vs 20) := f13
  obtain ⟨f14, hf⟩ := fc_un (by decide) hf
  have f14 : (w_fi ws (n_v vs 2) 157 ≤ v_iv (n_v vs 5)) ∧ (w_fi ws (n_v vs 2) 11 = v_iv (n_v vs 5)) := f14
  obtain ⟨f15, hf⟩ := fc_un (by decide) hf
  have f15 : (-1) * v_iv (n_v vs 19) + ((-2) * v_iv (n_v vs 5) + 0) ≤ (-4001) := f15
  obtain ⟨f16, hf⟩ := fc_un (by decide) hf
  have f16 : n_v vs 0 = n_v vs 2 := f16
  obtain ⟨f17, hf⟩ := fc_un (by decide) hf
  have f17 : 0 ≤ v_iv (n_v vs 12) := f17
  obtain ⟨f18, hf⟩ := fc_un (by decide) hf
  have f18 : n_v vs 5 = w_fd ws (v_ad (n_v vs 2)) 11 := f18
  obtain ⟨f19, hf⟩ := fc_un (by decide) hf
  have f19 : ((v_iv (n_v vs 5) + 1) ≤ w_fi ws (n_v vs 2) 10) → (v_iv (n_v vs 12) = (w_ei ws (w_ar ws (n_v vs 2) 1) (v_iv (n_v vs 5)) % 256)) := f19
  obtain ⟨f20, hf⟩ := fc_un (by decide) hf
  have f20 : (w_fi ws (n_v vs 2) 10 ≤ v_iv (n_v vs 5)) → (v_iv (n_v vs 12) = (-1)) := f20
  obtain ⟨f21, hf⟩ := fc_un (by decide) hf
  have f21 : w_fi ws (n_v vs 2) 157 ≤ w_fi ws (n_v vs 2) 11 := f21
  obtain ⟨f22, hf⟩ := fc_un (by decide) hf
  have f22 : (-1) * v_iv (n_v vs 11) + ((-2) * w_fi ws (n_v vs 2) 11 + 0) ≤ (-4001) := f22
  obtain ⟨f23, hf⟩ := fc_un (by decide) hf
  have f23 : v_iv (n_v vs 9) ≠ v_iv (n_v vs 10) := f23
  obtain ⟨f24, hf⟩ := fc_un (by decide) hf
  have f24 : ((v_iv (n_v vs 5) + 1) ≤ w_fi ws (n_v vs 2) 10) → (v_iv (n_v vs 9) = (w_ei ws (w_ar ws (n_v vs 2) 1) (v_iv (n_v vs 5)) % 256)) := f24
  obtain ⟨f25, hf⟩ := fc_un (by decide) hf
  have f25 : (w_fi ws (n_v vs 2) 10 ≤ v_iv (n_v vs 5)) → (v_iv (n_v vs 9) = (-1)) := f25
  obtain ⟨f26, hf⟩ := fc_un (by decide) hf
  have f26 : v_iv (n_v vs 7) ≠ v_iv (n_v vs 8) := f26
  obtain ⟨f27, hf⟩ := fc_un (by decide) hf
  have f27 : ((v_iv (n_v vs 5) + 1) ≤ w_fi ws (n_v vs 2) 10) → (v_iv (n_v vs 7) = (w_ei ws (w_ar ws (n_v vs 2) 1) (v_iv (n_v vs 5)) % 256)) := f27
  obtain ⟨f28, hf⟩ := fc_un (by decide) hf
  have f28 : (w_fi ws (n_v vs 2) 10 ≤ v_iv (n_v vs 5)) → (v_iv (n_v vs 7) = (-1)) := f28
  obtain ⟨f29, hf⟩ := fc_un (by decide) hf
  have f29 : w_fi ws (n_v vs 2) 157 ≤ w_fi ws (n_v vs 2) 11 := f29
  obtain ⟨f30, hf⟩ := fc_un (by decide) hf
  have f30 : (-1) * v_iv (n_v vs 6) + ((-2) * w_fi ws (n_v vs 2) 11 + 0) ≤ (-4001) := f30
  have q2 : n_v vs 2 = n_v vs 0 := f16.symm
  rw [q2] at f14
  rw [q2] at f18
  rw [q2] at f19
  rw [q2] at f20
  rw [q2] at f21
  rw [q2] at f22
  rw [q2] at f24
  rw [q2] at f25
  rw [q2] at f27
  rw [q2] at f28
  rw [q2] at f29
  rw [q2] at f30
  have cr_0_1 : ta (w_ar ws (n_v vs 0) 1) = some 151 := tv_rg (th_fd hD hth r0 (g := GG_150) rfl (k := 1) (t := (2, 0, 0, [151])) rfl rfl)
  have g18 : v_iv (n_v vs 5) = w_fi ws (n_v vs 0) 11 := congrArg v_iv f18
  have hK_0_1 : ∀ j : Int, 0 ≤ j → j < 2000 → (-128) ≤ w_ei ws (w_ar ws (n_v vs 0) 1) j ∧ w_ei ws (w_ar ws (n_v vs 0) 1) j ≤ 127 := fun j h0 h1 => th_el hD hth cr_0_1 (kd := 1) (n := 2000) (m := 2000) (lo := (-128)) (hi := 127) (rs := []) (L := []) rfl (by decide) (j := j.toNat) (by omega)
  have kz_0_10 : 0 ≤ w_fi ws (n_v vs 0) 10 ∧ w_fi ws (n_v vs 0) 10 ≤ 2000 := tv_rng (th_fd hD hth r0 (g := GG_150) rfl (k := 10) (t := (0, 0, 2000, [])) rfl rfl)
  have kz_0_11 : 0 ≤ w_fi ws (n_v vs 0) 11 ∧ w_fi ws (n_v vs 0) 11 ≤ 2000 := tv_rng (th_fd hD hth r0 (g := GG_150) rfl (k := 11) (t := (0, 0, 2000, [])) rfl rfl)
  have kz_0_157 : 0 ≤ w_fi ws (n_v vs 0) 157 ∧ w_fi ws (n_v vs 0) 157 ≤ 2010 := tv_rng (th_fd hD hth r0 (g := GG_150) rfl (k := 157) (t := (0, 0, 2010, [])) rfl rfl)
  obtain ⟨x, ex, hx⟩ := iv_ex (ta := ta) (lo := 0) (hi := 4001) (z := 0 + (1 * v_iv (n_v vs 6) + 0)) (by omega) (by omega) (by decide) (by decide)
  have ex2 : v_iv (Value.int x) = 0 + (1 * v_iv (n_v vs 6) + 0) := ex
  have ex3 : 0 ≤ v_iv (Value.int x) ∧ v_iv (Value.int x) ≤ 4001 := tv_rng hx
  have e_0 : n_v (vs ++ [Value.int x]) 0 = n_v vs 0 := n_v_old (by rw [hl]; decide)
  have e_2 : n_v (vs ++ [Value.int x]) 2 = n_v vs 2 := n_v_old (by rw [hl]; decide)
  have e_5 : n_v (vs ++ [Value.int x]) 5 = n_v vs 5 := n_v_old (by rw [hl]; decide)
  have e_35 : n_v (vs ++ [Value.int x]) 35 = Value.int x := n_v_new hl
  have nf0 : fc_1 (20, [2, 5], [50, 2, 0, 157, 11, 2, 7, 0, 3, 2, 0, 157, 1, 1, 1, 3, 2, 0, 11, 1, 1]) ws (vs ++ [Value.int x]) := by
    refine ⟨fun n hn => ?_, ?_⟩
    · have hn : n ∈ [2, 5] := hn
      rw [List.length_append, hl]
      simp only [List.mem_cons, List.not_mem_nil, or_false] at hn
      show n < 35 + 1; omega
    · show (w_fi ws (n_v (vs ++ [Value.int x]) 2) 157 ≤ v_iv (n_v (vs ++ [Value.int x]) 5)) ∧ (w_fi ws (n_v (vs ++ [Value.int x]) 2) 11 = v_iv (n_v (vs ++ [Value.int x]) 5))
      rw [e_2]
      rw [e_5]
      rw [q2]
      first | omega | grind
  have nf1 : fc_1 (20, [35, 5], [30, -4001, -1, 0, 0, -2, 0, 0]) ws (vs ++ [Value.int x]) := by
    refine ⟨fun n hn => ?_, ?_⟩
    · have hn : n ∈ [35, 5] := hn
      rw [List.length_append, hl]
      simp only [List.mem_cons, List.not_mem_nil, or_false] at hn
      show n < 35 + 1; omega
    · show (-1) * v_iv (n_v (vs ++ [Value.int x]) 35) + ((-2) * v_iv (n_v (vs ++ [Value.int x]) 5) + 0) ≤ (-4001)
      rw [e_5]
      rw [e_35]
      omega
  have nf2 : fc_1 (24, [0, 2], []) ws (vs ++ [Value.int x]) := by
    refine ⟨fun n hn => ?_, ?_⟩
    · have hn : n ∈ [0, 2] := hn
      rw [List.length_append, hl]
      simp only [List.mem_cons, List.not_mem_nil, or_false] at hn
      show n < 35 + 1; omega
    · show n_v (vs ++ [Value.int x]) 0 = n_v (vs ++ [Value.int x]) 2
      first | rfl | simp only [e_0, e_2, q2]
  obtain ⟨x0, e0, _, _⟩ := tv_int t6 rfl
  have e1 : v_iv (n_v vs 6) = x0.toInt := by rw [e0]; rfl
  have ho : sy_ofs (vs ++ [Value.int x]) (35, 6, 0, 0) := by
    refine ⟨x, x0, by rw [List.getElem?_append_right (by rw [hl]; decide), hl]; rfl, ?_, ?_, ?_⟩
    · rw [List.getElem?_append_left (by rw [hl]; decide)]; exact n_v_some (by rw [hl]; decide) e0
    · show x0.toInt + 0 ≤ x.toInt; omega
    · show x.toInt ≤ x0.toInt + 0; omega
  exact ⟨fun q hq => (by cases hq), [Value.int x], ag_one hx, List.forall_mem_cons.mpr ⟨⟨by decide, nf0⟩, List.forall_mem_cons.mpr ⟨⟨by decide, nf1⟩, List.forall_mem_cons.mpr ⟨⟨by decide, nf2⟩, (fun _ h => (by cases h))⟩⟩⟩, List.forall_mem_cons.mpr ⟨ho, (fun _ h => (by cases h))⟩⟩
def o_Mo_styleTokens_137 : or_T := (250, 19, [(0, (2, 0, 0, [150])), (2, (2, 0, 0, [150])), (5, (0, 0, 1999, [])), (6, (0, 0, 4001, [])), (7, (0, 0, 255, [])), (8, (0, 32, 32, [])), (9, (0, 0, 255, [])), (10, (0, 10, 10, [])), (11, (0, 0, 4001, [])), (12, (0, 58, 96, []))], [(8, [12], [3]), (9, [5, 2], [11]), (20, [5, 2, 12], [50, 1, 1, 1010, 1001, 4, 11, 0, 6, 4, 2, 1, 0, 0, 1, 2, 1, 10, 1, 2, 1, 2, 9, 5, 3, 1, 1, 1, 0, 0, 256]), (20, [2, 5, 12], [50, 1, 0, 10, 4, 7, 0, 3, 2, 0, 10, 1, 1, 1, 2, 1, 2, 0, -1]), (20, [2], [50, 2, 0, 157, 11, 0, 3, 2, 0, 157, 2, 0, 11]), (20, [11, 2], [30, -4001, -1, 0, 0, -2, 1, 11]), (24, [0, 2], []), (7, [9, 10], [1]), (20, [5, 2, 9], [50, 1, 1, 1010, 1001, 4, 11, 0, 6, 4, 2, 1, 0, 0, 1, 2, 1, 10, 1, 2, 1, 2, 9, 5, 3, 1, 1, 1, 0, 0, 256]), (20, [2, 5, 9], [50, 1, 0, 10, 4, 7, 0, 3, 2, 0, 10, 1, 1, 1, 2, 1, 2, 0, -1]), (7, [7, 8], [1]), (20, [5, 2, 7], [50, 1, 1, 1010, 1001, 4, 11, 0, 6, 4, 2, 1, 0, 0, 1, 2, 1, 10, 1, 2, 1, 2, 9, 5, 3, 1, 1, 1, 0, 0, 256]), (20, [2, 5, 7], [50, 1, 0, 10, 4, 7, 0, 3, 2, 0, 10, 1, 1, 1, 2, 1, 2, 0, -1]), (20, [2], [50, 2, 0, 157, 11, 0, 3, 2, 0, 157, 2, 0, 11]), (20, [6, 2], [30, -4001, -1, 0, 0, -2, 1, 11])], [], [(0, 0, 4001, [])], [(20, [2, 5], [50, 2, 0, 157, 11, 2, 7, 0, 3, 2, 0, 157, 1, 1, 1, 3, 2, 0, 11, 1, 1]), (20, [19, 5], [30, -4001, -1, 0, 0, -2, 0, 0]), (24, [0, 2], [])], [(19, 6, 0, 0)], [(11, 6, 0, 0)])
theorem oo_Mo_styleTokens_137 {kA : Nat → ClassId} : or_ok kA GG o_Mo_styleTokens_137 := by
  intro A ta ws vs hD hth hl hk hds hf
  have hl : vs.length = 19 := hl
  have hk : ∀ q ∈ ([(0, (2, 0, 0, [150])), (2, (2, 0, 0, [150])), (5, (0, 0, 1999, [])), (6, (0, 0, 4001, [])), (7, (0, 0, 255, [])), (8, (0, 32, 32, [])), (9, (0, 0, 255, [])), (10, (0, 10, 10, [])), (11, (0, 0, 4001, [])), (12, (0, 58, 96, []))] : List (Nat × tv_T)), tv_ok ta q.2 (n_v vs q.1) := hk
  obtain ⟨t0, hk⟩ := List.forall_mem_cons.mp hk
  have t0 : tv_ok ta (2, 0, 0, [150]) (n_v vs 0) := t0
  have r0 : ta (v_ad (n_v vs 0)) = some 150 := tv_rg t0
  obtain ⟨t2, hk⟩ := List.forall_mem_cons.mp hk
  have t2 : tv_ok ta (2, 0, 0, [150]) (n_v vs 2) := t2
  have r2 : ta (v_ad (n_v vs 2)) = some 150 := tv_rg t2
  obtain ⟨t5, hk⟩ := List.forall_mem_cons.mp hk
  have t5 : tv_ok ta (0, 0, 1999, []) (n_v vs 5) := t5
  have k5 : 0 ≤ v_iv (n_v vs 5) ∧ v_iv (n_v vs 5) ≤ 1999 := tv_rng t5
  obtain ⟨t6, hk⟩ := List.forall_mem_cons.mp hk
  have t6 : tv_ok ta (0, 0, 4001, []) (n_v vs 6) := t6
  have k6 : 0 ≤ v_iv (n_v vs 6) ∧ v_iv (n_v vs 6) ≤ 4001 := tv_rng t6
  obtain ⟨t7, hk⟩ := List.forall_mem_cons.mp hk
  have t7 : tv_ok ta (0, 0, 255, []) (n_v vs 7) := t7
  have k7 : 0 ≤ v_iv (n_v vs 7) ∧ v_iv (n_v vs 7) ≤ 255 := tv_rng t7
  obtain ⟨t8, hk⟩ := List.forall_mem_cons.mp hk
  have t8 : tv_ok ta (0, 32, 32, []) (n_v vs 8) := t8
  have k8 : 32 ≤ v_iv (n_v vs 8) ∧ v_iv (n_v vs 8) ≤ 32 := tv_rng t8
  obtain ⟨t9, hk⟩ := List.forall_mem_cons.mp hk
  have t9 : tv_ok ta (0, 0, 255, []) (n_v vs 9) := t9
  have k9 : 0 ≤ v_iv (n_v vs 9) ∧ v_iv (n_v vs 9) ≤ 255 := tv_rng t9
  obtain ⟨t10, hk⟩ := List.forall_mem_cons.mp hk
  have t10 : tv_ok ta (0, 10, 10, []) (n_v vs 10) := t10
  have k10 : 10 ≤ v_iv (n_v vs 10) ∧ v_iv (n_v vs 10) ≤ 10 := tv_rng t10
  obtain ⟨t11, hk⟩ := List.forall_mem_cons.mp hk
  have t11 : tv_ok ta (0, 0, 4001, []) (n_v vs 11) := t11
  have k11 : 0 ≤ v_iv (n_v vs 11) ∧ v_iv (n_v vs 11) ≤ 4001 := tv_rng t11
  obtain ⟨t12, hk⟩ := List.forall_mem_cons.mp hk
  have t12 : tv_ok ta (0, 58, 96, []) (n_v vs 12) := t12
  have k12 : 58 ≤ v_iv (n_v vs 12) ∧ v_iv (n_v vs 12) ≤ 96 := tv_rng t12
  have hds : ∀ q ∈ ([(11, 6, 0, 0)] : List of_T), n_iv vs q.2.1 + q.2.2.1 ≤ n_iv vs q.1 ∧ n_iv vs q.1 ≤ n_iv vs q.2.1 + q.2.2.2 := hds
  obtain ⟨d0, hds⟩ := List.forall_mem_cons.mp hds
  have d0 : v_iv (n_v vs 6) + 0 ≤ v_iv (n_v vs 11) ∧ v_iv (n_v vs 11) ≤ v_iv (n_v vs 6) + 0 := d0
  have hf : fc_ok [(8, [12], [3]), (9, [5, 2], [11]), (20, [5, 2, 12], [50, 1, 1, 1010, 1001, 4, 11, 0, 6, 4, 2, 1, 0, 0, 1, 2, 1, 10, 1, 2, 1, 2, 9, 5, 3, 1, 1, 1, 0, 0, 256]), (20, [2, 5, 12], [50, 1, 0, 10, 4, 7, 0, 3, 2, 0, 10, 1, 1, 1, 2, 1, 2, 0, -1]), (20, [2], [50, 2, 0, 157, 11, 0, 3, 2, 0, 157, 2, 0, 11]), (20, [11, 2], [30, -4001, -1, 0, 0, -2, 1, 11]), (24, [0, 2], []), (7, [9, 10], [1]), (20, [5, 2, 9], [50, 1, 1, 1010, 1001, 4, 11, 0, 6, 4, 2, 1, 0, 0, 1, 2, 1, 10, 1, 2, 1, 2, 9, 5, 3, 1, 1, 1, 0, 0, 256]), (20, [2, 5, 9], [50, 1, 0, 10, 4, 7, 0, 3, 2, 0, 10, 1, 1, 1, 2, 1, 2, 0, -1]), (7, [7, 8], [1]), (20, [5, 2, 7], [50, 1, 1, 1010, 1001, 4, 11, 0, 6, 4, 2, 1, 0, 0, 1, 2, 1, 10, 1, 2, 1, 2, 9, 5, 3, 1, 1, 1, 0, 0, 256]), (20, [2, 5, 7], [50, 1, 0, 10, 4, 7, 0, 3, 2, 0, 10, 1, 1, 1, 2, 1, 2, 0, -1]), (20, [2], [50, 2, 0, 157, 11, 0, 3, 2, 0, 157, 2, 0, 11]), (20, [6, 2], [30, -4001, -1, 0, 0, -2, 1, 11])] ta ws vs := hf
  obtain ⟨f0, hf⟩ := fc_un (by decide) hf
  have f0 : 0 ≤ v_iv (n_v vs 12) := f0
  obtain ⟨f1, hf⟩ := fc_un (by decide) hf
  have f1 : n_v vs 5 = w_fd ws (v_ad (n_v vs 2)) 11 := f1
  obtain ⟨f2, hf⟩ := fc_un (by decide) hf
  have f2 : ((v_iv (n_v vs 5) + 1) ≤ w_fi ws (n_v vs 2) 10) → (v_iv (n_v vs 12) = (w_ei ws (w_ar ws (n_v vs 2) 1) (v_iv (n_v vs 5)) % 256)) := f2
  obtain ⟨f3, hf⟩ := fc_un (by decide) hf
  have f3 : (w_fi ws (n_v vs 2) 10 ≤ v_iv (n_v vs 5)) → (v_iv (n_v vs 12) = (-1)) := f3
  obtain ⟨f4, hf⟩ := fc_un (by decide) hf
  have f4 : w_fi ws (n_v vs 2) 157 ≤ w_fi ws (n_v vs 2) 11 := f4
  obtain ⟨f5, hf⟩ := fc_un (by decide) hf
  have f5 : (-1) * v_iv (n_v vs 11) + ((-2) * w_fi ws (n_v vs 2) 11 + 0) ≤ (-4001) := f5
  obtain ⟨f6, hf⟩ := fc_un (by decide) hf
  have f6 : n_v vs 0 = n_v vs 2 := f6
  obtain ⟨f7, hf⟩ := fc_un (by decide) hf
  have f7 : v_iv (n_v vs 9) ≠ v_iv (n_v vs 10) := f7
  obtain ⟨f8, hf⟩ := fc_un (by decide) hf
  have f8 : ((v_iv (n_v vs 5) + 1) ≤ w_fi ws (n_v vs 2) 10) → (v_iv (n_v vs 9) = (w_ei ws (w_ar ws (n_v vs 2) 1) (v_iv (n_v vs 5)) % 256)) := f8
  obtain ⟨f9, hf⟩ := fc_un (by decide) hf
  have f9 : (w_fi ws (n_v vs 2) 10 ≤ v_iv (n_v vs 5)) → (v_iv (n_v vs 9) = (-1)) := f9
  obtain ⟨f10, hf⟩ := fc_un (by decide) hf
  have f10 : v_iv (n_v vs 7) ≠ v_iv (n_v vs 8) := f10
  obtain ⟨f11, hf⟩ := fc_un (by decide) hf
  have f11 : ((v_iv (n_v vs 5) + 1) ≤ w_fi ws (n_v vs 2) 10) → (v_iv (n_v vs 7) = (w_ei ws (w_ar ws (n_v vs 2) 1) (v_iv (n_v vs 5)) % 256)) := f11
  obtain ⟨f12, hf⟩ := fc_un (by decide) hf
  have f12 : (w_fi ws (n_v vs 2) 10 ≤ v_iv (n_v vs 5)) → (v_iv (n_v vs 7) = (-1)) := f12
  obtain ⟨f13, hf⟩ := fc_un (by decide) hf
  have f13 : w_fi ws (n_v vs 2) 157 ≤ w_fi ws (n_v vs 2) 11 := f13
  obtain ⟨f14, hf⟩ := fc_un (by decide) hf
  have f14 : (-1) * v_iv (n_v vs 6) + ((-2) * w_fi ws (n_v vs 2) 11 + 0) ≤ (-4001) := f14
  have q2 : n_v vs 2 = n_v vs 0 := f6.symm
  rw [q2] at f1
  rw [q2] at f2
  rw [q2] at f3
  rw [q2] at f4
  rw [q2] at f5
  rw [q2] at f8
  rw [q2] at f9
  rw [q2] at f11
  rw [q2] at f12
  rw [q2] at f13
  rw [q2] at f14
  have cr_0_1 : ta (w_ar ws (n_v vs 0) 1) = some 151 := tv_rg (th_fd hD hth r0 (g := GG_150) rfl (k := 1) (t := (2, 0, 0, [151])) rfl rfl)
  have g1 : v_iv (n_v vs 5) = w_fi ws (n_v vs 0) 11 := congrArg v_iv f1
  have hK_0_1 : ∀ j : Int, 0 ≤ j → j < 2000 → (-128) ≤ w_ei ws (w_ar ws (n_v vs 0) 1) j ∧ w_ei ws (w_ar ws (n_v vs 0) 1) j ≤ 127 := fun j h0 h1 => th_el hD hth cr_0_1 (kd := 1) (n := 2000) (m := 2000) (lo := (-128)) (hi := 127) (rs := []) (L := []) rfl (by decide) (j := j.toNat) (by omega)
  have kz_0_10 : 0 ≤ w_fi ws (n_v vs 0) 10 ∧ w_fi ws (n_v vs 0) 10 ≤ 2000 := tv_rng (th_fd hD hth r0 (g := GG_150) rfl (k := 10) (t := (0, 0, 2000, [])) rfl rfl)
  have kz_0_11 : 0 ≤ w_fi ws (n_v vs 0) 11 ∧ w_fi ws (n_v vs 0) 11 ≤ 2000 := tv_rng (th_fd hD hth r0 (g := GG_150) rfl (k := 11) (t := (0, 0, 2000, [])) rfl rfl)
  have kz_0_157 : 0 ≤ w_fi ws (n_v vs 0) 157 ∧ w_fi ws (n_v vs 0) 157 ≤ 2010 := tv_rng (th_fd hD hth r0 (g := GG_150) rfl (k := 157) (t := (0, 0, 2010, [])) rfl rfl)
  obtain ⟨x, ex, hx⟩ := iv_ex (ta := ta) (lo := 0) (hi := 4001) (z := 0 + (1 * v_iv (n_v vs 6) + 0)) (by omega) (by omega) (by decide) (by decide)
  have ex2 : v_iv (Value.int x) = 0 + (1 * v_iv (n_v vs 6) + 0) := ex
  have ex3 : 0 ≤ v_iv (Value.int x) ∧ v_iv (Value.int x) ≤ 4001 := tv_rng hx
  have e_0 : n_v (vs ++ [Value.int x]) 0 = n_v vs 0 := n_v_old (by rw [hl]; decide)
  have e_2 : n_v (vs ++ [Value.int x]) 2 = n_v vs 2 := n_v_old (by rw [hl]; decide)
  have e_5 : n_v (vs ++ [Value.int x]) 5 = n_v vs 5 := n_v_old (by rw [hl]; decide)
  have e_19 : n_v (vs ++ [Value.int x]) 19 = Value.int x := n_v_new hl
  have nf0 : fc_1 (20, [2, 5], [50, 2, 0, 157, 11, 2, 7, 0, 3, 2, 0, 157, 1, 1, 1, 3, 2, 0, 11, 1, 1]) ws (vs ++ [Value.int x]) := by
    refine ⟨fun n hn => ?_, ?_⟩
    · have hn : n ∈ [2, 5] := hn
      rw [List.length_append, hl]
      simp only [List.mem_cons, List.not_mem_nil, or_false] at hn
      show n < 19 + 1; omega
    · show (w_fi ws (n_v (vs ++ [Value.int x]) 2) 157 ≤ v_iv (n_v (vs ++ [Value.int x]) 5)) ∧ (w_fi ws (n_v (vs ++ [Value.int x]) 2) 11 = v_iv (n_v (vs ++ [Value.int x]) 5))
      rw [e_2]
      rw [e_5]
      rw [q2]
      first | omega | grind
  have nf1 : fc_1 (20, [19, 5], [30, -4001, -1, 0, 0, -2, 0, 0]) ws (vs ++ [Value.int x]) := by
    refine ⟨fun n hn => ?_, ?_⟩
    · have hn : n ∈ [19, 5] := hn
      rw [List.length_append, hl]
      simp only [List.mem_cons, List.not_mem_nil, or_false] at hn
      show n < 19 + 1; omega
    · show (-1) * v_iv (n_v (vs ++ [Value.int x]) 19) + ((-2) * v_iv (n_v (vs ++ [Value.int x]) 5) + 0) ≤ (-4001)
      rw [e_5]
      rw [e_19]
      omega
  have nf2 : fc_1 (24, [0, 2], []) ws (vs ++ [Value.int x]) := by
    refine ⟨fun n hn => ?_, ?_⟩
    · have hn : n ∈ [0, 2] := hn
      rw [List.length_append, hl]
      simp only [List.mem_cons, List.not_mem_nil, or_false] at hn
      show n < 19 + 1; omega
    · show n_v (vs ++ [Value.int x]) 0 = n_v (vs ++ [Value.int x]) 2
      first | rfl | simp only [e_0, e_2, q2]
  obtain ⟨x0, e0, _, _⟩ := tv_int t6 rfl
  have e1 : v_iv (n_v vs 6) = x0.toInt := by rw [e0]; rfl
  have ho : sy_ofs (vs ++ [Value.int x]) (19, 6, 0, 0) := by
    refine ⟨x, x0, by rw [List.getElem?_append_right (by rw [hl]; decide), hl]; rfl, ?_, ?_, ?_⟩
    · rw [List.getElem?_append_left (by rw [hl]; decide)]; exact n_v_some (by rw [hl]; decide) e0
    · show x0.toInt + 0 ≤ x.toInt; omega
    · show x.toInt ≤ x0.toInt + 0; omega
  exact ⟨fun q hq => (by cases hq), [Value.int x], ag_one hx, List.forall_mem_cons.mpr ⟨⟨by decide, nf0⟩, List.forall_mem_cons.mpr ⟨⟨by decide, nf1⟩, List.forall_mem_cons.mpr ⟨⟨by decide, nf2⟩, (fun _ h => (by cases h))⟩⟩⟩, List.forall_mem_cons.mpr ⟨ho, (fun _ h => (by cases h))⟩⟩
def o_Mo_styleTokens_138 : or_T := (334, 29, [(0, (2, 0, 0, [150])), (2, (2, 0, 0, [150])), (5, (0, 0, 1999, [])), (6, (0, 0, 4001, [])), (7, (0, 0, 255, [])), (8, (0, 32, 32, [])), (9, (0, 0, 255, [])), (10, (0, 10, 10, [])), (11, (0, 0, 4001, [])), (12, (0, 60, 60, [])), (19, (0, 0, 4001, [])), (20, (0, 123, 123, [])), (21, (0, 125, 125, [])), (22, (0, 40, 40, [])), (23, (0, 41, 41, [])), (24, (0, 43, 43, [])), (25, (0, 45, 45, [])), (26, (0, 42, 42, [])), (27, (0, 47, 47, [])), (28, (0, 60, 60, []))], [(7, [12, 28], [0]), (7, [12, 27], [1]), (7, [12, 26], [1]), (7, [12, 25], [1]), (7, [12, 24], [1]), (7, [12, 23], [1]), (7, [12, 22], [1]), (7, [12, 21], [1]), (7, [12, 20], [1]), (20, [2, 5], [50, 2, 0, 157, 11, 2, 7, 0, 3, 2, 0, 157, 1, 1, 1, 3, 2, 0, 11, 1, 1]), (20, [19, 5], [30, -4001, -1, 0, 0, -2, 0, 0]), (24, [0, 2], []), (8, [12], [3]), (9, [5, 2], [11]), (20, [5, 2, 12], [50, 1, 1, 1010, 1001, 4, 11, 0, 6, 4, 2, 1, 0, 0, 1, 2, 1, 10, 1, 2, 1, 2, 9, 5, 3, 1, 1, 1, 0, 0, 256]), (20, [2, 5, 12], [50, 1, 0, 10, 4, 7, 0, 3, 2, 0, 10, 1, 1, 1, 2, 1, 2, 0, -1]), (20, [2], [50, 2, 0, 157, 11, 0, 3, 2, 0, 157, 2, 0, 11]), (20, [11, 2], [30, -4001, -1, 0, 0, -2, 1, 11]), (7, [9, 10], [1]), (20, [5, 2, 9], [50, 1, 1, 1010, 1001, 4, 11, 0, 6, 4, 2, 1, 0, 0, 1, 2, 1, 10, 1, 2, 1, 2, 9, 5, 3, 1, 1, 1, 0, 0, 256]), (20, [2, 5, 9], [50, 1, 0, 10, 4, 7, 0, 3, 2, 0, 10, 1, 1, 1, 2, 1, 2, 0, -1]), (7, [7, 8], [1]), (20, [5, 2, 7], [50, 1, 1, 1010, 1001, 4, 11, 0, 6, 4, 2, 1, 0, 0, 1, 2, 1, 10, 1, 2, 1, 2, 9, 5, 3, 1, 1, 1, 0, 0, 256]), (20, [2, 5, 7], [50, 1, 0, 10, 4, 7, 0, 3, 2, 0, 10, 1, 1, 1, 2, 1, 2, 0, -1]), (20, [2], [50, 2, 0, 157, 11, 0, 3, 2, 0, 157, 2, 0, 11]), (20, [6, 2], [30, -4001, -1, 0, 0, -2, 1, 11])], [], [(0, 0, 4001, [])], [(20, [2, 5], [50, 2, 0, 157, 11, 2, 7, 0, 3, 2, 0, 157, 1, 1, 1, 3, 2, 0, 11, 1, 1]), (20, [29, 5], [30, -4001, -1, 0, 0, -2, 0, 0]), (24, [0, 2], [])], [(29, 6, 0, 0)], [(19, 6, 0, 0), (11, 6, 0, 0)])
theorem oo_Mo_styleTokens_138 {kA : Nat → ClassId} : or_ok kA GG o_Mo_styleTokens_138 := by
  intro A ta ws vs hD hth hl hk hds hf
  have hl : vs.length = 29 := hl
  have hk : ∀ q ∈ ([(0, (2, 0, 0, [150])), (2, (2, 0, 0, [150])), (5, (0, 0, 1999, [])), (6, (0, 0, 4001, [])), (7, (0, 0, 255, [])), (8, (0, 32, 32, [])), (9, (0, 0, 255, [])), (10, (0, 10, 10, [])), (11, (0, 0, 4001, [])), (12, (0, 60, 60, [])), (19, (0, 0, 4001, [])), (20, (0, 123, 123, [])), (21, (0, 125, 125, [])), (22, (0, 40, 40, [])), (23, (0, 41, 41, [])), (24, (0, 43, 43, [])), (25, (0, 45, 45, [])), (26, (0, 42, 42, [])), (27, (0, 47, 47, [])), (28, (0, 60, 60, []))] : List (Nat × tv_T)), tv_ok ta q.2 (n_v vs q.1) := hk
  obtain ⟨t0, hk⟩ := List.forall_mem_cons.mp hk
  have t0 : tv_ok ta (2, 0, 0, [150]) (n_v vs 0) := t0
  have r0 : ta (v_ad (n_v vs 0)) = some 150 := tv_rg t0
  obtain ⟨t2, hk⟩ := List.forall_mem_cons.mp hk
  have t2 : tv_ok ta (2, 0, 0, [150]) (n_v vs 2) := t2
  have r2 : ta (v_ad (n_v vs 2)) = some 150 := tv_rg t2
  obtain ⟨t5, hk⟩ := List.forall_mem_cons.mp hk
  have t5 : tv_ok ta (0, 0, 1999, []) (n_v vs 5) := t5
  have k5 : 0 ≤ v_iv (n_v vs 5) ∧ v_iv (n_v vs 5) ≤ 1999 := tv_rng t5
  obtain ⟨t6, hk⟩ := List.forall_mem_cons.mp hk
  have t6 : tv_ok ta (0, 0, 4001, []) (n_v vs 6) := t6
  have k6 : 0 ≤ v_iv (n_v vs 6) ∧ v_iv (n_v vs 6) ≤ 4001 := tv_rng t6
  obtain ⟨t7, hk⟩ := List.forall_mem_cons.mp hk
  have t7 : tv_ok ta (0, 0, 255, []) (n_v vs 7) := t7
  have k7 : 0 ≤ v_iv (n_v vs 7) ∧ v_iv (n_v vs 7) ≤ 255 := tv_rng t7
  obtain ⟨t8, hk⟩ := List.forall_mem_cons.mp hk
  have t8 : tv_ok ta (0, 32, 32, []) (n_v vs 8) := t8
  have k8 : 32 ≤ v_iv (n_v vs 8) ∧ v_iv (n_v vs 8) ≤ 32 := tv_rng t8
  obtain ⟨t9, hk⟩ := List.forall_mem_cons.mp hk
  have t9 : tv_ok ta (0, 0, 255, []) (n_v vs 9) := t9
  have k9 : 0 ≤ v_iv (n_v vs 9) ∧ v_iv (n_v vs 9) ≤ 255 := tv_rng t9
  obtain ⟨t10, hk⟩ := List.forall_mem_cons.mp hk
  have t10 : tv_ok ta (0, 10, 10, []) (n_v vs 10) := t10
  have k10 : 10 ≤ v_iv (n_v vs 10) ∧ v_iv (n_v vs 10) ≤ 10 := tv_rng t10
  obtain ⟨t11, hk⟩ := List.forall_mem_cons.mp hk
  have t11 : tv_ok ta (0, 0, 4001, []) (n_v vs 11) := t11
  have k11 : 0 ≤ v_iv (n_v vs 11) ∧ v_iv (n_v vs 11) ≤ 4001 := tv_rng t11
  obtain ⟨t12, hk⟩ := List.forall_mem_cons.mp hk
  have t12 : tv_ok ta (0, 60, 60, []) (n_v vs 12) := t12
  have k12 : 60 ≤ v_iv (n_v vs 12) ∧ v_iv (n_v vs 12) ≤ 60 := tv_rng t12
  obtain ⟨t19, hk⟩ := List.forall_mem_cons.mp hk
  have t19 : tv_ok ta (0, 0, 4001, []) (n_v vs 19) := t19
  have k19 : 0 ≤ v_iv (n_v vs 19) ∧ v_iv (n_v vs 19) ≤ 4001 := tv_rng t19
  obtain ⟨t20, hk⟩ := List.forall_mem_cons.mp hk
  have t20 : tv_ok ta (0, 123, 123, []) (n_v vs 20) := t20
  have k20 : 123 ≤ v_iv (n_v vs 20) ∧ v_iv (n_v vs 20) ≤ 123 := tv_rng t20
  obtain ⟨t21, hk⟩ := List.forall_mem_cons.mp hk
  have t21 : tv_ok ta (0, 125, 125, []) (n_v vs 21) := t21
  have k21 : 125 ≤ v_iv (n_v vs 21) ∧ v_iv (n_v vs 21) ≤ 125 := tv_rng t21
  obtain ⟨t22, hk⟩ := List.forall_mem_cons.mp hk
  have t22 : tv_ok ta (0, 40, 40, []) (n_v vs 22) := t22
  have k22 : 40 ≤ v_iv (n_v vs 22) ∧ v_iv (n_v vs 22) ≤ 40 := tv_rng t22
  obtain ⟨t23, hk⟩ := List.forall_mem_cons.mp hk
  have t23 : tv_ok ta (0, 41, 41, []) (n_v vs 23) := t23
  have k23 : 41 ≤ v_iv (n_v vs 23) ∧ v_iv (n_v vs 23) ≤ 41 := tv_rng t23
  obtain ⟨t24, hk⟩ := List.forall_mem_cons.mp hk
  have t24 : tv_ok ta (0, 43, 43, []) (n_v vs 24) := t24
  have k24 : 43 ≤ v_iv (n_v vs 24) ∧ v_iv (n_v vs 24) ≤ 43 := tv_rng t24
  obtain ⟨t25, hk⟩ := List.forall_mem_cons.mp hk
  have t25 : tv_ok ta (0, 45, 45, []) (n_v vs 25) := t25
  have k25 : 45 ≤ v_iv (n_v vs 25) ∧ v_iv (n_v vs 25) ≤ 45 := tv_rng t25
  obtain ⟨t26, hk⟩ := List.forall_mem_cons.mp hk
  have t26 : tv_ok ta (0, 42, 42, []) (n_v vs 26) := t26
  have k26 : 42 ≤ v_iv (n_v vs 26) ∧ v_iv (n_v vs 26) ≤ 42 := tv_rng t26
  obtain ⟨t27, hk⟩ := List.forall_mem_cons.mp hk
  have t27 : tv_ok ta (0, 47, 47, []) (n_v vs 27) := t27
  have k27 : 47 ≤ v_iv (n_v vs 27) ∧ v_iv (n_v vs 27) ≤ 47 := tv_rng t27
  obtain ⟨t28, hk⟩ := List.forall_mem_cons.mp hk
  have t28 : tv_ok ta (0, 60, 60, []) (n_v vs 28) := t28
  have k28 : 60 ≤ v_iv (n_v vs 28) ∧ v_iv (n_v vs 28) ≤ 60 := tv_rng t28
  have hds : ∀ q ∈ ([(19, 6, 0, 0), (11, 6, 0, 0)] : List of_T), n_iv vs q.2.1 + q.2.2.1 ≤ n_iv vs q.1 ∧ n_iv vs q.1 ≤ n_iv vs q.2.1 + q.2.2.2 := hds
  obtain ⟨d0, hds⟩ := List.forall_mem_cons.mp hds
  have d0 : v_iv (n_v vs 6) + 0 ≤ v_iv (n_v vs 19) ∧ v_iv (n_v vs 19) ≤ v_iv (n_v vs 6) + 0 := d0
  obtain ⟨d1, hds⟩ := List.forall_mem_cons.mp hds
  have d1 : v_iv (n_v vs 6) + 0 ≤ v_iv (n_v vs 11) ∧ v_iv (n_v vs 11) ≤ v_iv (n_v vs 6) + 0 := d1
  have hf : fc_ok [(7, [12, 28], [0]), (7, [12, 27], [1]), (7, [12, 26], [1]), (7, [12, 25], [1]), (7, [12, 24], [1]), (7, [12, 23], [1]), (7, [12, 22], [1]), (7, [12, 21], [1]), (7, [12, 20], [1]), (20, [2, 5], [50, 2, 0, 157, 11, 2, 7, 0, 3, 2, 0, 157, 1, 1, 1, 3, 2, 0, 11, 1, 1]), (20, [19, 5], [30, -4001, -1, 0, 0, -2, 0, 0]), (24, [0, 2], []), (8, [12], [3]), (9, [5, 2], [11]), (20, [5, 2, 12], [50, 1, 1, 1010, 1001, 4, 11, 0, 6, 4, 2, 1, 0, 0, 1, 2, 1, 10, 1, 2, 1, 2, 9, 5, 3, 1, 1, 1, 0, 0, 256]), (20, [2, 5, 12], [50, 1, 0, 10, 4, 7, 0, 3, 2, 0, 10, 1, 1, 1, 2, 1, 2, 0, -1]), (20, [2], [50, 2, 0, 157, 11, 0, 3, 2, 0, 157, 2, 0, 11]), (20, [11, 2], [30, -4001, -1, 0, 0, -2, 1, 11]), (7, [9, 10], [1]), (20, [5, 2, 9], [50, 1, 1, 1010, 1001, 4, 11, 0, 6, 4, 2, 1, 0, 0, 1, 2, 1, 10, 1, 2, 1, 2, 9, 5, 3, 1, 1, 1, 0, 0, 256]), (20, [2, 5, 9], [50, 1, 0, 10, 4, 7, 0, 3, 2, 0, 10, 1, 1, 1, 2, 1, 2, 0, -1]), (7, [7, 8], [1]), (20, [5, 2, 7], [50, 1, 1, 1010, 1001, 4, 11, 0, 6, 4, 2, 1, 0, 0, 1, 2, 1, 10, 1, 2, 1, 2, 9, 5, 3, 1, 1, 1, 0, 0, 256]), (20, [2, 5, 7], [50, 1, 0, 10, 4, 7, 0, 3, 2, 0, 10, 1, 1, 1, 2, 1, 2, 0, -1]), (20, [2], [50, 2, 0, 157, 11, 0, 3, 2, 0, 157, 2, 0, 11]), (20, [6, 2], [30, -4001, -1, 0, 0, -2, 1, 11])] ta ws vs := hf
  obtain ⟨f0, hf⟩ := fc_un (by decide) hf
  have f0 : v_iv (n_v vs 12) = v_iv (n_v vs 28) := f0
  obtain ⟨f1, hf⟩ := fc_un (by decide) hf
  have f1 : v_iv (n_v vs 12) ≠ v_iv (n_v vs 27) := f1
  obtain ⟨f2, hf⟩ := fc_un (by decide) hf
  have f2 : v_iv (n_v vs 12) ≠ v_iv (n_v vs 26) := f2
  obtain ⟨f3, hf⟩ := fc_un (by decide) hf
  have f3 : v_iv (n_v vs 12) ≠ v_iv (n_v vs 25) := f3
  obtain ⟨f4, hf⟩ := fc_un (by decide) hf
  have f4 : v_iv (n_v vs 12) ≠ v_iv (n_v vs 24) := f4
  obtain ⟨f5, hf⟩ := fc_un (by decide) hf
  have f5 : v_iv (n_v vs 12) ≠ v_iv (n_v vs 23) := f5
  obtain ⟨f6, hf⟩ := fc_un (by decide) hf
  have f6 : v_iv (n_v vs 12) ≠ v_iv (n_v vs 22) := f6
  obtain ⟨f7, hf⟩ := fc_un (by decide) hf
  have f7 : v_iv (n_v vs 12) ≠ v_iv (n_v vs 21) := f7
  obtain ⟨f8, hf⟩ := fc_un (by decide) hf
  have f8 : v_iv (n_v vs 12) ≠ v_iv (n_v vs 20) := f8
  obtain ⟨f9, hf⟩ := fc_un (by decide) hf
  have f9 : (w_fi ws (n_v vs 2) 157 ≤ v_iv (n_v vs 5)) ∧ (w_fi ws (n_v vs 2) 11 = v_iv (n_v vs 5)) := f9
  obtain ⟨f10, hf⟩ := fc_un (by decide) hf
  have f10 : (-1) * v_iv (n_v vs 19) + ((-2) * v_iv (n_v vs 5) + 0) ≤ (-4001) := f10
  obtain ⟨f11, hf⟩ := fc_un (by decide) hf
  have f11 : n_v vs 0 = n_v vs 2 := f11
  obtain ⟨f12, hf⟩ := fc_un (by decide) hf
  have f12 : 0 ≤ v_iv (n_v vs 12) := f12
  obtain ⟨f13, hf⟩ := fc_un (by decide) hf
  have f13 : n_v vs 5 = w_fd ws (v_ad (n_v vs 2)) 11 := f13
  obtain ⟨f14, hf⟩ := fc_un (by decide) hf
  have f14 : ((v_iv (n_v vs 5) + 1) ≤ w_fi ws (n_v vs 2) 10) → (v_iv (n_v vs 12) = (w_ei ws (w_ar ws (n_v vs 2) 1) (v_iv (n_v vs 5)) % 256)) := f14
  obtain ⟨f15, hf⟩ := fc_un (by decide) hf
  have f15 : (w_fi ws (n_v vs 2) 10 ≤ v_iv (n_v vs 5)) → (v_iv (n_v vs 12) = (-1)) := f15
  obtain ⟨f16, hf⟩ := fc_un (by decide) hf
  have f16 : w_fi ws (n_v vs 2) 157 ≤ w_fi ws (n_v vs 2) 11 := f16
  obtain ⟨f17, hf⟩ := fc_un (by decide) hf
  have f17 : (-1) * v_iv (n_v vs 11) + ((-2) * w_fi ws (n_v vs 2) 11 + 0) ≤ (-4001) := f17
  obtain ⟨f18, hf⟩ := fc_un (by decide) hf
  have f18 : v_iv (n_v vs 9) ≠ v_iv (n_v vs 10) := f18
  obtain ⟨f19, hf⟩ := fc_un (by decide) hf
  have f19 : ((v_iv (n_v vs 5) + 1) ≤ w_fi ws (n_v vs 2) 10) → (v_iv (n_v vs 9) = (w_ei ws (w_ar ws (n_v vs 2) 1) (v_iv (n_v vs 5)) % 256)) := f19
  obtain ⟨f20, hf⟩ := fc_un (by decide) hf
  have f20 : (w_fi ws (n_v vs 2) 10 ≤ v_iv (n_v vs 5)) → (v_iv (n_v vs 9) = (-1)) := f20
  obtain ⟨f21, hf⟩ := fc_un (by decide) hf
  have f21 : v_iv (n_v vs 7) ≠ v_iv (n_v vs 8) := f21
  obtain ⟨f22, hf⟩ := fc_un (by decide) hf
  have f22 : ((v_iv (n_v vs 5) + 1) ≤ w_fi ws (n_v vs 2) 10) → (v_iv (n_v vs 7) = (w_ei ws (w_ar ws (n_v vs 2) 1) (v_iv (n_v vs 5)) % 256)) := f22
  obtain ⟨f23, hf⟩ := fc_un (by decide) hf
  have f23 : (w_fi ws (n_v vs 2) 10 ≤ v_iv (n_v vs 5)) → (v_iv (n_v vs 7) = (-1)) := f23
  obtain ⟨f24, hf⟩ := fc_un (by decide) hf
  have f24 : w_fi ws (n_v vs 2) 157 ≤ w_fi ws (n_v vs 2) 11 := f24
  obtain ⟨f25, hf⟩ := fc_un (by decide) hf
  have f25 : (-1) * v_iv (n_v vs 6) + ((-2) * w_fi ws (n_v vs 2) 11 + 0) ≤ (-4001) := f25
  have q2 : n_v vs 2 = n_v vs 0 := f11.symm
  rw [q2] at f9
  rw [q2] at f13
  rw [q2] at f14
  rw [q2] at f15
  rw [q2] at f16
  rw [q2] at f17
  rw [q2] at f19
  rw [q2] at f20
  rw [q2] at f22
  rw [q2] at f23
  rw [q2] at f24
  rw [q2] at f25
  have cr_0_1 : ta (w_ar ws (n_v vs 0) 1) = some 151 := tv_rg (th_fd hD hth r0 (g := GG_150) rfl (k := 1) (t := (2, 0, 0, [151])) rfl rfl)
  have g13 : v_iv (n_v vs 5) = w_fi ws (n_v vs 0) 11 := congrArg v_iv f13
  have hK_0_1 : ∀ j : Int, 0 ≤ j → j < 2000 → (-128) ≤ w_ei ws (w_ar ws (n_v vs 0) 1) j ∧ w_ei ws (w_ar ws (n_v vs 0) 1) j ≤ 127 := fun j h0 h1 => th_el hD hth cr_0_1 (kd := 1) (n := 2000) (m := 2000) (lo := (-128)) (hi := 127) (rs := []) (L := []) rfl (by decide) (j := j.toNat) (by omega)
  have kz_0_10 : 0 ≤ w_fi ws (n_v vs 0) 10 ∧ w_fi ws (n_v vs 0) 10 ≤ 2000 := tv_rng (th_fd hD hth r0 (g := GG_150) rfl (k := 10) (t := (0, 0, 2000, [])) rfl rfl)
  have kz_0_11 : 0 ≤ w_fi ws (n_v vs 0) 11 ∧ w_fi ws (n_v vs 0) 11 ≤ 2000 := tv_rng (th_fd hD hth r0 (g := GG_150) rfl (k := 11) (t := (0, 0, 2000, [])) rfl rfl)
  have kz_0_157 : 0 ≤ w_fi ws (n_v vs 0) 157 ∧ w_fi ws (n_v vs 0) 157 ≤ 2010 := tv_rng (th_fd hD hth r0 (g := GG_150) rfl (k := 157) (t := (0, 0, 2010, [])) rfl rfl)
  obtain ⟨x, ex, hx⟩ := iv_ex (ta := ta) (lo := 0) (hi := 4001) (z := 0 + (1 * v_iv (n_v vs 6) + 0)) (by omega) (by omega) (by decide) (by decide)
  have ex2 : v_iv (Value.int x) = 0 + (1 * v_iv (n_v vs 6) + 0) := ex
  have ex3 : 0 ≤ v_iv (Value.int x) ∧ v_iv (Value.int x) ≤ 4001 := tv_rng hx
  have e_0 : n_v (vs ++ [Value.int x]) 0 = n_v vs 0 := n_v_old (by rw [hl]; decide)
  have e_2 : n_v (vs ++ [Value.int x]) 2 = n_v vs 2 := n_v_old (by rw [hl]; decide)
  have e_5 : n_v (vs ++ [Value.int x]) 5 = n_v vs 5 := n_v_old (by rw [hl]; decide)
  have e_29 : n_v (vs ++ [Value.int x]) 29 = Value.int x := n_v_new hl
  have nf0 : fc_1 (20, [2, 5], [50, 2, 0, 157, 11, 2, 7, 0, 3, 2, 0, 157, 1, 1, 1, 3, 2, 0, 11, 1, 1]) ws (vs ++ [Value.int x]) := by
    refine ⟨fun n hn => ?_, ?_⟩
    · have hn : n ∈ [2, 5] := hn
      rw [List.length_append, hl]
      simp only [List.mem_cons, List.not_mem_nil, or_false] at hn
      show n < 29 + 1; omega
    · show (w_fi ws (n_v (vs ++ [Value.int x]) 2) 157 ≤ v_iv (n_v (vs ++ [Value.int x]) 5)) ∧ (w_fi ws (n_v (vs ++ [Value.int x]) 2) 11 = v_iv (n_v (vs ++ [Value.int x]) 5))
      rw [e_2]
      rw [e_5]
      rw [q2]
      first | omega | grind
  have nf1 : fc_1 (20, [29, 5], [30, -4001, -1, 0, 0, -2, 0, 0]) ws (vs ++ [Value.int x]) := by
    refine ⟨fun n hn => ?_, ?_⟩
    · have hn : n ∈ [29, 5] := hn
      rw [List.length_append, hl]
      simp only [List.mem_cons, List.not_mem_nil, or_false] at hn
      show n < 29 + 1; omega
    · show (-1) * v_iv (n_v (vs ++ [Value.int x]) 29) + ((-2) * v_iv (n_v (vs ++ [Value.int x]) 5) + 0) ≤ (-4001)
      rw [e_5]
      rw [e_29]
      omega
  have nf2 : fc_1 (24, [0, 2], []) ws (vs ++ [Value.int x]) := by
    refine ⟨fun n hn => ?_, ?_⟩
    · have hn : n ∈ [0, 2] := hn
      rw [List.length_append, hl]
      simp only [List.mem_cons, List.not_mem_nil, or_false] at hn
      show n < 29 + 1; omega
    · show n_v (vs ++ [Value.int x]) 0 = n_v (vs ++ [Value.int x]) 2
      first | rfl | simp only [e_0, e_2, q2]
  obtain ⟨x0, e0, _, _⟩ := tv_int t6 rfl
  have e1 : v_iv (n_v vs 6) = x0.toInt := by rw [e0]; rfl
  have ho : sy_ofs (vs ++ [Value.int x]) (29, 6, 0, 0) := by
    refine ⟨x, x0, by rw [List.getElem?_append_right (by rw [hl]; decide), hl]; rfl, ?_, ?_, ?_⟩
    · rw [List.getElem?_append_left (by rw [hl]; decide)]; exact n_v_some (by rw [hl]; decide) e0
    · show x0.toInt + 0 ≤ x.toInt; omega
    · show x.toInt ≤ x0.toInt + 0; omega
  exact ⟨fun q hq => (by cases hq), [Value.int x], ag_one hx, List.forall_mem_cons.mpr ⟨⟨by decide, nf0⟩, List.forall_mem_cons.mpr ⟨⟨by decide, nf1⟩, List.forall_mem_cons.mpr ⟨⟨by decide, nf2⟩, (fun _ h => (by cases h))⟩⟩⟩, List.forall_mem_cons.mpr ⟨ho, (fun _ h => (by cases h))⟩⟩
def o_Mo_styleTokens_139 : or_T := (339, 31, [(0, (2, 0, 0, [150])), (2, (2, 0, 0, [150])), (5, (0, 0, 1999, [])), (6, (0, 0, 4001, [])), (7, (0, 0, 255, [])), (8, (0, 32, 32, [])), (9, (0, 0, 255, [])), (10, (0, 10, 10, [])), (11, (0, 0, 4001, [])), (12, (0, 60, 60, [])), (19, (0, 0, 4001, [])), (20, (0, 123, 123, [])), (21, (0, 125, 125, [])), (22, (0, 40, 40, [])), (23, (0, 41, 41, [])), (24, (0, 43, 43, [])), (25, (0, 45, 45, [])), (26, (0, 42, 42, [])), (27, (0, 47, 47, [])), (28, (0, 60, 60, [])), (29, (0, 0, 4001, []))], [(20, [2, 5], [50, 2, 0, 157, 11, 2, 7, 0, 3, 2, 0, 157, 1, 1, 1, 3, 2, 0, 11, 1, 1]), (20, [29, 5], [30, -4001, -1, 0, 0, -2, 0, 0]), (24, [0, 2], []), (7, [12, 28], [0]), (7, [12, 27], [1]), (7, [12, 26], [1]), (7, [12, 25], [1]), (7, [12, 24], [1]), (7, [12, 23], [1]), (7, [12, 22], [1]), (7, [12, 21], [1]), (7, [12, 20], [1]), (20, [2, 5], [50, 2, 0, 157, 11, 2, 7, 0, 3, 2, 0, 157, 1, 1, 1, 3, 2, 0, 11, 1, 1]), (20, [19, 5], [30, -4001, -1, 0, 0, -2, 0, 0]), (8, [12], [3]), (9, [5, 2], [11]), (20, [5, 2, 12], [50, 1, 1, 1010, 1001, 4, 11, 0, 6, 4, 2, 1, 0, 0, 1, 2, 1, 10, 1, 2, 1, 2, 9, 5, 3, 1, 1, 1, 0, 0, 256]), (20, [2, 5, 12], [50, 1, 0, 10, 4, 7, 0, 3, 2, 0, 10, 1, 1, 1, 2, 1, 2, 0, -1]), (20, [2], [50, 2, 0, 157, 11, 0, 3, 2, 0, 157, 2, 0, 11]), (20, [11, 2], [30, -4001, -1, 0, 0, -2, 1, 11]), (7, [9, 10], [1]), (20, [5, 2, 9], [50, 1, 1, 1010, 1001, 4, 11, 0, 6, 4, 2, 1, 0, 0, 1, 2, 1, 10, 1, 2, 1, 2, 9, 5, 3, 1, 1, 1, 0, 0, 256]), (20, [2, 5, 9], [50, 1, 0, 10, 4, 7, 0, 3, 2, 0, 10, 1, 1, 1, 2, 1, 2, 0, -1]), (7, [7, 8], [1]), (20, [5, 2, 7], [50, 1, 1, 1010, 1001, 4, 11, 0, 6, 4, 2, 1, 0, 0, 1, 2, 1, 10, 1, 2, 1, 2, 9, 5, 3, 1, 1, 1, 0, 0, 256]), (20, [2, 5, 7], [50, 1, 0, 10, 4, 7, 0, 3, 2, 0, 10, 1, 1, 1, 2, 1, 2, 0, -1]), (20, [2], [50, 2, 0, 157, 11, 0, 3, 2, 0, 157, 2, 0, 11]), (20, [6, 2], [30, -4001, -1, 0, 0, -2, 1, 11])], [], [(0, 0, 4001, [])], [(20, [2, 5], [50, 2, 0, 157, 11, 2, 7, 0, 3, 2, 0, 157, 1, 1, 1, 3, 2, 0, 11, 1, 1]), (20, [31, 5], [30, -4001, -1, 0, 0, -2, 0, 0]), (24, [0, 2], [])], [(31, 6, 0, 0)], [(29, 6, 0, 0), (19, 6, 0, 0), (11, 6, 0, 0)])
theorem oo_Mo_styleTokens_139 {kA : Nat → ClassId} : or_ok kA GG o_Mo_styleTokens_139 := by
  intro A ta ws vs hD hth hl hk hds hf
  have hl : vs.length = 31 := hl
  have hk : ∀ q ∈ ([(0, (2, 0, 0, [150])), (2, (2, 0, 0, [150])), (5, (0, 0, 1999, [])), (6, (0, 0, 4001, [])), (7, (0, 0, 255, [])), (8, (0, 32, 32, [])), (9, (0, 0, 255, [])), (10, (0, 10, 10, [])), (11, (0, 0, 4001, [])), (12, (0, 60, 60, [])), (19, (0, 0, 4001, [])), (20, (0, 123, 123, [])), (21, (0, 125, 125, [])), (22, (0, 40, 40, [])), (23, (0, 41, 41, [])), (24, (0, 43, 43, [])), (25, (0, 45, 45, [])), (26, (0, 42, 42, [])), (27, (0, 47, 47, [])), (28, (0, 60, 60, [])), (29, (0, 0, 4001, []))] : List (Nat × tv_T)), tv_ok ta q.2 (n_v vs q.1) := hk
  obtain ⟨t0, hk⟩ := List.forall_mem_cons.mp hk
  have t0 : tv_ok ta (2, 0, 0, [150]) (n_v vs 0) := t0
  have r0 : ta (v_ad (n_v vs 0)) = some 150 := tv_rg t0
  obtain ⟨t2, hk⟩ := List.forall_mem_cons.mp hk
  have t2 : tv_ok ta (2, 0, 0, [150]) (n_v vs 2) := t2
  have r2 : ta (v_ad (n_v vs 2)) = some 150 := tv_rg t2
  obtain ⟨t5, hk⟩ := List.forall_mem_cons.mp hk
  have t5 : tv_ok ta (0, 0, 1999, []) (n_v vs 5) := t5
  have k5 : 0 ≤ v_iv (n_v vs 5) ∧ v_iv (n_v vs 5) ≤ 1999 := tv_rng t5
  obtain ⟨t6, hk⟩ := List.forall_mem_cons.mp hk
  have t6 : tv_ok ta (0, 0, 4001, []) (n_v vs 6) := t6
  have k6 : 0 ≤ v_iv (n_v vs 6) ∧ v_iv (n_v vs 6) ≤ 4001 := tv_rng t6
  obtain ⟨t7, hk⟩ := List.forall_mem_cons.mp hk
  have t7 : tv_ok ta (0, 0, 255, []) (n_v vs 7) := t7
  have k7 : 0 ≤ v_iv (n_v vs 7) ∧ v_iv (n_v vs 7) ≤ 255 := tv_rng t7
  obtain ⟨t8, hk⟩ := List.forall_mem_cons.mp hk
  have t8 : tv_ok ta (0, 32, 32, []) (n_v vs 8) := t8
  have k8 : 32 ≤ v_iv (n_v vs 8) ∧ v_iv (n_v vs 8) ≤ 32 := tv_rng t8
  obtain ⟨t9, hk⟩ := List.forall_mem_cons.mp hk
  have t9 : tv_ok ta (0, 0, 255, []) (n_v vs 9) := t9
  have k9 : 0 ≤ v_iv (n_v vs 9) ∧ v_iv (n_v vs 9) ≤ 255 := tv_rng t9
  obtain ⟨t10, hk⟩ := List.forall_mem_cons.mp hk
  have t10 : tv_ok ta (0, 10, 10, []) (n_v vs 10) := t10
  have k10 : 10 ≤ v_iv (n_v vs 10) ∧ v_iv (n_v vs 10) ≤ 10 := tv_rng t10
  obtain ⟨t11, hk⟩ := List.forall_mem_cons.mp hk
  have t11 : tv_ok ta (0, 0, 4001, []) (n_v vs 11) := t11
  have k11 : 0 ≤ v_iv (n_v vs 11) ∧ v_iv (n_v vs 11) ≤ 4001 := tv_rng t11
  obtain ⟨t12, hk⟩ := List.forall_mem_cons.mp hk
  have t12 : tv_ok ta (0, 60, 60, []) (n_v vs 12) := t12
  have k12 : 60 ≤ v_iv (n_v vs 12) ∧ v_iv (n_v vs 12) ≤ 60 := tv_rng t12
  obtain ⟨t19, hk⟩ := List.forall_mem_cons.mp hk
  have t19 : tv_ok ta (0, 0, 4001, []) (n_v vs 19) := t19
  have k19 : 0 ≤ v_iv (n_v vs 19) ∧ v_iv (n_v vs 19) ≤ 4001 := tv_rng t19
  obtain ⟨t20, hk⟩ := List.forall_mem_cons.mp hk
  have t20 : tv_ok ta (0, 123, 123, []) (n_v vs 20) := t20
  have k20 : 123 ≤ v_iv (n_v vs 20) ∧ v_iv (n_v vs 20) ≤ 123 := tv_rng t20
  obtain ⟨t21, hk⟩ := List.forall_mem_cons.mp hk
  have t21 : tv_ok ta (0, 125, 125, []) (n_v vs 21) := t21
  have k21 : 125 ≤ v_iv (n_v vs 21) ∧ v_iv (n_v vs 21) ≤ 125 := tv_rng t21
  obtain ⟨t22, hk⟩ := List.forall_mem_cons.mp hk
  have t22 : tv_ok ta (0, 40, 40, []) (n_v vs 22) := t22
  have k22 : 40 ≤ v_iv (n_v vs 22) ∧ v_iv (n_v vs 22) ≤ 40 := tv_rng t22
  obtain ⟨t23, hk⟩ := List.forall_mem_cons.mp hk
  have t23 : tv_ok ta (0, 41, 41, []) (n_v vs 23) := t23
  have k23 : 41 ≤ v_iv (n_v vs 23) ∧ v_iv (n_v vs 23) ≤ 41 := tv_rng t23
  obtain ⟨t24, hk⟩ := List.forall_mem_cons.mp hk
  have t24 : tv_ok ta (0, 43, 43, []) (n_v vs 24) := t24
  have k24 : 43 ≤ v_iv (n_v vs 24) ∧ v_iv (n_v vs 24) ≤ 43 := tv_rng t24
  obtain ⟨t25, hk⟩ := List.forall_mem_cons.mp hk
  have t25 : tv_ok ta (0, 45, 45, []) (n_v vs 25) := t25
  have k25 : 45 ≤ v_iv (n_v vs 25) ∧ v_iv (n_v vs 25) ≤ 45 := tv_rng t25
  obtain ⟨t26, hk⟩ := List.forall_mem_cons.mp hk
  have t26 : tv_ok ta (0, 42, 42, []) (n_v vs 26) := t26
  have k26 : 42 ≤ v_iv (n_v vs 26) ∧ v_iv (n_v vs 26) ≤ 42 := tv_rng t26
  obtain ⟨t27, hk⟩ := List.forall_mem_cons.mp hk
  have t27 : tv_ok ta (0, 47, 47, []) (n_v vs 27) := t27
  have k27 : 47 ≤ v_iv (n_v vs 27) ∧ v_iv (n_v vs 27) ≤ 47 := tv_rng t27
  obtain ⟨t28, hk⟩ := List.forall_mem_cons.mp hk
  have t28 : tv_ok ta (0, 60, 60, []) (n_v vs 28) := t28
  have k28 : 60 ≤ v_iv (n_v vs 28) ∧ v_iv (n_v vs 28) ≤ 60 := tv_rng t28
  obtain ⟨t29, hk⟩ := List.forall_mem_cons.mp hk
  have t29 : tv_ok ta (0, 0, 4001, []) (n_v vs 29) := t29
  have k29 : 0 ≤ v_iv (n_v vs 29) ∧ v_iv (n_v vs 29) ≤ 4001 := tv_rng t29
  have hds : ∀ q ∈ ([(29, 6, 0, 0), (19, 6, 0, 0), (11, 6, 0, 0)] : List of_T), n_iv vs q.2.1 + q.2.2.1 ≤ n_iv vs q.1 ∧ n_iv vs q.1 ≤ n_iv vs q.2.1 + q.2.2.2 := hds
  obtain ⟨d0, hds⟩ := List.forall_mem_cons.mp hds
  have d0 : v_iv (n_v vs 6) + 0 ≤ v_iv (n_v vs 29) ∧ v_iv (n_v vs 29) ≤ v_iv (n_v vs 6) + 0 := d0
  obtain ⟨d1, hds⟩ := List.forall_mem_cons.mp hds
  have d1 : v_iv (n_v vs 6) + 0 ≤ v_iv (n_v vs 19) ∧ v_iv (n_v vs 19) ≤ v_iv (n_v vs 6) + 0 := d1
  obtain ⟨d2, hds⟩ := List.forall_mem_cons.mp hds
  have d2 : v_iv (n_v vs 6) + 0 ≤ v_iv (n_v vs 11) ∧ v_iv (n_v vs 11) ≤ v_iv (n_v vs 6) + 0 := d2
  have hf : fc_ok [(20, [2, 5], [50, 2, 0, 157, 11, 2, 7, 0, 3, 2, 0, 157, 1, 1, 1, 3, 2, 0, 11, 1, 1]), (20, [29, 5], [30, -4001, -1, 0, 0, -2, 0, 0]), (24, [0, 2], []), (7, [12, 28], [0]), (7, [12, 27], [1]), (7, [12, 26], [1]), (7, [12, 25], [1]), (7, [12, 24], [1]), (7, [12, 23], [1]), (7, [12, 22], [1]), (7, [12, 21], [1]), (7, [12, 20], [1]), (20, [2, 5], [50, 2, 0, 157, 11, 2, 7, 0, 3, 2, 0, 157, 1, 1, 1, 3, 2, 0, 11, 1, 1]), (20, [19, 5], [30, -4001, -1, 0, 0, -2, 0, 0]), (8, [12], [3]), (9, [5, 2], [11]), (20, [5, 2, 12], [50, 1, 1, 1010, 1001, 4, 11, 0, 6, 4, 2, 1, 0, 0, 1, 2, 1, 10, 1, 2, 1, 2, 9, 5, 3, 1, 1, 1, 0, 0, 256]), (20, [2, 5, 12], [50, 1, 0, 10, 4, 7, 0, 3, 2, 0, 10, 1, 1, 1, 2, 1, 2, 0, -1]), (20, [2], [50, 2, 0, 157, 11, 0, 3, 2, 0, 157, 2, 0, 11]), (20, [11, 2], [30, -4001, -1, 0, 0, -2, 1, 11]), (7, [9, 10], [1]), (20, [5, 2, 9], [50, 1, 1, 1010, 1001, 4, 11, 0, 6, 4, 2, 1, 0, 0, 1, 2, 1, 10, 1, 2, 1, 2, 9, 5, 3, 1, 1, 1, 0, 0, 256]), (20, [2, 5, 9], [50, 1, 0, 10, 4, 7, 0, 3, 2, 0, 10, 1, 1, 1, 2, 1, 2, 0, -1]), (7, [7, 8], [1]), (20, [5, 2, 7], [50, 1, 1, 1010, 1001, 4, 11, 0, 6, 4, 2, 1, 0, 0, 1, 2, 1, 10, 1, 2, 1, 2, 9, 5, 3, 1, 1, 1, 0, 0, 256]), (20, [2, 5, 7], [50, 1, 0, 10, 4, 7, 0, 3, 2, 0, 10, 1, 1, 1, 2, 1, 2, 0, -1]), (20, [2], [50, 2, 0, 157, 11, 0, 3, 2, 0, 157, 2, 0, 11]), (20, [6, 2], [30, -4001, -1, 0, 0, -2, 1, 11])] ta ws vs := hf
  obtain ⟨f0, hf⟩ := fc_un (by decide) hf
  have f0 : (w_fi ws (n_v vs 2) 157 ≤ v_iv (n_v vs 5)) ∧ (w_fi ws (n_v vs 2) 11 = v_iv (n_v vs 5)) := f0
  obtain ⟨f1, hf⟩ := fc_un (by decide) hf
  have f1 : (-1) * v_iv (n_v vs 29) + ((-2) * v_iv (n_v vs 5) + 0) ≤ (-4001) := f1
  obtain ⟨f2, hf⟩ := fc_un (by decide) hf
  have f2 : n_v vs 0 = n_v vs 2 := f2
  obtain ⟨f3, hf⟩ := fc_un (by decide) hf
  have f3 : v_iv (n_v vs 12) = v_iv (n_v vs 28) := f3
  obtain ⟨f4, hf⟩ := fc_un (by decide) hf
  have f4 : v_iv (n_v vs 12) ≠ v_iv (n_v vs 27) := f4
  obtain ⟨f5, hf⟩ := fc_un (by decide) hf
  have f5 : v_iv (n_v vs 12) ≠ v_iv (n_v vs 26) := f5
  obtain ⟨f6, hf⟩ := fc_un (by decide) hf
  have f6 : v_iv (n_v vs 12) ≠ v_iv (n_v vs 25) := f6
  obtain ⟨f7, hf⟩ := fc_un (by decide) hf
  have f7 : v_iv (n_v vs 12) ≠ v_iv (n_v vs 24) := f7
  obtain ⟨f8, hf⟩ := fc_un (by decide) hf
  have f8 : v_iv (n_v vs 12) ≠ v_iv (n_v vs 23) := f8
  obtain ⟨f9, hf⟩ := fc_un (by decide) hf
  have f9 : v_iv (n_v vs 12) ≠ v_iv (n_v vs 22) := f9
  obtain ⟨f10, hf⟩ := fc_un (by decide) hf
  have f10 : v_iv (n_v vs 12) ≠ v_iv (n_v vs 21) := f10
  obtain ⟨f11, hf⟩ := fc_un (by decide) hf
  have f11 : v_iv (n_v vs 12) ≠ v_iv (n_v vs 20) := f11
  obtain ⟨f12, hf⟩ := fc_un (by decide) hf
  have f12 : (w_fi ws (n_v vs 2) 157 ≤ v_iv (n_v vs 5)) ∧ (w_fi ws (n_v vs 2) 11 = v_iv (n_v vs 5)) := f12
  obtain ⟨f13, hf⟩ := fc_un (by decide) hf
  have f13 : (-1) * v_iv (n_v vs 19) + ((-2) * v_iv (n_v vs 5) + 0) ≤ (-4001) := f13
  obtain ⟨f14, hf⟩ := fc_un (by decide) hf
  have f14 : 0 ≤ v_iv (n_v vs 12) := f14
  obtain ⟨f15, hf⟩ := fc_un (by decide) hf
  have f15 : n_v vs 5 = w_fd ws (v_ad (n_v vs 2)) 11 := f15
  obtain ⟨f16, hf⟩ := fc_un (by decide) hf
  have f16 : ((v_iv (n_v vs 5) + 1) ≤ w_fi ws (n_v vs 2) 10) → (v_iv (n_v vs 12) = (w_ei ws (w_ar ws (n_v vs 2) 1) (v_iv (n_v vs 5)) % 256)) := f16
  obtain ⟨f17, hf⟩ := fc_un (by decide) hf
  have f17 : (w_fi ws (n_v vs 2) 10 ≤ v_iv (n_v vs 5)) → (v_iv (n_v vs 12) = (-1)) := f17
  obtain ⟨f18, hf⟩ := fc_un (by decide) hf
  have f18 : w_fi ws (n_v vs 2) 157 ≤ w_fi ws (n_v vs 2) 11 := f18
  obtain ⟨f19, hf⟩ := fc_un (by decide) hf
  have f19 : (-1) * v_iv (n_v vs 11) + ((-2) * w_fi ws (n_v vs 2) 11 + 0) ≤ (-4001) := f19
  obtain ⟨f20, hf⟩ := fc_un (by decide) hf
  have f20 : v_iv (n_v vs 9) ≠ v_iv (n_v vs 10) := f20
  obtain ⟨f21, hf⟩ := fc_un (by decide) hf
  have f21 : ((v_iv (n_v vs 5) + 1) ≤ w_fi ws (n_v vs 2) 10) → (v_iv (n_v vs 9) = (w_ei ws (w_ar ws (n_v vs 2) 1) (v_iv (n_v vs 5)) % 256)) := f21
  obtain ⟨f22, hf⟩ := fc_un (by decide) hf
  have f22 : (w_fi ws (n_v vs 2) 10 ≤ v_iv (n_v vs 5)) → (v_iv (n_v vs 9) = (-1)) := f22
  obtain ⟨f23, hf⟩ := fc_un (by decide) hf
  have f23 : v_iv (n_v vs 7) ≠ v_iv (n_v vs 8) := f23
  obtain ⟨f24, hf⟩ := fc_un (by decide) hf
  have f24 : ((v_iv (n_v vs 5) + 1) ≤ w_fi ws (n_v vs 2) 10) → (v_iv (n_v vs 7) = (w_ei ws (w_ar ws (n_v vs 2) 1) (v_iv (n_v vs 5)) % 256)) := f24
  obtain ⟨f25, hf⟩ := fc_un (by decide) hf
  have f25 : (w_fi ws (n_v vs 2) 10 ≤ v_iv (n_v vs 5)) → (v_iv (n_v vs 7) = (-1)) := f25
  obtain ⟨f26, hf⟩ := fc_un (by decide) hf
  have f26 : w_fi ws (n_v vs 2) 157 ≤ w_fi ws (n_v vs 2) 11 := f26
  obtain ⟨f27, hf⟩ := fc_un (by decide) hf
  have f27 : (-1) * v_iv (n_v vs 6) + ((-2) * w_fi ws (n_v vs 2) 11 + 0) ≤ (-4001) := f27
  have q2 : n_v vs 2 = n_v vs 0 := f2.symm
  rw [q2] at f0
  rw [q2] at f12
  rw [q2] at f15
  rw [q2] at f16
  rw [q2] at f17
  rw [q2] at f18
  rw [q2] at f19
  rw [q2] at f21
  rw [q2] at f22
  rw [q2] at f24
  rw [q2] at f25
  rw [q2] at f26
  rw [q2] at f27
  have cr_0_1 : ta (w_ar ws (n_v vs 0) 1) = some 151 := tv_rg (th_fd hD hth r0 (g := GG_150) rfl (k := 1) (t := (2, 0, 0, [151])) rfl rfl)
  have g15 : v_iv (n_v vs 5) = w_fi ws (n_v vs 0) 11 := congrArg v_iv f15
  have hK_0_1 : ∀ j : Int, 0 ≤ j → j < 2000 → (-128) ≤ w_ei ws (w_ar ws (n_v vs 0) 1) j ∧ w_ei ws (w_ar ws (n_v vs 0) 1) j ≤ 127 := fun j h0 h1 => th_el hD hth cr_0_1 (kd := 1) (n := 2000) (m := 2000) (lo := (-128)) (hi := 127) (rs := []) (L := []) rfl (by decide) (j := j.toNat) (by omega)
  have kz_0_10 : 0 ≤ w_fi ws (n_v vs 0) 10 ∧ w_fi ws (n_v vs 0) 10 ≤ 2000 := tv_rng (th_fd hD hth r0 (g := GG_150) rfl (k := 10) (t := (0, 0, 2000, [])) rfl rfl)
  have kz_0_11 : 0 ≤ w_fi ws (n_v vs 0) 11 ∧ w_fi ws (n_v vs 0) 11 ≤ 2000 := tv_rng (th_fd hD hth r0 (g := GG_150) rfl (k := 11) (t := (0, 0, 2000, [])) rfl rfl)
  have kz_0_157 : 0 ≤ w_fi ws (n_v vs 0) 157 ∧ w_fi ws (n_v vs 0) 157 ≤ 2010 := tv_rng (th_fd hD hth r0 (g := GG_150) rfl (k := 157) (t := (0, 0, 2010, [])) rfl rfl)
  obtain ⟨x, ex, hx⟩ := iv_ex (ta := ta) (lo := 0) (hi := 4001) (z := 0 + (1 * v_iv (n_v vs 6) + 0)) (by omega) (by omega) (by decide) (by decide)
  have ex2 : v_iv (Value.int x) = 0 + (1 * v_iv (n_v vs 6) + 0) := ex
  have ex3 : 0 ≤ v_iv (Value.int x) ∧ v_iv (Value.int x) ≤ 4001 := tv_rng hx
  have e_0 : n_v (vs ++ [Value.int x]) 0 = n_v vs 0 := n_v_old (by rw [hl]; decide)
  have e_2 : n_v (vs ++ [Value.int x]) 2 = n_v vs 2 := n_v_old (by rw [hl]; decide)
  have e_5 : n_v (vs ++ [Value.int x]) 5 = n_v vs 5 := n_v_old (by rw [hl]; decide)
  have e_31 : n_v (vs ++ [Value.int x]) 31 = Value.int x := n_v_new hl
  have nf0 : fc_1 (20, [2, 5], [50, 2, 0, 157, 11, 2, 7, 0, 3, 2, 0, 157, 1, 1, 1, 3, 2, 0, 11, 1, 1]) ws (vs ++ [Value.int x]) := by
    refine ⟨fun n hn => ?_, ?_⟩
    · have hn : n ∈ [2, 5] := hn
      rw [List.length_append, hl]
      simp only [List.mem_cons, List.not_mem_nil, or_false] at hn
      show n < 31 + 1; omega
    · show (w_fi ws (n_v (vs ++ [Value.int x]) 2) 157 ≤ v_iv (n_v (vs ++ [Value.int x]) 5)) ∧ (w_fi ws (n_v (vs ++ [Value.int x]) 2) 11 = v_iv (n_v (vs ++ [Value.int x]) 5))
      rw [e_2]
      rw [e_5]
      rw [q2]
      first | omega | grind
  have nf1 : fc_1 (20, [31, 5], [30, -4001, -1, 0, 0, -2, 0, 0]) ws (vs ++ [Value.int x]) := by
    refine ⟨fun n hn => ?_, ?_⟩
    · have hn : n ∈ [31, 5] := hn
      rw [List.length_append, hl]
      simp only [List.mem_cons, List.not_mem_nil, or_false] at hn
      show n < 31 + 1; omega
    · show (-1) * v_iv (n_v (vs ++ [Value.int x]) 31) + ((-2) * v_iv (n_v (vs ++ [Value.int x]) 5) + 0) ≤ (-4001)
      rw [e_5]
      rw [e_31]
      omega
  have nf2 : fc_1 (24, [0, 2], []) ws (vs ++ [Value.int x]) := by
    refine ⟨fun n hn => ?_, ?_⟩
    · have hn : n ∈ [0, 2] := hn
      rw [List.length_append, hl]
      simp only [List.mem_cons, List.not_mem_nil, or_false] at hn
      show n < 31 + 1; omega
    · show n_v (vs ++ [Value.int x]) 0 = n_v (vs ++ [Value.int x]) 2
      first | rfl | simp only [e_0, e_2, q2]
  obtain ⟨x0, e0, _, _⟩ := tv_int t6 rfl
  have e1 : v_iv (n_v vs 6) = x0.toInt := by rw [e0]; rfl
  have ho : sy_ofs (vs ++ [Value.int x]) (31, 6, 0, 0) := by
    refine ⟨x, x0, by rw [List.getElem?_append_right (by rw [hl]; decide), hl]; rfl, ?_, ?_, ?_⟩
    · rw [List.getElem?_append_left (by rw [hl]; decide)]; exact n_v_some (by rw [hl]; decide) e0
    · show x0.toInt + 0 ≤ x.toInt; omega
    · show x.toInt ≤ x0.toInt + 0; omega
  exact ⟨fun q hq => (by cases hq), [Value.int x], ag_one hx, List.forall_mem_cons.mpr ⟨⟨by decide, nf0⟩, List.forall_mem_cons.mpr ⟨⟨by decide, nf1⟩, List.forall_mem_cons.mpr ⟨⟨by decide, nf2⟩, (fun _ h => (by cases h))⟩⟩⟩, List.forall_mem_cons.mpr ⟨ho, (fun _ h => (by cases h))⟩⟩
def o_Mo_styleTokens_140 : or_T := (334, 30, [(0, (2, 0, 0, [150])), (2, (2, 0, 0, [150])), (5, (0, 0, 1999, [])), (6, (0, 0, 4001, [])), (7, (0, 0, 255, [])), (8, (0, 32, 32, [])), (9, (0, 0, 255, [])), (10, (0, 10, 10, [])), (11, (0, 0, 4001, [])), (12, (0, 61, 61, [])), (19, (0, 0, 4001, [])), (20, (0, 123, 123, [])), (21, (0, 125, 125, [])), (22, (0, 40, 40, [])), (23, (0, 41, 41, [])), (24, (0, 43, 43, [])), (25, (0, 45, 45, [])), (26, (0, 42, 42, [])), (27, (0, 47, 47, [])), (28, (0, 60, 60, [])), (29, (0, 61, 61, []))], [(7, [12, 29], [0]), (7, [12, 28], [1]), (7, [12, 27], [1]), (7, [12, 26], [1]), (7, [12, 25], [1]), (7, [12, 24], [1]), (7, [12, 23], [1]), (7, [12, 22], [1]), (7, [12, 21], [1]), (7, [12, 20], [1]), (20, [2, 5], [50, 2, 0, 157, 11, 2, 7, 0, 3, 2, 0, 157, 1, 1, 1, 3, 2, 0, 11, 1, 1]), (20, [19, 5], [30, -4001, -1, 0, 0, -2, 0, 0]), (24, [0, 2], []), (8, [12], [3]), (9, [5, 2], [11]), (20, [5, 2, 12], [50, 1, 1, 1010, 1001, 4, 11, 0, 6, 4, 2, 1, 0, 0, 1, 2, 1, 10, 1, 2, 1, 2, 9, 5, 3, 1, 1, 1, 0, 0, 256]), (20, [2, 5, 12], [50, 1, 0, 10, 4, 7, 0, 3, 2, 0, 10, 1, 1, 1, 2, 1, 2, 0, -1]), (20, [2], [50, 2, 0, 157, 11, 0, 3, 2, 0, 157, 2, 0, 11]), (20, [11, 2], [30, -4001, -1, 0, 0, -2, 1, 11]), (7, [9, 10], [1]), (20, [5, 2, 9], [50, 1, 1, 1010, 1001, 4, 11, 0, 6, 4, 2, 1, 0, 0, 1, 2, 1, 10, 1, 2, 1, 2, 9, 5, 3, 1, 1, 1, 0, 0, 256]), (20, [2, 5, 9], [50, 1, 0, 10, 4, 7, 0, 3, 2, 0, 10, 1, 1, 1, 2, 1, 2, 0, -1]), (7, [7, 8], [1]), (20, [5, 2, 7], [50, 1, 1, 1010, 1001, 4, 11, 0, 6, 4, 2, 1, 0, 0, 1, 2, 1, 10, 1, 2, 1, 2, 9, 5, 3, 1, 1, 1, 0, 0, 256]), (20, [2, 5, 7], [50, 1, 0, 10, 4, 7, 0, 3, 2, 0, 10, 1, 1, 1, 2, 1, 2, 0, -1]), (20, [2], [50, 2, 0, 157, 11, 0, 3, 2, 0, 157, 2, 0, 11]), (20, [6, 2], [30, -4001, -1, 0, 0, -2, 1, 11])], [], [(0, 0, 4001, [])], [(20, [2, 5], [50, 2, 0, 157, 11, 2, 7, 0, 3, 2, 0, 157, 1, 1, 1, 3, 2, 0, 11, 1, 1]), (20, [30, 5], [30, -4001, -1, 0, 0, -2, 0, 0]), (24, [0, 2], [])], [(30, 6, 0, 0)], [(19, 6, 0, 0), (11, 6, 0, 0)])
theorem oo_Mo_styleTokens_140 {kA : Nat → ClassId} : or_ok kA GG o_Mo_styleTokens_140 := by
  intro A ta ws vs hD hth hl hk hds hf
  have hl : vs.length = 30 := hl
  have hk : ∀ q ∈ ([(0, (2, 0, 0, [150])), (2, (2, 0, 0, [150])), (5, (0, 0, 1999, [])), (6, (0, 0, 4001, [])), (7, (0, 0, 255, [])), (8, (0, 32, 32, [])), (9, (0, 0, 255, [])), (10, (0, 10, 10, [])), (11, (0, 0, 4001, [])), (12, (0, 61, 61, [])), (19, (0, 0, 4001, [])), (20, (0, 123, 123, [])), (21, (0, 125, 125, [])), (22, (0, 40, 40, [])), (23, (0, 41, 41, [])), (24, (0, 43, 43, [])), (25, (0, 45, 45, [])), (26, (0, 42, 42, [])), (27, (0, 47, 47, [])), (28, (0, 60, 60, [])), (29, (0, 61, 61, []))] : List (Nat × tv_T)), tv_ok ta q.2 (n_v vs q.1) := hk
  obtain ⟨t0, hk⟩ := List.forall_mem_cons.mp hk
  have t0 : tv_ok ta (2, 0, 0, [150]) (n_v vs 0) := t0
  have r0 : ta (v_ad (n_v vs 0)) = some 150 := tv_rg t0
  obtain ⟨t2, hk⟩ := List.forall_mem_cons.mp hk
  have t2 : tv_ok ta (2, 0, 0, [150]) (n_v vs 2) := t2
  have r2 : ta (v_ad (n_v vs 2)) = some 150 := tv_rg t2
  obtain ⟨t5, hk⟩ := List.forall_mem_cons.mp hk
  have t5 : tv_ok ta (0, 0, 1999, []) (n_v vs 5) := t5
  have k5 : 0 ≤ v_iv (n_v vs 5) ∧ v_iv (n_v vs 5) ≤ 1999 := tv_rng t5
  obtain ⟨t6, hk⟩ := List.forall_mem_cons.mp hk
  have t6 : tv_ok ta (0, 0, 4001, []) (n_v vs 6) := t6
  have k6 : 0 ≤ v_iv (n_v vs 6) ∧ v_iv (n_v vs 6) ≤ 4001 := tv_rng t6
  obtain ⟨t7, hk⟩ := List.forall_mem_cons.mp hk
  have t7 : tv_ok ta (0, 0, 255, []) (n_v vs 7) := t7
  have k7 : 0 ≤ v_iv (n_v vs 7) ∧ v_iv (n_v vs 7) ≤ 255 := tv_rng t7
  obtain ⟨t8, hk⟩ := List.forall_mem_cons.mp hk
  have t8 : tv_ok ta (0, 32, 32, []) (n_v vs 8) := t8
  have k8 : 32 ≤ v_iv (n_v vs 8) ∧ v_iv (n_v vs 8) ≤ 32 := tv_rng t8
  obtain ⟨t9, hk⟩ := List.forall_mem_cons.mp hk
  have t9 : tv_ok ta (0, 0, 255, []) (n_v vs 9) := t9
  have k9 : 0 ≤ v_iv (n_v vs 9) ∧ v_iv (n_v vs 9) ≤ 255 := tv_rng t9
  obtain ⟨t10, hk⟩ := List.forall_mem_cons.mp hk
  have t10 : tv_ok ta (0, 10, 10, []) (n_v vs 10) := t10
  have k10 : 10 ≤ v_iv (n_v vs 10) ∧ v_iv (n_v vs 10) ≤ 10 := tv_rng t10
  obtain ⟨t11, hk⟩ := List.forall_mem_cons.mp hk
  have t11 : tv_ok ta (0, 0, 4001, []) (n_v vs 11) := t11
  have k11 : 0 ≤ v_iv (n_v vs 11) ∧ v_iv (n_v vs 11) ≤ 4001 := tv_rng t11
  obtain ⟨t12, hk⟩ := List.forall_mem_cons.mp hk
  have t12 : tv_ok ta (0, 61, 61, []) (n_v vs 12) := t12
  have k12 : 61 ≤ v_iv (n_v vs 12) ∧ v_iv (n_v vs 12) ≤ 61 := tv_rng t12
  obtain ⟨t19, hk⟩ := List.forall_mem_cons.mp hk
  have t19 : tv_ok ta (0, 0, 4001, []) (n_v vs 19) := t19
  have k19 : 0 ≤ v_iv (n_v vs 19) ∧ v_iv (n_v vs 19) ≤ 4001 := tv_rng t19
  obtain ⟨t20, hk⟩ := List.forall_mem_cons.mp hk
  have t20 : tv_ok ta (0, 123, 123, []) (n_v vs 20) := t20
  have k20 : 123 ≤ v_iv (n_v vs 20) ∧ v_iv (n_v vs 20) ≤ 123 := tv_rng t20
  obtain ⟨t21, hk⟩ := List.forall_mem_cons.mp hk
  have t21 : tv_ok ta (0, 125, 125, []) (n_v vs 21) := t21
  have k21 : 125 ≤ v_iv (n_v vs 21) ∧ v_iv (n_v vs 21) ≤ 125 := tv_rng t21
  obtain ⟨t22, hk⟩ := List.forall_mem_cons.mp hk
  have t22 : tv_ok ta (0, 40, 40, []) (n_v vs 22) := t22
  have k22 : 40 ≤ v_iv (n_v vs 22) ∧ v_iv (n_v vs 22) ≤ 40 := tv_rng t22
  obtain ⟨t23, hk⟩ := List.forall_mem_cons.mp hk
  have t23 : tv_ok ta (0, 41, 41, []) (n_v vs 23) := t23
  have k23 : 41 ≤ v_iv (n_v vs 23) ∧ v_iv (n_v vs 23) ≤ 41 := tv_rng t23
  obtain ⟨t24, hk⟩ := List.forall_mem_cons.mp hk
  have t24 : tv_ok ta (0, 43, 43, []) (n_v vs 24) := t24
  have k24 : 43 ≤ v_iv (n_v vs 24) ∧ v_iv (n_v vs 24) ≤ 43 := tv_rng t24
  obtain ⟨t25, hk⟩ := List.forall_mem_cons.mp hk
  have t25 : tv_ok ta (0, 45, 45, []) (n_v vs 25) := t25
  have k25 : 45 ≤ v_iv (n_v vs 25) ∧ v_iv (n_v vs 25) ≤ 45 := tv_rng t25
  obtain ⟨t26, hk⟩ := List.forall_mem_cons.mp hk
  have t26 : tv_ok ta (0, 42, 42, []) (n_v vs 26) := t26
  have k26 : 42 ≤ v_iv (n_v vs 26) ∧ v_iv (n_v vs 26) ≤ 42 := tv_rng t26
  obtain ⟨t27, hk⟩ := List.forall_mem_cons.mp hk
  have t27 : tv_ok ta (0, 47, 47, []) (n_v vs 27) := t27
  have k27 : 47 ≤ v_iv (n_v vs 27) ∧ v_iv (n_v vs 27) ≤ 47 := tv_rng t27
  obtain ⟨t28, hk⟩ := List.forall_mem_cons.mp hk
  have t28 : tv_ok ta (0, 60, 60, []) (n_v vs 28) := t28
  have k28 : 60 ≤ v_iv (n_v vs 28) ∧ v_iv (n_v vs 28) ≤ 60 := tv_rng t28
  obtain ⟨t29, hk⟩ := List.forall_mem_cons.mp hk
  have t29 : tv_ok ta (0, 61, 61, []) (n_v vs 29) := t29
  have k29 : 61 ≤ v_iv (n_v vs 29) ∧ v_iv (n_v vs 29) ≤ 61 := tv_rng t29
  have hds : ∀ q ∈ ([(19, 6, 0, 0), (11, 6, 0, 0)] : List of_T), n_iv vs q.2.1 + q.2.2.1 ≤ n_iv vs q.1 ∧ n_iv vs q.1 ≤ n_iv vs q.2.1 + q.2.2.2 := hds
  obtain ⟨d0, hds⟩ := List.forall_mem_cons.mp hds
  have d0 : v_iv (n_v vs 6) + 0 ≤ v_iv (n_v vs 19) ∧ v_iv (n_v vs 19) ≤ v_iv (n_v vs 6) + 0 := d0
  obtain ⟨d1, hds⟩ := List.forall_mem_cons.mp hds
  have d1 : v_iv (n_v vs 6) + 0 ≤ v_iv (n_v vs 11) ∧ v_iv (n_v vs 11) ≤ v_iv (n_v vs 6) + 0 := d1
  have hf : fc_ok [(7, [12, 29], [0]), (7, [12, 28], [1]), (7, [12, 27], [1]), (7, [12, 26], [1]), (7, [12, 25], [1]), (7, [12, 24], [1]), (7, [12, 23], [1]), (7, [12, 22], [1]), (7, [12, 21], [1]), (7, [12, 20], [1]), (20, [2, 5], [50, 2, 0, 157, 11, 2, 7, 0, 3, 2, 0, 157, 1, 1, 1, 3, 2, 0, 11, 1, 1]), (20, [19, 5], [30, -4001, -1, 0, 0, -2, 0, 0]), (24, [0, 2], []), (8, [12], [3]), (9, [5, 2], [11]), (20, [5, 2, 12], [50, 1, 1, 1010, 1001, 4, 11, 0, 6, 4, 2, 1, 0, 0, 1, 2, 1, 10, 1, 2, 1, 2, 9, 5, 3, 1, 1, 1, 0, 0, 256]), (20, [2, 5, 12], [50, 1, 0, 10, 4, 7, 0, 3, 2, 0, 10, 1, 1, 1, 2, 1, 2, 0, -1]), (20, [2], [50, 2, 0, 157, 11, 0, 3, 2, 0, 157, 2, 0, 11]), (20, [11, 2], [30, -4001, -1, 0, 0, -2, 1, 11]), (7, [9, 10], [1]), (20, [5, 2, 9], [50, 1, 1, 1010, 1001, 4, 11, 0, 6, 4, 2, 1, 0, 0, 1, 2, 1, 10, 1, 2, 1, 2, 9, 5, 3, 1, 1, 1, 0, 0, 256]), (20, [2, 5, 9], [50, 1, 0, 10, 4, 7, 0, 3, 2, 0, 10, 1, 1, 1, 2, 1, 2, 0, -1]), (7, [7, 8], [1]), (20, [5, 2, 7], [50, 1, 1, 1010, 1001, 4, 11, 0, 6, 4, 2, 1, 0, 0, 1, 2, 1, 10, 1, 2, 1, 2, 9, 5, 3, 1, 1, 1, 0, 0, 256]), (20, [2, 5, 7], [50, 1, 0, 10, 4, 7, 0, 3, 2, 0, 10, 1, 1, 1, 2, 1, 2, 0, -1]), (20, [2], [50, 2, 0, 157, 11, 0, 3, 2, 0, 157, 2, 0, 11]), (20, [6, 2], [30, -4001, -1, 0, 0, -2, 1, 11])] ta ws vs := hf
  obtain ⟨f0, hf⟩ := fc_un (by decide) hf
  have f0 : v_iv (n_v vs 12) = v_iv (n_v vs 29) := f0
  obtain ⟨f1, hf⟩ := fc_un (by decide) hf
  have f1 : v_iv (n_v vs 12) ≠ v_iv (n_v vs 28) := f1
  obtain ⟨f2, hf⟩ := fc_un (by decide) hf
  have f2 : v_iv (n_v vs 12) ≠ v_iv (n_v vs 27) := f2
  obtain ⟨f3, hf⟩ := fc_un (by decide) hf
  have f3 : v_iv (n_v vs 12) ≠ v_iv (n_v vs 26) := f3
  obtain ⟨f4, hf⟩ := fc_un (by decide) hf
  have f4 : v_iv (n_v vs 12) ≠ v_iv (n_v vs 25) := f4
  obtain ⟨f5, hf⟩ := fc_un (by decide) hf
  have f5 : v_iv (n_v vs 12) ≠ v_iv (n_v vs 24) := f5
  obtain ⟨f6, hf⟩ := fc_un (by decide) hf
  have f6 : v_iv (n_v vs 12) ≠ v_iv (n_v vs 23) := f6
  obtain ⟨f7, hf⟩ := fc_un (by decide) hf
  have f7 : v_iv (n_v vs 12) ≠ v_iv (n_v vs 22) := f7
  obtain ⟨f8, hf⟩ := fc_un (by decide) hf
  have f8 : v_iv (n_v vs 12) ≠ v_iv (n_v vs 21) := f8
  obtain ⟨f9, hf⟩ := fc_un (by decide) hf
  have f9 : v_iv (n_v vs 12) ≠ v_iv (n_v vs 20) := f9
  obtain ⟨f10, hf⟩ := fc_un (by decide) hf
  have f10 : (w_fi ws (n_v vs 2) 157 ≤ v_iv (n_v vs 5)) ∧ (w_fi ws (n_v vs 2) 11 = v_iv (n_v vs 5)) := f10
  obtain ⟨f11, hf⟩ := fc_un (by decide) hf
  have f11 : (-1) * v_iv (n_v vs 19) + ((-2) * v_iv (n_v vs 5) + 0) ≤ (-4001) := f11
  obtain ⟨f12, hf⟩ := fc_un (by decide) hf
  have f12 : n_v vs 0 = n_v vs 2 := f12
  obtain ⟨f13, hf⟩ := fc_un (by decide) hf
  have f13 : 0 ≤ v_iv (n_v vs 12) := f13
  obtain ⟨f14, hf⟩ := fc_un (by decide) hf
  have f14 : n_v vs 5 = w_fd ws (v_ad (n_v vs 2)) 11 := f14
  obtain ⟨f15, hf⟩ := fc_un (by decide) hf
  have f15 : ((v_iv (n_v vs 5) + 1) ≤ w_fi ws (n_v vs 2) 10) → (v_iv (n_v vs 12) = (w_ei ws (w_ar ws (n_v vs 2) 1) (v_iv (n_v vs 5)) % 256)) := f15
  obtain ⟨f16, hf⟩ := fc_un (by decide) hf
  have f16 : (w_fi ws (n_v vs 2) 10 ≤ v_iv (n_v vs 5)) → (v_iv (n_v vs 12) = (-1)) := f16
  obtain ⟨f17, hf⟩ := fc_un (by decide) hf
  have f17 : w_fi ws (n_v vs 2) 157 ≤ w_fi ws (n_v vs 2) 11 := f17
  obtain ⟨f18, hf⟩ := fc_un (by decide) hf
  have f18 : (-1) * v_iv (n_v vs 11) + ((-2) * w_fi ws (n_v vs 2) 11 + 0) ≤ (-4001) := f18
  obtain ⟨f19, hf⟩ := fc_un (by decide) hf
  have f19 : v_iv (n_v vs 9) ≠ v_iv (n_v vs 10) := f19
  obtain ⟨f20, hf⟩ := fc_un (by decide) hf
  have f20 : ((v_iv (n_v vs 5) + 1) ≤ w_fi ws (n_v vs 2) 10) → (v_iv (n_v vs 9) = (w_ei ws (w_ar ws (n_v vs 2) 1) (v_iv (n_v vs 5)) % 256)) := f20
  obtain ⟨f21, hf⟩ := fc_un (by decide) hf
  have f21 : (w_fi ws (n_v vs 2) 10 ≤ v_iv (n_v vs 5)) → (v_iv (n_v vs 9) = (-1)) := f21
  obtain ⟨f22, hf⟩ := fc_un (by decide) hf
  have f22 : v_iv (n_v vs 7) ≠ v_iv (n_v vs 8) := f22
  obtain ⟨f23, hf⟩ := fc_un (by decide) hf
  have f23 : ((v_iv (n_v vs 5) + 1) ≤ w_fi ws (n_v vs 2) 10) → (v_iv (n_v vs 7) = (w_ei ws (w_ar ws (n_v vs 2) 1) (v_iv (n_v vs 5)) % 256)) := f23
  obtain ⟨f24, hf⟩ := fc_un (by decide) hf
  have f24 : (w_fi ws (n_v vs 2) 10 ≤ v_iv (n_v vs 5)) → (v_iv (n_v vs 7) = (-1)) := f24
  obtain ⟨f25, hf⟩ := fc_un (by decide) hf
  have f25 : w_fi ws (n_v vs 2) 157 ≤ w_fi ws (n_v vs 2) 11 := f25
  obtain ⟨f26, hf⟩ := fc_un (by decide) hf
  have f26 : (-1) * v_iv (n_v vs 6) + ((-2) * w_fi ws (n_v vs 2) 11 + 0) ≤ (-4001) := f26
  have q2 : n_v vs 2 = n_v vs 0 := f12.symm
  rw [q2] at f10
  rw [q2] at f14
  rw [q2] at f15
  rw [q2] at f16
  rw [q2] at f17
  rw [q2] at f18
  rw [q2] at f20
  rw [q2] at f21
  rw [q2] at f23
  rw [q2] at f24
  rw [q2] at f25
  rw [q2] at f26
  have cr_0_1 : ta (w_ar ws (n_v vs 0) 1) = some 151 := tv_rg (th_fd hD hth r0 (g := GG_150) rfl (k := 1) (t := (2, 0, 0, [151])) rfl rfl)
  have g14 : v_iv (n_v vs 5) = w_fi ws (n_v vs 0) 11 := congrArg v_iv f14
  have hK_0_1 : ∀ j : Int, 0 ≤ j → j < 2000 → (-128) ≤ w_ei ws (w_ar ws (n_v vs 0) 1) j ∧ w_ei ws (w_ar ws (n_v vs 0) 1) j ≤ 127 := fun j h0 h1 => th_el hD hth cr_0_1 (kd := 1) (n := 2000) (m := 2000) (lo := (-128)) (hi := 127) (rs := []) (L := []) rfl (by decide) (j := j.toNat) (by omega)
  have kz_0_10 : 0 ≤ w_fi ws (n_v vs 0) 10 ∧ w_fi ws (n_v vs 0) 10 ≤ 2000 := tv_rng (th_fd hD hth r0 (g := GG_150) rfl (k := 10) (t := (0, 0, 2000, [])) rfl rfl)
  have kz_0_11 : 0 ≤ w_fi ws (n_v vs 0) 11 ∧ w_fi ws (n_v vs 0) 11 ≤ 2000 := tv_rng (th_fd hD hth r0 (g := GG_150) rfl (k := 11) (t := (0, 0, 2000, [])) rfl rfl)
  have kz_0_157 : 0 ≤ w_fi ws (n_v vs 0) 157 ∧ w_fi ws (n_v vs 0) 157 ≤ 2010 := tv_rng (th_fd hD hth r0 (g := GG_150) rfl (k := 157) (t := (0, 0, 2010, [])) rfl rfl)
  obtain ⟨x, ex, hx⟩ := iv_ex (ta := ta) (lo := 0) (hi := 4001) (z := 0 + (1 * v_iv (n_v vs 6) + 0)) (by omega) (by omega) (by decide) (by decide)
  have ex2 : v_iv (Value.int x) = 0 + (1 * v_iv (n_v vs 6) + 0) := ex
  have ex3 : 0 ≤ v_iv (Value.int x) ∧ v_iv (Value.int x) ≤ 4001 := tv_rng hx
  have e_0 : n_v (vs ++ [Value.int x]) 0 = n_v vs 0 := n_v_old (by rw [hl]; decide)
  have e_2 : n_v (vs ++ [Value.int x]) 2 = n_v vs 2 := n_v_old (by rw [hl]; decide)
  have e_5 : n_v (vs ++ [Value.int x]) 5 = n_v vs 5 := n_v_old (by rw [hl]; decide)
  have e_30 : n_v (vs ++ [Value.int x]) 30 = Value.int x := n_v_new hl
  have nf0 : fc_1 (20, [2, 5], [50, 2, 0, 157, 11, 2, 7, 0, 3, 2, 0, 157, 1, 1, 1, 3, 2, 0, 11, 1, 1]) ws (vs ++ [Value.int x]) := by
    refine ⟨fun n hn => ?_, ?_⟩
    · have hn : n ∈ [2, 5] := hn
      rw [List.length_append, hl]
      simp only [List.mem_cons, List.not_mem_nil, or_false] at hn
      show n < 30 + 1; omega
    · show (w_fi ws (n_v (vs ++ [Value.int x]) 2) 157 ≤ v_iv (n_v (vs ++ [Value.int x]) 5)) ∧ (w_fi ws (n_v (vs ++ [Value.int x]) 2) 11 = v_iv (n_v (vs ++ [Value.int x]) 5))
      rw [e_2]
      rw [e_5]
      rw [q2]
      first | omega | grind
  have nf1 : fc_1 (20, [30, 5], [30, -4001, -1, 0, 0, -2, 0, 0]) ws (vs ++ [Value.int x]) := by
    refine ⟨fun n hn => ?_, ?_⟩
    · have hn : n ∈ [30, 5] := hn
      rw [List.length_append, hl]
      simp only [List.mem_cons, List.not_mem_nil, or_false] at hn
      show n < 30 + 1; omega
    · show (-1) * v_iv (n_v (vs ++ [Value.int x]) 30) + ((-2) * v_iv (n_v (vs ++ [Value.int x]) 5) + 0) ≤ (-4001)
      rw [e_5]
      rw [e_30]
      omega
  have nf2 : fc_1 (24, [0, 2], []) ws (vs ++ [Value.int x]) := by
    refine ⟨fun n hn => ?_, ?_⟩
    · have hn : n ∈ [0, 2] := hn
      rw [List.length_append, hl]
      simp only [List.mem_cons, List.not_mem_nil, or_false] at hn
      show n < 30 + 1; omega
    · show n_v (vs ++ [Value.int x]) 0 = n_v (vs ++ [Value.int x]) 2
      first | rfl | simp only [e_0, e_2, q2]
  obtain ⟨x0, e0, _, _⟩ := tv_int t6 rfl
  have e1 : v_iv (n_v vs 6) = x0.toInt := by rw [e0]; rfl
  have ho : sy_ofs (vs ++ [Value.int x]) (30, 6, 0, 0) := by
    refine ⟨x, x0, by rw [List.getElem?_append_right (by rw [hl]; decide), hl]; rfl, ?_, ?_, ?_⟩
    · rw [List.getElem?_append_left (by rw [hl]; decide)]; exact n_v_some (by rw [hl]; decide) e0
    · show x0.toInt + 0 ≤ x.toInt; omega
    · show x.toInt ≤ x0.toInt + 0; omega
  exact ⟨fun q hq => (by cases hq), [Value.int x], ag_one hx, List.forall_mem_cons.mpr ⟨⟨by decide, nf0⟩, List.forall_mem_cons.mpr ⟨⟨by decide, nf1⟩, List.forall_mem_cons.mpr ⟨⟨by decide, nf2⟩, (fun _ h => (by cases h))⟩⟩⟩, List.forall_mem_cons.mpr ⟨ho, (fun _ h => (by cases h))⟩⟩
def o_Mo_styleTokens_141 : or_T := (339, 32, [(0, (2, 0, 0, [150])), (2, (2, 0, 0, [150])), (5, (0, 0, 1999, [])), (6, (0, 0, 4001, [])), (7, (0, 0, 255, [])), (8, (0, 32, 32, [])), (9, (0, 0, 255, [])), (10, (0, 10, 10, [])), (11, (0, 0, 4001, [])), (12, (0, 61, 61, [])), (19, (0, 0, 4001, [])), (20, (0, 123, 123, [])), (21, (0, 125, 125, [])), (22, (0, 40, 40, [])), (23, (0, 41, 41, [])), (24, (0, 43, 43, [])), (25, (0, 45, 45, [])), (26, (0, 42, 42, [])), (27, (0, 47, 47, [])), (28, (0, 60, 60, [])), (29, (0, 61, 61, [])), (30, (0, 0, 4001, []))], [(20, [2, 5], [50, 2, 0, 157, 11, 2, 7, 0, 3, 2, 0, 157, 1, 1, 1, 3, 2, 0, 11, 1, 1]), (20, [30, 5], [30, -4001, -1, 0, 0, -2, 0, 0]), (24, [0, 2], []), (7, [12, 29], [0]), (7, [12, 28], [1]), (7, [12, 27], [1]), (7, [12, 26], [1]), (7, [12, 25], [1]), (7, [12, 24], [1]), (7, [12, 23], [1]), (7, [12, 22], [1]), (7, [12, 21], [1]), (7, [12, 20], [1]), (20, [2, 5], [50, 2, 0, 157, 11, 2, 7, 0, 3, 2, 0, 157, 1, 1, 1, 3, 2, 0, 11, 1, 1]), (20, [19, 5], [30, -4001, -1, 0, 0, -2, 0, 0]), (8, [12], [3]), (9, [5, 2], [11]), (20, [5, 2, 12], [50, 1, 1, 1010, 1001, 4, 11, 0, 6, 4, 2, 1, 0, 0, 1, 2, 1, 10, 1, 2, 1, 2, 9, 5, 3, 1, 1, 1, 0, 0, 256]), (20, [2, 5, 12], [50, 1, 0, 10, 4, 7, 0, 3, 2, 0, 10, 1, 1, 1, 2, 1, 2, 0, -1]), (20, [2], [50, 2, 0, 157, 11, 0, 3, 2, 0, 157, 2, 0, 11]), (20, [11, 2], [30, -4001, -1, 0, 0, -2, 1, 11]), (7, [9, 10], [1]), (20, [5, 2, 9], [50, 1, 1, 1010, 1001, 4, 11, 0, 6, 4, 2, 1, 0, 0, 1, 2, 1, 10, 1, 2, 1, 2, 9, 5, 3, 1, 1, 1, 0, 0, 256]), (20, [2, 5, 9], [50, 1, 0, 10, 4, 7, 0, 3, 2, 0, 10, 1, 1, 1, 2, 1, 2, 0, -1]), (7, [7, 8], [1]), (20, [5, 2, 7], [50, 1, 1, 1010, 1001, 4, 11, 0, 6, 4, 2, 1, 0, 0, 1, 2, 1, 10, 1, 2, 1, 2, 9, 5, 3, 1, 1, 1, 0, 0, 256]), (20, [2, 5, 7], [50, 1, 0, 10, 4, 7, 0, 3, 2, 0, 10, 1, 1, 1, 2, 1, 2, 0, -1]), (20, [2], [50, 2, 0, 157, 11, 0, 3, 2, 0, 157, 2, 0, 11]), (20, [6, 2], [30, -4001, -1, 0, 0, -2, 1, 11])], [], [(0, 0, 4001, [])], [(20, [2, 5], [50, 2, 0, 157, 11, 2, 7, 0, 3, 2, 0, 157, 1, 1, 1, 3, 2, 0, 11, 1, 1]), (20, [32, 5], [30, -4001, -1, 0, 0, -2, 0, 0]), (24, [0, 2], [])], [(32, 6, 0, 0)], [(30, 6, 0, 0), (19, 6, 0, 0), (11, 6, 0, 0)])
theorem oo_Mo_styleTokens_141 {kA : Nat → ClassId} : or_ok kA GG o_Mo_styleTokens_141 := by
  intro A ta ws vs hD hth hl hk hds hf
  have hl : vs.length = 32 := hl
  have hk : ∀ q ∈ ([(0, (2, 0, 0, [150])), (2, (2, 0, 0, [150])), (5, (0, 0, 1999, [])), (6, (0, 0, 4001, [])), (7, (0, 0, 255, [])), (8, (0, 32, 32, [])), (9, (0, 0, 255, [])), (10, (0, 10, 10, [])), (11, (0, 0, 4001, [])), (12, (0, 61, 61, [])), (19, (0, 0, 4001, [])), (20, (0, 123, 123, [])), (21, (0, 125, 125, [])), (22, (0, 40, 40, [])), (23, (0, 41, 41, [])), (24, (0, 43, 43, [])), (25, (0, 45, 45, [])), (26, (0, 42, 42, [])), (27, (0, 47, 47, [])), (28, (0, 60, 60, [])), (29, (0, 61, 61, [])), (30, (0, 0, 4001, []))] : List (Nat × tv_T)), tv_ok ta q.2 (n_v vs q.1) := hk
  obtain ⟨t0, hk⟩ := List.forall_mem_cons.mp hk
  have t0 : tv_ok ta (2, 0, 0, [150]) (n_v vs 0) := t0
  have r0 : ta (v_ad (n_v vs 0)) = some 150 := tv_rg t0
  obtain ⟨t2, hk⟩ := List.forall_mem_cons.mp hk
  have t2 : tv_ok ta (2, 0, 0, [150]) (n_v vs 2) := t2
  have r2 : ta (v_ad (n_v vs 2)) = some 150 := tv_rg t2
  obtain ⟨t5, hk⟩ := List.forall_mem_cons.mp hk
  have t5 : tv_ok ta (0, 0, 1999, []) (n_v vs 5) := t5
  have k5 : 0 ≤ v_iv (n_v vs 5) ∧ v_iv (n_v vs 5) ≤ 1999 := tv_rng t5
  obtain ⟨t6, hk⟩ := List.forall_mem_cons.mp hk
  have t6 : tv_ok ta (0, 0, 4001, []) (n_v vs 6) := t6
  have k6 : 0 ≤ v_iv (n_v vs 6) ∧ v_iv (n_v vs 6) ≤ 4001 := tv_rng t6
  obtain ⟨t7, hk⟩ := List.forall_mem_cons.mp hk
  have t7 : tv_ok ta (0, 0, 255, []) (n_v vs 7) := t7
  have k7 : 0 ≤ v_iv (n_v vs 7) ∧ v_iv (n_v vs 7) ≤ 255 := tv_rng t7
  obtain ⟨t8, hk⟩ := List.forall_mem_cons.mp hk
  have t8 : tv_ok ta (0, 32, 32, []) (n_v vs 8) := t8
  have k8 : 32 ≤ v_iv (n_v vs 8) ∧ v_iv (n_v vs 8) ≤ 32 := tv_rng t8
  obtain ⟨t9, hk⟩ := List.forall_mem_cons.mp hk
  have t9 : tv_ok ta (0, 0, 255, []) (n_v vs 9) := t9
  have k9 : 0 ≤ v_iv (n_v vs 9) ∧ v_iv (n_v vs 9) ≤ 255 := tv_rng t9
  obtain ⟨t10, hk⟩ := List.forall_mem_cons.mp hk
  have t10 : tv_ok ta (0, 10, 10, []) (n_v vs 10) := t10
  have k10 : 10 ≤ v_iv (n_v vs 10) ∧ v_iv (n_v vs 10) ≤ 10 := tv_rng t10
  obtain ⟨t11, hk⟩ := List.forall_mem_cons.mp hk
  have t11 : tv_ok ta (0, 0, 4001, []) (n_v vs 11) := t11
  have k11 : 0 ≤ v_iv (n_v vs 11) ∧ v_iv (n_v vs 11) ≤ 4001 := tv_rng t11
  obtain ⟨t12, hk⟩ := List.forall_mem_cons.mp hk
  have t12 : tv_ok ta (0, 61, 61, []) (n_v vs 12) := t12
  have k12 : 61 ≤ v_iv (n_v vs 12) ∧ v_iv (n_v vs 12) ≤ 61 := tv_rng t12
  obtain ⟨t19, hk⟩ := List.forall_mem_cons.mp hk
  have t19 : tv_ok ta (0, 0, 4001, []) (n_v vs 19) := t19
  have k19 : 0 ≤ v_iv (n_v vs 19) ∧ v_iv (n_v vs 19) ≤ 4001 := tv_rng t19
  obtain ⟨t20, hk⟩ := List.forall_mem_cons.mp hk
  have t20 : tv_ok ta (0, 123, 123, []) (n_v vs 20) := t20
  have k20 : 123 ≤ v_iv (n_v vs 20) ∧ v_iv (n_v vs 20) ≤ 123 := tv_rng t20
  obtain ⟨t21, hk⟩ := List.forall_mem_cons.mp hk
  have t21 : tv_ok ta (0, 125, 125, []) (n_v vs 21) := t21
  have k21 : 125 ≤ v_iv (n_v vs 21) ∧ v_iv (n_v vs 21) ≤ 125 := tv_rng t21
  obtain ⟨t22, hk⟩ := List.forall_mem_cons.mp hk
  have t22 : tv_ok ta (0, 40, 40, []) (n_v vs 22) := t22
  have k22 : 40 ≤ v_iv (n_v vs 22) ∧ v_iv (n_v vs 22) ≤ 40 := tv_rng t22
  obtain ⟨t23, hk⟩ := List.forall_mem_cons.mp hk
  have t23 : tv_ok ta (0, 41, 41, []) (n_v vs 23) := t23
  have k23 : 41 ≤ v_iv (n_v vs 23) ∧ v_iv (n_v vs 23) ≤ 41 := tv_rng t23
  obtain ⟨t24, hk⟩ := List.forall_mem_cons.mp hk
  have t24 : tv_ok ta (0, 43, 43, []) (n_v vs 24) := t24
  have k24 : 43 ≤ v_iv (n_v vs 24) ∧ v_iv (n_v vs 24) ≤ 43 := tv_rng t24
  obtain ⟨t25, hk⟩ := List.forall_mem_cons.mp hk
  have t25 : tv_ok ta (0, 45, 45, []) (n_v vs 25) := t25
  have k25 : 45 ≤ v_iv (n_v vs 25) ∧ v_iv (n_v vs 25) ≤ 45 := tv_rng t25
  obtain ⟨t26, hk⟩ := List.forall_mem_cons.mp hk
  have t26 : tv_ok ta (0, 42, 42, []) (n_v vs 26) := t26
  have k26 : 42 ≤ v_iv (n_v vs 26) ∧ v_iv (n_v vs 26) ≤ 42 := tv_rng t26
  obtain ⟨t27, hk⟩ := List.forall_mem_cons.mp hk
  have t27 : tv_ok ta (0, 47, 47, []) (n_v vs 27) := t27
  have k27 : 47 ≤ v_iv (n_v vs 27) ∧ v_iv (n_v vs 27) ≤ 47 := tv_rng t27
  obtain ⟨t28, hk⟩ := List.forall_mem_cons.mp hk
  have t28 : tv_ok ta (0, 60, 60, []) (n_v vs 28) := t28
  have k28 : 60 ≤ v_iv (n_v vs 28) ∧ v_iv (n_v vs 28) ≤ 60 := tv_rng t28
  obtain ⟨t29, hk⟩ := List.forall_mem_cons.mp hk
  have t29 : tv_ok ta (0, 61, 61, []) (n_v vs 29) := t29
  have k29 : 61 ≤ v_iv (n_v vs 29) ∧ v_iv (n_v vs 29) ≤ 61 := tv_rng t29
  obtain ⟨t30, hk⟩ := List.forall_mem_cons.mp hk
  have t30 : tv_ok ta (0, 0, 4001, []) (n_v vs 30) := t30
  have k30 : 0 ≤ v_iv (n_v vs 30) ∧ v_iv (n_v vs 30) ≤ 4001 := tv_rng t30
  have hds : ∀ q ∈ ([(30, 6, 0, 0), (19, 6, 0, 0), (11, 6, 0, 0)] : List of_T), n_iv vs q.2.1 + q.2.2.1 ≤ n_iv vs q.1 ∧ n_iv vs q.1 ≤ n_iv vs q.2.1 + q.2.2.2 := hds
  obtain ⟨d0, hds⟩ := List.forall_mem_cons.mp hds
  have d0 : v_iv (n_v vs 6) + 0 ≤ v_iv (n_v vs 30) ∧ v_iv (n_v vs 30) ≤ v_iv (n_v vs 6) + 0 := d0
  obtain ⟨d1, hds⟩ := List.forall_mem_cons.mp hds
  have d1 : v_iv (n_v vs 6) + 0 ≤ v_iv (n_v vs 19) ∧ v_iv (n_v vs 19) ≤ v_iv (n_v vs 6) + 0 := d1
  obtain ⟨d2, hds⟩ := List.forall_mem_cons.mp hds
  have d2 : v_iv (n_v vs 6) + 0 ≤ v_iv (n_v vs 11) ∧ v_iv (n_v vs 11) ≤ v_iv (n_v vs 6) + 0 := d2
  have hf : fc_ok [(20, [2, 5], [50, 2, 0, 157, 11, 2, 7, 0, 3, 2, 0, 157, 1, 1, 1, 3, 2, 0, 11, 1, 1]), (20, [30, 5], [30, -4001, -1, 0, 0, -2, 0, 0]), (24, [0, 2], []), (7, [12, 29], [0]), (7, [12, 28], [1]), (7, [12, 27], [1]), (7, [12, 26], [1]), (7, [12, 25], [1]), (7, [12, 24], [1]), (7, [12, 23], [1]), (7, [12, 22], [1]), (7, [12, 21], [1]), (7, [12, 20], [1]), (20, [2, 5], [50, 2, 0, 157, 11, 2, 7, 0, 3, 2, 0, 157, 1, 1, 1, 3, 2, 0, 11, 1, 1]), (20, [19, 5], [30, -4001, -1, 0, 0, -2, 0, 0]), (8, [12], [3]), (9, [5, 2], [11]), (20, [5, 2, 12], [50, 1, 1, 1010, 1001, 4, 11, 0, 6, 4, 2, 1, 0, 0, 1, 2, 1, 10, 1, 2, 1, 2, 9, 5, 3, 1, 1, 1, 0, 0, 256]), (20, [2, 5, 12], [50, 1, 0, 10, 4, 7, 0, 3, 2, 0, 10, 1, 1, 1, 2, 1, 2, 0, -1]), (20, [2], [50, 2, 0, 157, 11, 0, 3, 2, 0, 157, 2, 0, 11]), (20, [11, 2], [30, -4001, -1, 0, 0, -2, 1, 11]), (7, [9, 10], [1]), (20, [5, 2, 9], [50, 1, 1, 1010, 1001, 4, 11, 0, 6, 4, 2, 1, 0, 0, 1, 2, 1, 10, 1, 2, 1, 2, 9, 5, 3, 1, 1, 1, 0, 0, 256]), (20, [2, 5, 9], [50, 1, 0, 10, 4, 7, 0, 3, 2, 0, 10, 1, 1, 1, 2, 1, 2, 0, -1]), (7, [7, 8], [1]), (20, [5, 2, 7], [50, 1, 1, 1010, 1001, 4, 11, 0, 6, 4, 2, 1, 0, 0, 1, 2, 1, 10, 1, 2, 1, 2, 9, 5, 3, 1, 1, 1, 0, 0, 256]), (20, [2, 5, 7], [50, 1, 0, 10, 4, 7, 0, 3, 2, 0, 10, 1, 1, 1, 2, 1, 2, 0, -1]), (20, [2], [50, 2, 0, 157, 11, 0, 3, 2, 0, 157, 2, 0, 11]), (20, [6, 2], [30, -4001, -1, 0, 0, -2, 1, 11])] ta ws vs := hf
  obtain ⟨f0, hf⟩ := fc_un (by decide) hf
  have f0 : (w_fi ws (n_v vs 2) 157 ≤ v_iv (n_v vs 5)) ∧ (w_fi ws (n_v vs 2) 11 = v_iv (n_v vs 5)) := f0
  obtain ⟨f1, hf⟩ := fc_un (by decide) hf
  have f1 : (-1) * v_iv (n_v vs 30) + ((-2) * v_iv (n_v vs 5) + 0) ≤ (-4001) := f1
  obtain ⟨f2, hf⟩ := fc_un (by decide) hf
  have f2 : n_v vs 0 = n_v vs 2 := f2
  obtain ⟨f3, hf⟩ := fc_un (by decide) hf
  have f3 : v_iv (n_v vs 12) = v_iv (n_v vs 29) := f3
  obtain ⟨f4, hf⟩ := fc_un (by decide) hf
  have f4 : v_iv (n_v vs 12) ≠ v_iv (n_v vs 28) := f4
  obtain ⟨f5, hf⟩ := fc_un (by decide) hf
  have f5 : v_iv (n_v vs 12) ≠ v_iv (n_v vs 27) := f5
  obtain ⟨f6, hf⟩ := fc_un (by decide) hf
  have f6 : v_iv (n_v vs 12) ≠ v_iv (n_v vs 26) := f6
  obtain ⟨f7, hf⟩ := fc_un (by decide) hf
  have f7 : v_iv (n_v vs 12) ≠ v_iv (n_v vs 25) := f7
  obtain ⟨f8, hf⟩ := fc_un (by decide) hf
  have f8 : v_iv (n_v vs 12) ≠ v_iv (n_v vs 24) := f8
  obtain ⟨f9, hf⟩ := fc_un (by decide) hf
  have f9 : v_iv (n_v vs 12) ≠ v_iv (n_v vs 23) := f9
  obtain ⟨f10, hf⟩ := fc_un (by decide) hf
  have f10 : v_iv (n_v vs 12) ≠ v_iv (n_v vs 22) := f10
  obtain ⟨f11, hf⟩ := fc_un (by decide) hf
  have f11 : v_iv (n_v vs 12) ≠ v_iv (n_v vs 21) := f11
  obtain ⟨f12, hf⟩ := fc_un (by decide) hf
  have f12 : v_iv (n_v vs 12) ≠ v_iv (n_v vs 20) := f12
  obtain ⟨f13, hf⟩ := fc_un (by decide) hf
  have f13 : (w_fi ws (n_v vs 2) 157 ≤ v_iv (n_v vs 5)) ∧ (w_fi ws (n_v vs 2) 11 = v_iv (n_v vs 5)) := f13
  obtain ⟨f14, hf⟩ := fc_un (by decide) hf
  have f14 : (-1) * v_iv (n_v vs 19) + ((-2) * v_iv (n_v vs 5) + 0) ≤ (-4001) := f14
  obtain ⟨f15, hf⟩ := fc_un (by decide) hf
  have f15 : 0 ≤ v_iv (n_v vs 12) := f15
  obtain ⟨f16, hf⟩ := fc_un (by decide) hf
  have f16 : n_v vs 5 = w_fd ws (v_ad (n_v vs 2)) 11 := f16
  obtain ⟨f17, hf⟩ := fc_un (by decide) hf
  have f17 : ((v_iv (n_v vs 5) + 1) ≤ w_fi ws (n_v vs 2) 10) → (v_iv (n_v vs 12) = (w_ei ws (w_ar ws (n_v vs 2) 1) (v_iv (n_v vs 5)) % 256)) := f17
  obtain ⟨f18, hf⟩ := fc_un (by decide) hf
  have f18 : (w_fi ws (n_v vs 2) 10 ≤ v_iv (n_v vs 5)) → (v_iv (n_v vs 12) = (-1)) := f18
  obtain ⟨f19, hf⟩ := fc_un (by decide) hf
  have f19 : w_fi ws (n_v vs 2) 157 ≤ w_fi ws (n_v vs 2) 11 := f19
  obtain ⟨f20, hf⟩ := fc_un (by decide) hf
  have f20 : (-1) * v_iv (n_v vs 11) + ((-2) * w_fi ws (n_v vs 2) 11 + 0) ≤ (-4001) := f20
  obtain ⟨f21, hf⟩ := fc_un (by decide) hf
  have f21 : v_iv (n_v vs 9) ≠ v_iv (n_v vs 10) := f21
  obtain ⟨f22, hf⟩ := fc_un (by decide) hf
  have f22 : ((v_iv (n_v vs 5) + 1) ≤ w_fi ws (n_v vs 2) 10) → (v_iv (n_v vs 9) = (w_ei ws (w_ar ws (n_v vs 2) 1) (v_iv (n_v vs 5)) % 256)) := f22
  obtain ⟨f23, hf⟩ := fc_un (by decide) hf
  have f23 : (w_fi ws (n_v vs 2) 10 ≤ v_iv (n_v vs 5)) → (v_iv (n_v vs 9) = (-1)) := f23
  obtain ⟨f24, hf⟩ := fc_un (by decide) hf
  have f24 : v_iv (n_v vs 7) ≠ v_iv (n_v vs 8) := f24
  obtain ⟨f25, hf⟩ := fc_un (by decide) hf
  have f25 : ((v_iv (n_v vs 5) + 1) ≤ w_fi ws (n_v vs 2) 10) → (v_iv (n_v vs 7) = (w_ei ws (w_ar ws (n_v vs 2) 1) (v_iv (n_v vs 5)) % 256)) := f25
  obtain ⟨f26, hf⟩ := fc_un (by decide) hf
  have f26 : (w_fi ws (n_v vs 2) 10 ≤ v_iv (n_v vs 5)) → (v_iv (n_v vs 7) = (-1)) := f26
  obtain ⟨f27, hf⟩ := fc_un (by decide) hf
  have f27 : w_fi ws (n_v vs 2) 157 ≤ w_fi ws (n_v vs 2) 11 := f27
  obtain ⟨f28, hf⟩ := fc_un (by decide) hf
  have f28 : (-1) * v_iv (n_v vs 6) + ((-2) * w_fi ws (n_v vs 2) 11 + 0) ≤ (-4001) := f28
  have q2 : n_v vs 2 = n_v vs 0 := f2.symm
  rw [q2] at f0
  rw [q2] at f13
  rw [q2] at f16
  rw [q2] at f17
  rw [q2] at f18
  rw [q2] at f19
  rw [q2] at f20
  rw [q2] at f22
  rw [q2] at f23
  rw [q2] at f25
  rw [q2] at f26
  rw [q2] at f27
  rw [q2] at f28
  have cr_0_1 : ta (w_ar ws (n_v vs 0) 1) = some 151 := tv_rg (th_fd hD hth r0 (g := GG_150) rfl (k := 1) (t := (2, 0, 0, [151])) rfl rfl)
  have g16 : v_iv (n_v vs 5) = w_fi ws (n_v vs 0) 11 := congrArg v_iv f16
  have hK_0_1 : ∀ j : Int, 0 ≤ j → j < 2000 → (-128) ≤ w_ei ws (w_ar ws (n_v vs 0) 1) j ∧ w_ei ws (w_ar ws (n_v vs 0) 1) j ≤ 127 := fun j h0 h1 => th_el hD hth cr_0_1 (kd := 1) (n := 2000) (m := 2000) (lo := (-128)) (hi := 127) (rs := []) (L := []) rfl (by decide) (j := j.toNat) (by omega)
  have kz_0_10 : 0 ≤ w_fi ws (n_v vs 0) 10 ∧ w_fi ws (n_v vs 0) 10 ≤ 2000 := tv_rng (th_fd hD hth r0 (g := GG_150) rfl (k := 10) (t := (0, 0, 2000, [])) rfl rfl)
  have kz_0_11 : 0 ≤ w_fi ws (n_v vs 0) 11 ∧ w_fi ws (n_v vs 0) 11 ≤ 2000 := tv_rng (th_fd hD hth r0 (g := GG_150) rfl (k := 11) (t := (0, 0, 2000, [])) rfl rfl)
  have kz_0_157 : 0 ≤ w_fi ws (n_v vs 0) 157 ∧ w_fi ws (n_v vs 0) 157 ≤ 2010 := tv_rng (th_fd hD hth r0 (g := GG_150) rfl (k := 157) (t := (0, 0, 2010, [])) rfl rfl)
  obtain ⟨x, ex, hx⟩ := iv_ex (ta := ta) (lo := 0) (hi := 4001) (z := 0 + (1 * v_iv (n_v vs 6) + 0)) (by omega) (by omega) (by decide) (by decide)
  have ex2 : v_iv (Value.int x) = 0 + (1 * v_iv (n_v vs 6) + 0) := ex
  have ex3 : 0 ≤ v_iv (Value.int x) ∧ v_iv (Value.int x) ≤ 4001 := tv_rng hx
  have e_0 : n_v (vs ++ [Value.int x]) 0 = n_v vs 0 := n_v_old (by rw [hl]; decide)
  have e_2 : n_v (vs ++ [Value.int x]) 2 = n_v vs 2 := n_v_old (by rw [hl]; decide)
  have e_5 : n_v (vs ++ [Value.int x]) 5 = n_v vs 5 := n_v_old (by rw [hl]; decide)
  have e_32 : n_v (vs ++ [Value.int x]) 32 = Value.int x := n_v_new hl
  have nf0 : fc_1 (20, [2, 5], [50, 2, 0, 157, 11, 2, 7, 0, 3, 2, 0, 157, 1, 1, 1, 3, 2, 0, 11, 1, 1]) ws (vs ++ [Value.int x]) := by
    refine ⟨fun n hn => ?_, ?_⟩
    · have hn : n ∈ [2, 5] := hn
      rw [List.length_append, hl]
      simp only [List.mem_cons, List.not_mem_nil, or_false] at hn
      show n < 32 + 1; omega
    · show (w_fi ws (n_v (vs ++ [Value.int x]) 2) 157 ≤ v_iv (n_v (vs ++ [Value.int x]) 5)) ∧ (w_fi ws (n_v (vs ++ [Value.int x]) 2) 11 = v_iv (n_v (vs ++ [Value.int x]) 5))
      rw [e_2]
      rw [e_5]
      rw [q2]
      first | omega | grind
  have nf1 : fc_1 (20, [32, 5], [30, -4001, -1, 0, 0, -2, 0, 0]) ws (vs ++ [Value.int x]) := by
    refine ⟨fun n hn => ?_, ?_⟩
    · have hn : n ∈ [32, 5] := hn
      rw [List.length_append, hl]
      simp only [List.mem_cons, List.not_mem_nil, or_false] at hn
      show n < 32 + 1; omega
    · show (-1) * v_iv (n_v (vs ++ [Value.int x]) 32) + ((-2) * v_iv (n_v (vs ++ [Value.int x]) 5) + 0) ≤ (-4001)
      rw [e_5]
      rw [e_32]
      omega
  have nf2 : fc_1 (24, [0, 2], []) ws (vs ++ [Value.int x]) := by
    refine ⟨fun n hn => ?_, ?_⟩
    · have hn : n ∈ [0, 2] := hn
      rw [List.length_append, hl]
      simp only [List.mem_cons, List.not_mem_nil, or_false] at hn
      show n < 32 + 1; omega
    · show n_v (vs ++ [Value.int x]) 0 = n_v (vs ++ [Value.int x]) 2
      first | rfl | simp only [e_0, e_2, q2]
  obtain ⟨x0, e0, _, _⟩ := tv_int t6 rfl
  have e1 : v_iv (n_v vs 6) = x0.toInt := by rw [e0]; rfl
  have ho : sy_ofs (vs ++ [Value.int x]) (32, 6, 0, 0) := by
    refine ⟨x, x0, by rw [List.getElem?_append_right (by rw [hl]; decide), hl]; rfl, ?_, ?_, ?_⟩
    · rw [List.getElem?_append_left (by rw [hl]; decide)]; exact n_v_some (by rw [hl]; decide) e0
    · show x0.toInt + 0 ≤ x.toInt; omega
    · show x.toInt ≤ x0.toInt + 0; omega
  exact ⟨fun q hq => (by cases hq), [Value.int x], ag_one hx, List.forall_mem_cons.mpr ⟨⟨by decide, nf0⟩, List.forall_mem_cons.mpr ⟨⟨by decide, nf1⟩, List.forall_mem_cons.mpr ⟨⟨by decide, nf2⟩, (fun _ h => (by cases h))⟩⟩⟩, List.forall_mem_cons.mpr ⟨ho, (fun _ h => (by cases h))⟩⟩
