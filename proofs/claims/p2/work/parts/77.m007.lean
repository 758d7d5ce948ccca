def o_Mo_styleTokens_170 : or_T := (363, 16, [(0, (2, 0, 0, [150])), (2, (2, 0, 0, [150])), (6, (0, 0, 1999, [])), (9, (0, 0, 1999, [])), (10, (0, 0, 4001, [])), (11, (0, 58, 255, [])), (13, (0, 0, 4, [])), (14, (0, 4, 4, [])), (15, (0, 2, 2, []))], [(7, [13, 14], [5]), (2, [13, 9, 6], []), (9, [9, 2], [11]), (20, [9, 2, 11], [50, 1, 1, 1010, 1001, 4, 11, 0, 6, 4, 2, 1, 0, 0, 1, 2, 1, 10, 1, 2, 1, 2, 9, 5, 3, 1, 1, 1, 0, 0, 256]), (20, [2, 9, 11], [50, 1, 0, 10, 4, 7, 0, 3, 2, 0, 10, 1, 1, 1, 2, 1, 2, 0, -1]), (20, [2, 6], [50, 3, 1, 157, 11, 10, 1, 2, 7, 0, 3, 2, 0, 157, 1, 1, 2, 7, 0, 2, 1, 1, 2, 0, 11, 3, 11, 0, 6, 4, 2, 1, 1, 0, 1, 2, 0, 11, 2, 7, 1, 3, 2, 0, 11, 1, 1, 2, 11, 0, 6, 4, 2, 1, 1, 0, 1, 2, 0, 10, 2, 13, 0, 2, 0, 48, 9, 5, 3, 0, 1, 1, 1, 0, 256, 0, 9, 9, 5, 3, 0, 1, 1, 1, 0, 256, 0, 57]), (20, [10, 6], [30, -4001, -1, 0, 0, -2, 0, 0]), (24, [0, 2], [])], [], [(0, 0, 4001, [])], [(20, [2, 6, 15], [50, 2, 0, 157, 11, 2, 7, 0, 3, 2, 0, 157, 1, 1, 2, 7, 0, 2, 1, 1, 2, 0, 11, 3, 6, 1, 2, 1, 2, 0, 0, 3, 6, 1, 2, 1, 2, 0, 4, 0, 6, 4, 2, 1, 1, 0, 1, 2, 0, 11]), (20, [16, 6], [30, -4001, -1, 0, 0, -2, 0, 0]), (24, [0, 2], [])], [(16, 10, 0, 0)], [(13, 9, -1999, 0), (6, 9, -4294967296, 0)])
theorem oo_Mo_styleTokens_170 {kA : Nat → ClassId} : or_ok kA GG o_Mo_styleTokens_170 := by
  intro A ta ws vs hD hth hl hk hds hf
  have hl : vs.length = 16 := hl
  have hk : ∀ q ∈ ([(0, (2, 0, 0, [150])), (2, (2, 0, 0, [150])), (6, (0, 0, 1999, [])), (9, (0, 0, 1999, [])), (10, (0, 0, 4001, [])), (11, (0, 58, 255, [])), (13, (0, 0, 4, [])), (14, (0, 4, 4, [])), (15, (0, 2, 2, []))] : List (Nat × tv_T)), tv_ok ta q.2 (n_v vs q.1) := hk
  obtain ⟨t0, hk⟩ := List.forall_mem_cons.mp hk
  have t0 : tv_ok ta (2, 0, 0, [150]) (n_v vs 0) := t0
  have r0 : ta (v_ad (n_v vs 0)) = some 150 := tv_rg t0
  obtain ⟨t2, hk⟩ := List.forall_mem_cons.mp hk
  have t2 : tv_ok ta (2, 0, 0, [150]) (n_v vs 2) := t2
  have r2 : ta (v_ad (n_v vs 2)) = some 150 := tv_rg t2
  obtain ⟨t6, hk⟩ := List.forall_mem_cons.mp hk
  have t6 : tv_ok ta (0, 0, 1999, []) (n_v vs 6) := t6
  have k6 : 0 ≤ v_iv (n_v vs 6) ∧ v_iv (n_v vs 6) ≤ 1999 := tv_rng t6
  obtain ⟨t9, hk⟩ := List.forall_mem_cons.mp hk
  have t9 : tv_ok ta (0, 0, 1999, []) (n_v vs 9) := t9
  have k9 : 0 ≤ v_iv (n_v vs 9) ∧ v_iv (n_v vs 9) ≤ 1999 := tv_rng t9
  obtain ⟨t10, hk⟩ := List.forall_mem_cons.mp hk
  have t10 : tv_ok ta (0, 0, 4001, []) (n_v vs 10) := t10
  have k10 : 0 ≤ v_iv (n_v vs 10) ∧ v_iv (n_v vs 10) ≤ 4001 := tv_rng t10
  obtain ⟨t11, hk⟩ := List.forall_mem_cons.mp hk
  have t11 : tv_ok ta (0, 58, 255, []) (n_v vs 11) := t11
  have k11 : 58 ≤ v_iv (n_v vs 11) ∧ v_iv (n_v vs 11) ≤ 255 := tv_rng t11
  obtain ⟨t13, hk⟩ := List.forall_mem_cons.mp hk
  have t13 : tv_ok ta (0, 0, 4, []) (n_v vs 13) := t13
  have k13 : 0 ≤ v_iv (n_v vs 13) ∧ v_iv (n_v vs 13) ≤ 4 := tv_rng t13
  obtain ⟨t14, hk⟩ := List.forall_mem_cons.mp hk
  have t14 : tv_ok ta (0, 4, 4, []) (n_v vs 14) := t14
  have k14 : 4 ≤ v_iv (n_v vs 14) ∧ v_iv (n_v vs 14) ≤ 4 := tv_rng t14
  obtain ⟨t15, hk⟩ := List.forall_mem_cons.mp hk
  have t15 : tv_ok ta (0, 2, 2, []) (n_v vs 15) := t15
  have k15 : 2 ≤ v_iv (n_v vs 15) ∧ v_iv (n_v vs 15) ≤ 2 := tv_rng t15
  have hds : ∀ q ∈ ([(13, 9, -1999, 0), (6, 9, -4294967296, 0)] : List of_T), n_iv vs q.2.1 + q.2.2.1 ≤ n_iv vs q.1 ∧ n_iv vs q.1 ≤ n_iv vs q.2.1 + q.2.2.2 := hds
  obtain ⟨d0, hds⟩ := List.forall_mem_cons.mp hds
  have d0 : v_iv (n_v vs 9) + (-1999) ≤ v_iv (n_v vs 13) ∧ v_iv (n_v vs 13) ≤ v_iv (n_v vs 9) + 0 := d0
  obtain ⟨d1, hds⟩ := List.forall_mem_cons.mp hds
  have d1 : v_iv (n_v vs 9) + (-4294967296) ≤ v_iv (n_v vs 6) ∧ v_iv (n_v vs 6) ≤ v_iv (n_v vs 9) + 0 := d1
  have hf : fc_ok [(7, [13, 14], [5]), (2, [13, 9, 6], []), (9, [9, 2], [11]), (20, [9, 2, 11], [50, 1, 1, 1010, 1001, 4, 11, 0, 6, 4, 2, 1, 0, 0, 1, 2, 1, 10, 1, 2, 1, 2, 9, 5, 3, 1, 1, 1, 0, 0, 256]), (20, [2, 9, 11], [50, 1, 0, 10, 4, 7, 0, 3, 2, 0, 10, 1, 1, 1, 2, 1, 2, 0, -1]), (20, [2, 6], [50, 3, 1, 157, 11, 10, 1, 2, 7, 0, 3, 2, 0, 157, 1, 1, 2, 7, 0, 2, 1, 1, 2, 0, 11, 3, 11, 0, 6, 4, 2, 1, 1, 0, 1, 2, 0, 11, 2, 7, 1, 3, 2, 0, 11, 1, 1, 2, 11, 0, 6, 4, 2, 1, 1, 0, 1, 2, 0, 10, 2, 13, 0, 2, 0, 48, 9, 5, 3, 0, 1, 1, 1, 0, 256, 0, 9, 9, 5, 3, 0, 1, 1, 1, 0, 256, 0, 57]), (20, [10, 6], [30, -4001, -1, 0, 0, -2, 0, 0]), (24, [0, 2], [])] ta ws vs := hf
  obtain ⟨f0, hf⟩ := fc_un (by decide) hf
  have f0 : v_iv (n_v vs 13) ≤ v_iv (n_v vs 14) := f0
  obtain ⟨f1, hf⟩ := fc_un (by decide) hf
  have f1 : v_iv (n_v vs 13) = v_iv (n_v vs 9) - v_iv (n_v vs 6) := f1
  obtain ⟨f2, hf⟩ := fc_un (by decide) hf
  have f2 : n_v vs 9 = w_fd ws (v_ad (n_v vs 2)) 11 := f2
  obtain ⟨f3, hf⟩ := fc_un (by decide) hf
  have f3 : ((v_iv (n_v vs 9) + 1) ≤ w_fi ws (n_v vs 2) 10) → (v_iv (n_v vs 11) = (w_ei ws (w_ar ws (n_v vs 2) 1) (v_iv (n_v vs 9)) % 256)) := f3
  obtain ⟨f4, hf⟩ := fc_un (by decide) hf
  have f4 : (w_fi ws (n_v vs 2) 10 ≤ v_iv (n_v vs 9)) → (v_iv (n_v vs 11) = (-1)) := f4
  obtain ⟨f5, hf⟩ := fc_un (by decide) hf
  have f5 : (w_fi ws (n_v vs 2) 157 ≤ v_iv (n_v vs 6)) ∧ ((v_iv (n_v vs 6) ≤ w_fi ws (n_v vs 2) 11) ∧ (((v_iv (n_v vs 6) + 1) ≤ w_fi ws (n_v vs 2) 11) ∨ ((w_fi ws (n_v vs 2) 11 = v_iv (n_v vs 6)) ∧ (((v_iv (n_v vs 6) + 1) ≤ w_fi ws (n_v vs 2) 10) ∧ ((48 ≤ (w_ei ws (w_ar ws (n_v vs 2) 1) (v_iv (n_v vs 6)) % 256)) ∧ ((w_ei ws (w_ar ws (n_v vs 2) 1) (v_iv (n_v vs 6)) % 256) ≤ 57)))))) := f5
  obtain ⟨f6, hf⟩ := fc_un (by decide) hf
  have f6 : (-1) * v_iv (n_v vs 10) + ((-2) * v_iv (n_v vs 6) + 0) ≤ (-4001) := f6
  obtain ⟨f7, hf⟩ := fc_un (by decide) hf
  have f7 : n_v vs 0 = n_v vs 2 := f7
  have q2 : n_v vs 2 = n_v vs 0 := f7.symm
  rw [q2] at f2
  rw [q2] at f3
  rw [q2] at f4
  rw [q2] at f5
  have cr_0_1 : ta (w_ar ws (n_v vs 0) 1) = some 151 := tv_rg (th_fd hD hth r0 (g := GG_150) rfl (k := 1) (t := (2, 0, 0, [151])) rfl rfl)
  have g2 : v_iv (n_v vs 9) = w_fi ws (n_v vs 0) 11 := congrArg v_iv f2
  have hK_0_1 : ∀ j : Int, 0 ≤ j → j < 2000 → (-128) ≤ w_ei ws (w_ar ws (n_v vs 0) 1) j ∧ w_ei ws (w_ar ws (n_v vs 0) 1) j ≤ 127 := fun j h0 h1 => th_el hD hth cr_0_1 (kd := 1) (n := 2000) (m := 2000) (lo := (-128)) (hi := 127) (rs := []) (L := []) rfl (by decide) (j := j.toNat) (by omega)
  have kz_0_10 : 0 ≤ w_fi ws (n_v vs 0) 10 ∧ w_fi ws (n_v vs 0) 10 ≤ 2000 := tv_rng (th_fd hD hth r0 (g := GG_150) rfl (k := 10) (t := (0, 0, 2000, [])) rfl rfl)
  have kz_0_11 : 0 ≤ w_fi ws (n_v vs 0) 11 ∧ w_fi ws (n_v vs 0) 11 ≤ 2000 := tv_rng (th_fd hD hth r0 (g := GG_150) rfl (k := 11) (t := (0, 0, 2000, [])) rfl rfl)
  have kz_0_157 : 0 ≤ w_fi ws (n_v vs 0) 157 ∧ w_fi ws (n_v vs 0) 157 ≤ 2010 := tv_rng (th_fd hD hth r0 (g := GG_150) rfl (k := 157) (t := (0, 0, 2010, [])) rfl rfl)
  obtain ⟨x, ex, hx⟩ := iv_ex (ta := ta) (lo := 0) (hi := 4001) (z := 0 + (1 * v_iv (n_v vs 10) + 0)) (by omega) (by omega) (by decide) (by decide)
  have ex2 : v_iv (Value.int x) = 0 + (1 * v_iv (n_v vs 10) + 0) := ex
  have ex3 : 0 ≤ v_iv (Value.int x) ∧ v_iv (Value.int x) ≤ 4001 := tv_rng hx
  have e_0 : n_v (vs ++ [Value.int x]) 0 = n_v vs 0 := n_v_old (by rw [hl]; decide)
  have e_2 : n_v (vs ++ [Value.int x]) 2 = n_v vs 2 := n_v_old (by rw [hl]; decide)
  have e_6 : n_v (vs ++ [Value.int x]) 6 = n_v vs 6 := n_v_old (by rw [hl]; decide)
  have e_15 : n_v (vs ++ [Value.int x]) 15 = n_v vs 15 := n_v_old (by rw [hl]; decide)
  have e_16 : n_v (vs ++ [Value.int x]) 16 = Value.int x := n_v_new hl
  have nf0 : fc_1 (20, [2, 6, 15], [50, 2, 0, 157, 11, 2, 7, 0, 3, 2, 0, 157, 1, 1, 2, 7, 0, 2, 1, 1, 2, 0, 11, 3, 6, 1, 2, 1, 2, 0, 0, 3, 6, 1, 2, 1, 2, 0, 4, 0, 6, 4, 2, 1, 1, 0, 1, 2, 0, 11]) ws (vs ++ [Value.int x]) := by
    refine ⟨fun n hn => ?_, ?_⟩
    · have hn : n ∈ [2, 6, 15] := hn
      rw [List.length_append, hl]
      simp only [List.mem_cons, List.not_mem_nil, or_false] at hn
      show n < 16 + 1; omega
    · show (w_fi ws (n_v (vs ++ [Value.int x]) 2) 157 ≤ v_iv (n_v (vs ++ [Value.int x]) 6)) ∧ ((v_iv (n_v (vs ++ [Value.int x]) 6) ≤ w_fi ws (n_v (vs ++ [Value.int x]) 2) 11) ∧ ((v_iv (n_v (vs ++ [Value.int x]) 15) = 0) ∨ ((v_iv (n_v (vs ++ [Value.int x]) 15) = 4) ∨ ((v_iv (n_v (vs ++ [Value.int x]) 6) + 1) ≤ w_fi ws (n_v (vs ++ [Value.int x]) 2) 11))))
      rw [e_2]
      rw [e_6]
      rw [e_15]
      rw [q2]
      first | omega | grind
  have nf1 : fc_1 (20, [16, 6], [30, -4001, -1, 0, 0, -2, 0, 0]) ws (vs ++ [Value.int x]) := by
    refine ⟨fun n hn => ?_, ?_⟩
    · have hn : n ∈ [16, 6] := hn
      rw [List.length_append, hl]
      simp only [List.mem_cons, List.not_mem_nil, or_false] at hn
      show n < 16 + 1; omega
    · show (-1) * v_iv (n_v (vs ++ [Value.int x]) 16) + ((-2) * v_iv (n_v (vs ++ [Value.int x]) 6) + 0) ≤ (-4001)
      rw [e_6]
      rw [e_16]
      omega
  have nf2 : fc_1 (24, [0, 2], []) ws (vs ++ [Value.int x]) := by
    refine ⟨fun n hn => ?_, ?_⟩
    · have hn : n ∈ [0, 2] := hn
      rw [List.length_append, hl]
      simp only [List.mem_cons, List.not_mem_nil, or_false] at hn
      show n < 16 + 1; omega
    · show n_v (vs ++ [Value.int x]) 0 = n_v (vs ++ [Value.int x]) 2
      first | rfl | simp only [e_0, e_2, q2]
  obtain ⟨x0, e0, _, _⟩ := tv_int t10 rfl
  have e1 : v_iv (n_v vs 10) = x0.toInt := by rw [e0]; rfl
  have ho : sy_ofs (vs ++ [Value.int x]) (16, 10, 0, 0) := by
    refine ⟨x, x0, by rw [List.getElem?_append_right (by rw [hl]; decide), hl]; rfl, ?_, ?_, ?_⟩
    · rw [List.getElem?_append_left (by rw [hl]; decide)]; exact n_v_some (by rw [hl]; decide) e0
    · show x0.toInt + 0 ≤ x.toInt; omega
    · show x.toInt ≤ x0.toInt + 0; omega
  exact ⟨fun q hq => (by cases hq), [Value.int x], ag_one hx, List.forall_mem_cons.mpr ⟨⟨by decide, nf0⟩, List.forall_mem_cons.mpr ⟨⟨by decide, nf1⟩, List.forall_mem_cons.mpr ⟨⟨by decide, nf2⟩, (fun _ h => (by cases h))⟩⟩⟩, List.forall_mem_cons.mpr ⟨ho, (fun _ h => (by cases h))⟩⟩
def o_Mo_styleTokens_171 : or_T := (166, 23, [(0, (2, 0, 0, [150])), (2, (2, 0, 0, [150])), (6, (0, 0, 1999, [])), (9, (0, 0, 1999, [])), (10, (0, 0, 4001, [])), (11, (0, 48, 57, [])), (16, (0, -1, -1, [])), (21, (0, 1, 1, [])), (22, (0, 1, 2000, []))], [(20, [9, 2, 16], [50, 1, 1, 1010, 1001, 4, 11, 0, 6, 4, 2, 1, 0, 0, 1, 2, 1, 10, 1, 2, 1, 2, 9, 5, 3, 1, 1, 1, 0, 0, 256]), (20, [2, 9, 16], [50, 1, 0, 10, 4, 7, 0, 3, 2, 0, 10, 1, 1, 1, 2, 1, 2, 0, -1]), (20, [9, 2, 11], [50, 1, 1, 1010, 1001, 4, 11, 0, 6, 4, 2, 1, 0, 0, 1, 2, 1, 10, 1, 2, 1, 2, 9, 5, 3, 1, 1, 1, 0, 0, 256]), (20, [2, 9, 11], [50, 1, 0, 10, 4, 7, 0, 3, 2, 0, 10, 1, 1, 1, 2, 1, 2, 0, -1]), (20, [10, 6], [30, -4001, -1, 0, 0, -2, 0, 0]), (24, [0, 2], []), (101, [2, 22], [11]), (1, [22, 9, 21], []), (9, [9, 2], [11]), (20, [9, 2, 16], [50, 1, 1, 1010, 1001, 4, 11, 0, 6, 4, 2, 1, 0, 0, 1, 2, 1, 10, 1, 2, 1, 2, 9, 5, 3, 1, 1, 1, 0, 0, 256]), (20, [2, 9, 16], [50, 1, 0, 10, 4, 7, 0, 3, 2, 0, 10, 1, 1, 1, 2, 1, 2, 0, -1]), (20, [9, 2, 11], [50, 1, 1, 1010, 1001, 4, 11, 0, 6, 4, 2, 1, 0, 0, 1, 2, 1, 10, 1, 2, 1, 2, 9, 5, 3, 1, 1, 1, 0, 0, 256]), (20, [2, 9, 11], [50, 1, 0, 10, 4, 7, 0, 3, 2, 0, 10, 1, 1, 1, 2, 1, 2, 0, -1]), (20, [2, 6], [50, 3, 1, 157, 11, 10, 1, 2, 7, 0, 3, 2, 0, 157, 1, 1, 2, 7, 0, 2, 1, 1, 2, 0, 11, 3, 11, 0, 6, 4, 2, 1, 1, 0, 1, 2, 0, 11, 2, 7, 1, 3, 2, 0, 11, 1, 1, 2, 11, 0, 6, 4, 2, 1, 1, 0, 1, 2, 0, 10, 2, 13, 0, 2, 0, 48, 9, 5, 3, 0, 1, 1, 1, 0, 256, 0, 9, 9, 5, 3, 0, 1, 1, 1, 0, 256, 0, 57]), (20, [10, 6], [30, -4001, -1, 0, 0, -2, 0, 0])], [], [], [(20, [2, 6], [50, 3, 1, 157, 11, 10, 1, 2, 7, 0, 3, 2, 0, 157, 1, 1, 2, 7, 0, 2, 1, 1, 2, 0, 11, 3, 11, 0, 6, 4, 2, 1, 1, 0, 1, 2, 0, 11, 2, 7, 1, 3, 2, 0, 11, 1, 1, 2, 11, 0, 6, 4, 2, 1, 1, 0, 1, 2, 0, 10, 2, 13, 0, 2, 0, 48, 9, 5, 3, 0, 1, 1, 1, 0, 256, 0, 9, 9, 5, 3, 0, 1, 1, 1, 0, 256, 0, 57])], [], [(22, 9, 1, 1), (6, 9, -4294967296, 0)])
theorem oo_Mo_styleTokens_171 {kA : Nat → ClassId} : or_ok kA GG o_Mo_styleTokens_171 := by
  intro A ta ws vs hD hth hl hk hds hf
  have hl : vs.length = 23 := hl
  have hk : ∀ q ∈ ([(0, (2, 0, 0, [150])), (2, (2, 0, 0, [150])), (6, (0, 0, 1999, [])), (9, (0, 0, 1999, [])), (10, (0, 0, 4001, [])), (11, (0, 48, 57, [])), (16, (0, -1, -1, [])), (21, (0, 1, 1, [])), (22, (0, 1, 2000, []))] : List (Nat × tv_T)), tv_ok ta q.2 (n_v vs q.1) := hk
  obtain ⟨t0, hk⟩ := List.forall_mem_cons.mp hk
  have t0 : tv_ok ta (2, 0, 0, [150]) (n_v vs 0) := t0
  have r0 : ta (v_ad (n_v vs 0)) = some 150 := tv_rg t0
  obtain ⟨t2, hk⟩ := List.forall_mem_cons.mp hk
  have t2 : tv_ok ta (2, 0, 0, [150]) (n_v vs 2) := t2
  have r2 : ta (v_ad (n_v vs 2)) = some 150 := tv_rg t2
  obtain ⟨t6, hk⟩ := List.forall_mem_cons.mp hk
  have t6 : tv_ok ta (0, 0, 1999, []) (n_v vs 6) := t6
  have k6 : 0 ≤ v_iv (n_v vs 6) ∧ v_iv (n_v vs 6) ≤ 1999 := tv_rng t6
  obtain ⟨t9, hk⟩ := List.forall_mem_cons.mp hk
  have t9 : tv_ok ta (0, 0, 1999, []) (n_v vs 9) := t9
  have k9 : 0 ≤ v_iv (n_v vs 9) ∧ v_iv (n_v vs 9) ≤ 1999 := tv_rng t9
  obtain ⟨t10, hk⟩ := List.forall_mem_cons.mp hk
  have t10 : tv_ok ta (0, 0, 4001, []) (n_v vs 10) := t10
  have k10 : 0 ≤ v_iv (n_v vs 10) ∧ v_iv (n_v vs 10) ≤ 4001 := tv_rng t10
  obtain ⟨t11, hk⟩ := List.forall_mem_cons.mp hk
  have t11 : tv_ok ta (0, 48, 57, []) (n_v vs 11) := t11
  have k11 : 48 ≤ v_iv (n_v vs 11) ∧ v_iv (n_v vs 11) ≤ 57 := tv_rng t11
  obtain ⟨t16, hk⟩ := List.forall_mem_cons.mp hk
  have t16 : tv_ok ta (0, -1, -1, []) (n_v vs 16) := t16
  have k16 : (-1) ≤ v_iv (n_v vs 16) ∧ v_iv (n_v vs 16) ≤ (-1) := tv_rng t16
  obtain ⟨t21, hk⟩ := List.forall_mem_cons.mp hk
  have t21 : tv_ok ta (0, 1, 1, []) (n_v vs 21) := t21
  have k21 : 1 ≤ v_iv (n_v vs 21) ∧ v_iv (n_v vs 21) ≤ 1 := tv_rng t21
  obtain ⟨t22, hk⟩ := List.forall_mem_cons.mp hk
  have t22 : tv_ok ta (0, 1, 2000, []) (n_v vs 22) := t22
  have k22 : 1 ≤ v_iv (n_v vs 22) ∧ v_iv (n_v vs 22) ≤ 2000 := tv_rng t22
  have hds : ∀ q ∈ ([(22, 9, 1, 1), (6, 9, -4294967296, 0)] : List of_T), n_iv vs q.2.1 + q.2.2.1 ≤ n_iv vs q.1 ∧ n_iv vs q.1 ≤ n_iv vs q.2.1 + q.2.2.2 := hds
  obtain ⟨d0, hds⟩ := List.forall_mem_cons.mp hds
  have d0 : v_iv (n_v vs 9) + 1 ≤ v_iv (n_v vs 22) ∧ v_iv (n_v vs 22) ≤ v_iv (n_v vs 9) + 1 := d0
  obtain ⟨d1, hds⟩ := List.forall_mem_cons.mp hds
  have d1 : v_iv (n_v vs 9) + (-4294967296) ≤ v_iv (n_v vs 6) ∧ v_iv (n_v vs 6) ≤ v_iv (n_v vs 9) + 0 := d1
  have hf : fc_ok [(20, [9, 2, 16], [50, 1, 1, 1010, 1001, 4, 11, 0, 6, 4, 2, 1, 0, 0, 1, 2, 1, 10, 1, 2, 1, 2, 9, 5, 3, 1, 1, 1, 0, 0, 256]), (20, [2, 9, 16], [50, 1, 0, 10, 4, 7, 0, 3, 2, 0, 10, 1, 1, 1, 2, 1, 2, 0, -1]), (20, [9, 2, 11], [50, 1, 1, 1010, 1001, 4, 11, 0, 6, 4, 2, 1, 0, 0, 1, 2, 1, 10, 1, 2, 1, 2, 9, 5, 3, 1, 1, 1, 0, 0, 256]), (20, [2, 9, 11], [50, 1, 0, 10, 4, 7, 0, 3, 2, 0, 10, 1, 1, 1, 2, 1, 2, 0, -1]), (20, [10, 6], [30, -4001, -1, 0, 0, -2, 0, 0]), (24, [0, 2], []), (101, [2, 22], [11]), (1, [22, 9, 21], []), (9, [9, 2], [11]), (20, [9, 2, 16], [50, 1, 1, 1010, 1001, 4, 11, 0, 6, 4, 2, 1, 0, 0, 1, 2, 1, 10, 1, 2, 1, 2, 9, 5, 3, 1, 1, 1, 0, 0, 256]), (20, [2, 9, 16], [50, 1, 0, 10, 4, 7, 0, 3, 2, 0, 10, 1, 1, 1, 2, 1, 2, 0, -1]), (20, [9, 2, 11], [50, 1, 1, 1010, 1001, 4, 11, 0, 6, 4, 2, 1, 0, 0, 1, 2, 1, 10, 1, 2, 1, 2, 9, 5, 3, 1, 1, 1, 0, 0, 256]), (20, [2, 9, 11], [50, 1, 0, 10, 4, 7, 0, 3, 2, 0, 10, 1, 1, 1, 2, 1, 2, 0, -1]), (20, [2, 6], [50, 3, 1, 157, 11, 10, 1, 2, 7, 0, 3, 2, 0, 157, 1, 1, 2, 7, 0, 2, 1, 1, 2, 0, 11, 3, 11, 0, 6, 4, 2, 1, 1, 0, 1, 2, 0, 11, 2, 7, 1, 3, 2, 0, 11, 1, 1, 2, 11, 0, 6, 4, 2, 1, 1, 0, 1, 2, 0, 10, 2, 13, 0, 2, 0, 48, 9, 5, 3, 0, 1, 1, 1, 0, 256, 0, 9, 9, 5, 3, 0, 1, 1, 1, 0, 256, 0, 57]), (20, [10, 6], [30, -4001, -1, 0, 0, -2, 0, 0])] ta ws vs := hf
  obtain ⟨f0, hf⟩ := fc_un (by decide) hf
  have f0 : ((v_iv (n_v vs 9) + 1) ≤ w_fi ws (n_v vs 2) 10) → (v_iv (n_v vs 16) = (w_ei ws (w_ar ws (n_v vs 2) 1) (v_iv (n_v vs 9)) % 256)) := f0
  obtain ⟨f1, hf⟩ := fc_un (by decide) hf
  have f1 : (w_fi ws (n_v vs 2) 10 ≤ v_iv (n_v vs 9)) → (v_iv (n_v vs 16) = (-1)) := f1
  obtain ⟨f2, hf⟩ := fc_un (by decide) hf
  have f2 : ((v_iv (n_v vs 9) + 1) ≤ w_fi ws (n_v vs 2) 10) → (v_iv (n_v vs 11) = (w_ei ws (w_ar ws (n_v vs 2) 1) (v_iv (n_v vs 9)) % 256)) := f2
  obtain ⟨f3, hf⟩ := fc_un (by decide) hf
  have f3 : (w_fi ws (n_v vs 2) 10 ≤ v_iv (n_v vs 9)) → (v_iv (n_v vs 11) = (-1)) := f3
  obtain ⟨f4, hf⟩ := fc_un (by decide) hf
  have f4 : (-1) * v_iv (n_v vs 10) + ((-2) * v_iv (n_v vs 6) + 0) ≤ (-4001) := f4
  obtain ⟨f5, hf⟩ := fc_un (by decide) hf
  have f5 : n_v vs 0 = n_v vs 2 := f5
  obtain ⟨ta1, w1, le1, ⟨_, s1⟩, hf⟩ := fc_us (by decide) hf
  have s1 : (∀ b j, w_el ws b j = w_el w1 b j) ∧ ∀ b j, w_fd ws b j = if b = v_ad (n_v vs 2) ∧ j = 11 then n_v vs 22 else w_fd w1 b j := s1
  obtain ⟨f7, hf⟩ := fc_un (by decide) hf
  have f7 : v_iv (n_v vs 22) = v_iv (n_v vs 9) + v_iv (n_v vs 21) := f7
  obtain ⟨f8, hf⟩ := fc_un (by decide) hf
  have f8 : n_v vs 9 = w_fd w1 (v_ad (n_v vs 2)) 11 := f8
  obtain ⟨f9, hf⟩ := fc_un (by decide) hf
  have f9 : ((v_iv (n_v vs 9) + 1) ≤ w_fi w1 (n_v vs 2) 10) → (v_iv (n_v vs 16) = (w_ei w1 (w_ar w1 (n_v vs 2) 1) (v_iv (n_v vs 9)) % 256)) := f9
  obtain ⟨f10, hf⟩ := fc_un (by decide) hf
  have f10 : (w_fi w1 (n_v vs 2) 10 ≤ v_iv (n_v vs 9)) → (v_iv (n_v vs 16) = (-1)) := f10
  obtain ⟨f11, hf⟩ := fc_un (by decide) hf
  have f11 : ((v_iv (n_v vs 9) + 1) ≤ w_fi w1 (n_v vs 2) 10) → (v_iv (n_v vs 11) = (w_ei w1 (w_ar w1 (n_v vs 2) 1) (v_iv (n_v vs 9)) % 256)) := f11
  obtain ⟨f12, hf⟩ := fc_un (by decide) hf
  have f12 : (w_fi w1 (n_v vs 2) 10 ≤ v_iv (n_v vs 9)) → (v_iv (n_v vs 11) = (-1)) := f12
  obtain ⟨f13, hf⟩ := fc_un (by decide) hf
  have f13 : (w_fi w1 (n_v vs 2) 157 ≤ v_iv (n_v vs 6)) ∧ ((v_iv (n_v vs 6) ≤ w_fi w1 (n_v vs 2) 11) ∧ (((v_iv (n_v vs 6) + 1) ≤ w_fi w1 (n_v vs 2) 11) ∨ ((w_fi w1 (n_v vs 2) 11 = v_iv (n_v vs 6)) ∧ (((v_iv (n_v vs 6) + 1) ≤ w_fi w1 (n_v vs 2) 10) ∧ ((48 ≤ (w_ei w1 (w_ar w1 (n_v vs 2) 1) (v_iv (n_v vs 6)) % 256)) ∧ ((w_ei w1 (w_ar w1 (n_v vs 2) 1) (v_iv (n_v vs 6)) % 256) ≤ 57)))))) := f13
  obtain ⟨f14, hf⟩ := fc_un (by decide) hf
  have f14 : (-1) * v_iv (n_v vs 10) + ((-2) * v_iv (n_v vs 6) + 0) ≤ (-4001) := f14
  have q2 : n_v vs 2 = n_v vs 0 := f5.symm
  rw [q2] at f0
  rw [q2] at f1
  rw [q2] at f2
  rw [q2] at f3
  rw [q2] at s1
  rw [q2] at f8
  rw [q2] at f9
  rw [q2] at f10
  rw [q2] at f11
  rw [q2] at f12
  rw [q2] at f13
  have ar_0_1_1 : w_ar w1 (n_v vs 0) 1 = w_ar ws (n_v vs 0) 1 := by show v_ad (w_fd w1 _ _) = v_ad (w_fd ws _ _); rw [s1.2, if_neg (fun e => absurd e.2 (by decide))]
  have cr_0_1 : ta (w_ar ws (n_v vs 0) 1) = some 151 := tv_rg (th_fd hD hth r0 (g := GG_150) rfl (k := 1) (t := (2, 0, 0, [151])) rfl rfl)
  have g8 : v_iv (n_v vs 9) = w_fi w1 (n_v vs 0) 11 := congrArg v_iv f8
  rw [ar_0_1_1] at f9
  rw [ar_0_1_1] at f11
  rw [ar_0_1_1] at f13
  have fe_0_10_1 : w_fi ws (n_v vs 0) 10 = w_fi w1 (n_v vs 0) 10 := by show v_iv (w_fd _ _ _) = v_iv (w_fd _ _ _); rw [s1.2, if_neg (fun e => absurd e.2 (by decide))]
  have fe_0_11_1 : w_fi ws (n_v vs 0) 11 = v_iv (n_v vs 22) := by show v_iv (w_fd _ _ _) = _; rw [s1.2, if_pos ⟨rfl, rfl⟩]
  have fe_0_157_1 : w_fi ws (n_v vs 0) 157 = w_fi w1 (n_v vs 0) 157 := by show v_iv (w_fd _ _ _) = v_iv (w_fd _ _ _); rw [s1.2, if_neg (fun e => absurd e.2 (by decide))]
  have hE_0_1_1 : ∀ j : Int, w_ei ws (w_ar ws (n_v vs 0) 1) j = w_ei w1 (w_ar ws (n_v vs 0) 1) j := fun j => s1.1 _ _
  have hK_0_1 : ∀ j : Int, 0 ≤ j → j < 2000 → (-128) ≤ w_ei ws (w_ar ws (n_v vs 0) 1) j ∧ w_ei ws (w_ar ws (n_v vs 0) 1) j ≤ 127 := fun j h0 h1 => th_el hD hth cr_0_1 (kd := 1) (n := 2000) (m := 2000) (lo := (-128)) (hi := 127) (rs := []) (L := []) rfl (by decide) (j := j.toNat) (by omega)
  have kz_0_10 : 0 ≤ w_fi ws (n_v vs 0) 10 ∧ w_fi ws (n_v vs 0) 10 ≤ 2000 := tv_rng (th_fd hD hth r0 (g := GG_150) rfl (k := 10) (t := (0, 0, 2000, [])) rfl rfl)
  have kz_0_11 : 0 ≤ w_fi ws (n_v vs 0) 11 ∧ w_fi ws (n_v vs 0) 11 ≤ 2000 := tv_rng (th_fd hD hth r0 (g := GG_150) rfl (k := 11) (t := (0, 0, 2000, [])) rfl rfl)
  have kz_0_157 : 0 ≤ w_fi ws (n_v vs 0) 157 ∧ w_fi ws (n_v vs 0) 157 ≤ 2010 := tv_rng (th_fd hD hth r0 (g := GG_150) rfl (k := 157) (t := (0, 0, 2010, [])) rfl rfl)
  have nf0 : fc_1 (20, [2, 6], [50, 3, 1, 157, 11, 10, 1, 2, 7, 0, 3, 2, 0, 157, 1, 1, 2, 7, 0, 2, 1, 1, 2, 0, 11, 3, 11, 0, 6, 4, 2, 1, 1, 0, 1, 2, 0, 11, 2, 7, 1, 3, 2, 0, 11, 1, 1, 2, 11, 0, 6, 4, 2, 1, 1, 0, 1, 2, 0, 10, 2, 13, 0, 2, 0, 48, 9, 5, 3, 0, 1, 1, 1, 0, 256, 0, 9, 9, 5, 3, 0, 1, 1, 1, 0, 256, 0, 57]) ws (vs) := by
    refine ⟨fun n hn => ?_, ?_⟩
    · have hn : n ∈ [2, 6] := hn
      rw [hl]
      simp only [List.mem_cons, List.not_mem_nil, or_false] at hn
      show n < 23; omega
    · show (w_fi ws (n_v vs 2) 157 ≤ v_iv (n_v vs 6)) ∧ ((v_iv (n_v vs 6) ≤ w_fi ws (n_v vs 2) 11) ∧ (((v_iv (n_v vs 6) + 1) ≤ w_fi ws (n_v vs 2) 11) ∨ ((w_fi ws (n_v vs 2) 11 = v_iv (n_v vs 6)) ∧ (((v_iv (n_v vs 6) + 1) ≤ w_fi ws (n_v vs 2) 10) ∧ ((48 ≤ (w_ei ws (w_ar ws (n_v vs 2) 1) (v_iv (n_v vs 6)) % 256)) ∧ ((w_ei ws (w_ar ws (n_v vs 2) 1) (v_iv (n_v vs 6)) % 256) ≤ 57))))))
      rw [q2]
      first | omega | grind
  refine ⟨(fun _ h => (by cases h)), [], trivial, ?_, (fun _ h => (by cases h))⟩
  rw [List.append_nil]
  exact List.forall_mem_cons.mpr ⟨⟨by decide, nf0⟩, (fun _ h => (by cases h))⟩
def o_Mo_styleTokens_172 : or_T := (166, 23, [(0, (2, 0, 0, [150])), (2, (2, 0, 0, [150])), (6, (0, 0, 1999, [])), (9, (0, 0, 1999, [])), (10, (0, 0, 4001, [])), (11, (0, 48, 57, [])), (16, (0, 0, 255, [])), (21, (0, 1, 1, [])), (22, (0, 1, 2000, []))], [(20, [9, 2, 16], [50, 1, 1, 1010, 1001, 4, 11, 0, 6, 4, 2, 1, 0, 0, 1, 2, 1, 10, 1, 2, 1, 2, 9, 5, 3, 1, 1, 1, 0, 0, 256]), (20, [2, 9, 16], [50, 1, 0, 10, 4, 7, 0, 3, 2, 0, 10, 1, 1, 1, 2, 1, 2, 0, -1]), (20, [9, 2, 11], [50, 1, 1, 1010, 1001, 4, 11, 0, 6, 4, 2, 1, 0, 0, 1, 2, 1, 10, 1, 2, 1, 2, 9, 5, 3, 1, 1, 1, 0, 0, 256]), (20, [2, 9, 11], [50, 1, 0, 10, 4, 7, 0, 3, 2, 0, 10, 1, 1, 1, 2, 1, 2, 0, -1]), (20, [10, 6], [30, -4001, -1, 0, 0, -2, 0, 0]), (24, [0, 2], []), (101, [2, 22], [11]), (1, [22, 9, 21], []), (9, [9, 2], [11]), (20, [9, 2, 16], [50, 1, 1, 1010, 1001, 4, 11, 0, 6, 4, 2, 1, 0, 0, 1, 2, 1, 10, 1, 2, 1, 2, 9, 5, 3, 1, 1, 1, 0, 0, 256]), (20, [2, 9, 16], [50, 1, 0, 10, 4, 7, 0, 3, 2, 0, 10, 1, 1, 1, 2, 1, 2, 0, -1]), (20, [9, 2, 11], [50, 1, 1, 1010, 1001, 4, 11, 0, 6, 4, 2, 1, 0, 0, 1, 2, 1, 10, 1, 2, 1, 2, 9, 5, 3, 1, 1, 1, 0, 0, 256]), (20, [2, 9, 11], [50, 1, 0, 10, 4, 7, 0, 3, 2, 0, 10, 1, 1, 1, 2, 1, 2, 0, -1]), (20, [2, 6], [50, 3, 1, 157, 11, 10, 1, 2, 7, 0, 3, 2, 0, 157, 1, 1, 2, 7, 0, 2, 1, 1, 2, 0, 11, 3, 11, 0, 6, 4, 2, 1, 1, 0, 1, 2, 0, 11, 2, 7, 1, 3, 2, 0, 11, 1, 1, 2, 11, 0, 6, 4, 2, 1, 1, 0, 1, 2, 0, 10, 2, 13, 0, 2, 0, 48, 9, 5, 3, 0, 1, 1, 1, 0, 256, 0, 9, 9, 5, 3, 0, 1, 1, 1, 0, 256, 0, 57]), (20, [10, 6], [30, -4001, -1, 0, 0, -2, 0, 0])], [], [], [(20, [2, 6], [50, 3, 1, 157, 11, 10, 1, 2, 7, 0, 3, 2, 0, 157, 1, 1, 2, 7, 0, 2, 1, 1, 2, 0, 11, 3, 11, 0, 6, 4, 2, 1, 1, 0, 1, 2, 0, 11, 2, 7, 1, 3, 2, 0, 11, 1, 1, 2, 11, 0, 6, 4, 2, 1, 1, 0, 1, 2, 0, 10, 2, 13, 0, 2, 0, 48, 9, 5, 3, 0, 1, 1, 1, 0, 256, 0, 9, 9, 5, 3, 0, 1, 1, 1, 0, 256, 0, 57])], [], [(22, 9, 1, 1), (6, 9, -4294967296, 0)])
theorem oo_Mo_styleTokens_172 {kA : Nat → ClassId} : or_ok kA GG o_Mo_styleTokens_172 := by
  intro A ta ws vs hD hth hl hk hds hf
  have hl : vs.length = 23 := hl
  have hk : ∀ q ∈ ([(0, (2, 0, 0, [150])), (2, (2, 0, 0, [150])), (6, (0, 0, 1999, [])), (9, (0, 0, 1999, [])), (10, (0, 0, 4001, [])), (11, (0, 48, 57, [])), (16, (0, 0, 255, [])), (21, (0, 1, 1, [])), (22, (0, 1, 2000, []))] : List (Nat × tv_T)), tv_ok ta q.2 (n_v vs q.1) := hk
  obtain ⟨t0, hk⟩ := List.forall_mem_cons.mp hk
  have t0 : tv_ok ta (2, 0, 0, [150]) (n_v vs 0) := t0
  have r0 : ta (v_ad (n_v vs 0)) = some 150 := tv_rg t0
  obtain ⟨t2, hk⟩ := List.forall_mem_cons.mp hk
  have t2 : tv_ok ta (2, 0, 0, [150]) (n_v vs 2) := t2
  have r2 : ta (v_ad (n_v vs 2)) = some 150 := tv_rg t2
  obtain ⟨t6, hk⟩ := List.forall_mem_cons.mp hk
  have t6 : tv_ok ta (0, 0, 1999, []) (n_v vs 6) := t6
  have k6 : 0 ≤ v_iv (n_v vs 6) ∧ v_iv (n_v vs 6) ≤ 1999 := tv_rng t6
  obtain ⟨t9, hk⟩ := List.forall_mem_cons.mp hk
  have t9 : tv_ok ta (0, 0, 1999, []) (n_v vs 9) := t9
  have k9 : 0 ≤ v_iv (n_v vs 9) ∧ v_iv (n_v vs 9) ≤ 1999 := tv_rng t9
  obtain ⟨t10, hk⟩ := List.forall_mem_cons.mp hk
  have t10 : tv_ok ta (0, 0, 4001, []) (n_v vs 10) := t10
  have k10 : 0 ≤ v_iv (n_v vs 10) ∧ v_iv (n_v vs 10) ≤ 4001 := tv_rng t10
  obtain ⟨t11, hk⟩ := List.forall_mem_cons.mp hk
  have t11 : tv_ok ta (0, 48, 57, []) (n_v vs 11) := t11
  have k11 : 48 ≤ v_iv (n_v vs 11) ∧ v_iv (n_v vs 11) ≤ 57 := tv_rng t11
  obtain ⟨t16, hk⟩ := List.forall_mem_cons.mp hk
  have t16 : tv_ok ta (0, 0, 255, []) (n_v vs 16) := t16
  have k16 : 0 ≤ v_iv (n_v vs 16) ∧ v_iv (n_v vs 16) ≤ 255 := tv_rng t16
  obtain ⟨t21, hk⟩ := List.forall_mem_cons.mp hk
  have t21 : tv_ok ta (0, 1, 1, []) (n_v vs 21) := t21
  have k21 : 1 ≤ v_iv (n_v vs 21) ∧ v_iv (n_v vs 21) ≤ 1 := tv_rng t21
  obtain ⟨t22, hk⟩ := List.forall_mem_cons.mp hk
  have t22 : tv_ok ta (0, 1, 2000, []) (n_v vs 22) := t22
  have k22 : 1 ≤ v_iv (n_v vs 22) ∧ v_iv (n_v vs 22) ≤ 2000 := tv_rng t22
  have hds : ∀ q ∈ ([(22, 9, 1, 1), (6, 9, -4294967296, 0)] : List of_T), n_iv vs q.2.1 + q.2.2.1 ≤ n_iv vs q.1 ∧ n_iv vs q.1 ≤ n_iv vs q.2.1 + q.2.2.2 := hds
  obtain ⟨d0, hds⟩ := List.forall_mem_cons.mp hds
  have d0 : v_iv (n_v vs 9) + 1 ≤ v_iv (n_v vs 22) ∧ v_iv (n_v vs 22) ≤ v_iv (n_v vs 9) + 1 := d0
  obtain ⟨d1, hds⟩ := List.forall_mem_cons.mp hds
  have d1 : v_iv (n_v vs 9) + (-4294967296) ≤ v_iv (n_v vs 6) ∧ v_iv (n_v vs 6) ≤ v_iv (n_v vs 9) + 0 := d1
  have hf : fc_ok [(20, [9, 2, 16], [50, 1, 1, 1010, 1001, 4, 11, 0, 6, 4, 2, 1, 0, 0, 1, 2, 1, 10, 1, 2, 1, 2, 9, 5, 3, 1, 1, 1, 0, 0, 256]), (20, [2, 9, 16], [50, 1, 0, 10, 4, 7, 0, 3, 2, 0, 10, 1, 1, 1, 2, 1, 2, 0, -1]), (20, [9, 2, 11], [50, 1, 1, 1010, 1001, 4, 11, 0, 6, 4, 2, 1, 0, 0, 1, 2, 1, 10, 1, 2, 1, 2, 9, 5, 3, 1, 1, 1, 0, 0, 256]), (20, [2, 9, 11], [50, 1, 0, 10, 4, 7, 0, 3, 2, 0, 10, 1, 1, 1, 2, 1, 2, 0, -1]), (20, [10, 6], [30, -4001, -1, 0, 0, -2, 0, 0]), (24, [0, 2], []), (101, [2, 22], [11]), (1, [22, 9, 21], []), (9, [9, 2], [11]), (20, [9, 2, 16], [50, 1, 1, 1010, 1001, 4, 11, 0, 6, 4, 2, 1, 0, 0, 1, 2, 1, 10, 1, 2, 1, 2, 9, 5, 3, 1, 1, 1, 0, 0, 256]), (20, [2, 9, 16], [50, 1, 0, 10, 4, 7, 0, 3, 2, 0, 10, 1, 1, 1, 2, 1, 2, 0, -1]), (20, [9, 2, 11], [50, 1, 1, 1010, 1001, 4, 11, 0, 6, 4, 2, 1, 0, 0, 1, 2, 1, 10, 1, 2, 1, 2, 9, 5, 3, 1, 1, 1, 0, 0, 256]), (20, [2, 9, 11], [50, 1, 0, 10, 4, 7, 0, 3, 2, 0, 10, 1, 1, 1, 2, 1, 2, 0, -1]), (20, [2, 6], [50, 3, 1, 157, 11, 10, 1, 2, 7, 0, 3, 2, 0, 157, 1, 1, 2, 7, 0, 2, 1, 1, 2, 0, 11, 3, 11, 0, 6, 4, 2, 1, 1, 0, 1, 2, 0, 11, 2, 7, 1, 3, 2, 0, 11, 1, 1, 2, 11, 0, 6, 4, 2, 1, 1, 0, 1, 2, 0, 10, 2, 13, 0, 2, 0, 48, 9, 5, 3, 0, 1, 1, 1, 0, 256, 0, 9, 9, 5, 3, 0, 1, 1, 1, 0, 256, 0, 57]), (20, [10, 6], [30, -4001, -1, 0, 0, -2, 0, 0])] ta ws vs := hf
  obtain ⟨f0, hf⟩ := fc_un (by decide) hf
  have f0 : ((v_iv (n_v vs 9) + 1) ≤ w_fi ws (n_v vs 2) 10) → (v_iv (n_v vs 16) = (w_ei ws (w_ar ws (n_v vs 2) 1) (v_iv (n_v vs 9)) % 256)) := f0
  obtain ⟨f1, hf⟩ := fc_un (by decide) hf
  have f1 : (w_fi ws (n_v vs 2) 10 ≤ v_iv (n_v vs 9)) → (v_iv (n_v vs 16) = (-1)) := f1
  obtain ⟨f2, hf⟩ := fc_un (by decide) hf
  have f2 : ((v_iv (n_v vs 9) + 1) ≤ w_fi ws (n_v vs 2) 10) → (v_iv (n_v vs 11) = (w_ei ws (w_ar ws (n_v vs 2) 1) (v_iv (n_v vs 9)) % 256)) := f2
  obtain ⟨f3, hf⟩ := fc_un (by decide) hf
  have f3 : (w_fi ws (n_v vs 2) 10 ≤ v_iv (n_v vs 9)) → (v_iv (n_v vs 11) = (-1)) := f3
  obtain ⟨f4, hf⟩ := fc_un (by decide) hf
  have f4 : (-1) * v_iv (n_v vs 10) + ((-2) * v_iv (n_v vs 6) + 0) ≤ (-4001) := f4
  obtain ⟨f5, hf⟩ := fc_un (by decide) hf
  have f5 : n_v vs 0 = n_v vs 2 := f5
  obtain ⟨ta1, w1, le1, ⟨_, s1⟩, hf⟩ := fc_us (by decide) hf
  have s1 : (∀ b j, w_el ws b j = w_el w1 b j) ∧ ∀ b j, w_fd ws b j = if b = v_ad (n_v vs 2) ∧ j = 11 then n_v vs 22 else w_fd w1 b j := s1
  obtain ⟨f7, hf⟩ := fc_un (by decide) hf
  have f7 : v_iv (n_v vs 22) = v_iv (n_v vs 9) + v_iv (n_v vs 21) := f7
  obtain ⟨f8, hf⟩ := fc_un (by decide) hf
  have f8 : n_v vs 9 = w_fd w1 (v_ad (n_v vs 2)) 11 := f8
  obtain ⟨f9, hf⟩ := fc_un (by decide) hf
  have f9 : ((v_iv (n_v vs 9) + 1) ≤ w_fi w1 (n_v vs 2) 10) → (v_iv (n_v vs 16) = (w_ei w1 (w_ar w1 (n_v vs 2) 1) (v_iv (n_v vs 9)) % 256)) := f9
  obtain ⟨f10, hf⟩ := fc_un (by decide) hf
  have f10 : (w_fi w1 (n_v vs 2) 10 ≤ v_iv (n_v vs 9)) → (v_iv (n_v vs 16) = (-1)) := f10
  obtain ⟨f11, hf⟩ := fc_un (by decide) hf
  have f11 : ((v_iv (n_v vs 9) + 1) ≤ w_fi w1 (n_v vs 2) 10) → (v_iv (n_v vs 11) = (w_ei w1 (w_ar w1 (n_v vs 2) 1) (v_iv (n_v vs 9)) % 256)) := f11
  obtain ⟨f12, hf⟩ := fc_un (by decide) hf
  have f12 : (w_fi w1 (n_v vs 2) 10 ≤ v_iv (n_v vs 9)) → (v_iv (n_v vs 11) = (-1)) := f12
  obtain ⟨f13, hf⟩ := fc_un (by decide) hf
  have f13 : (w_fi w1 (n_v vs 2) 157 ≤ v_iv (n_v vs 6)) ∧ ((v_iv (n_v vs 6) ≤ w_fi w1 (n_v vs 2) 11) ∧ (((v_iv (n_v vs 6) + 1) ≤ w_fi w1 (n_v vs 2) 11) ∨ ((w_fi w1 (n_v vs 2) 11 = v_iv (n_v vs 6)) ∧ (((v_iv (n_v vs 6) + 1) ≤ w_fi w1 (n_v vs 2) 10) ∧ ((48 ≤ (w_ei w1 (w_ar w1 (n_v vs 2) 1) (v_iv (n_v vs 6)) % 256)) ∧ ((w_ei w1 (w_ar w1 (n_v vs 2) 1) (v_iv (n_v vs 6)) % 256) ≤ 57)))))) := f13
  obtain ⟨f14, hf⟩ := fc_un (by decide) hf
  have f14 : (-1) * v_iv (n_v vs 10) + ((-2) * v_iv (n_v vs 6) + 0) ≤ (-4001) := f14
  have q2 : n_v vs 2 = n_v vs 0 := f5.symm
  rw [q2] at f0
  rw [q2] at f1
  rw [q2] at f2
  rw [q2] at f3
  rw [q2] at s1
  rw [q2] at f8
  rw [q2] at f9
  rw [q2] at f10
  rw [q2] at f11
  rw [q2] at f12
  rw [q2] at f13
  have ar_0_1_1 : w_ar w1 (n_v vs 0) 1 = w_ar ws (n_v vs 0) 1 := by show v_ad (w_fd w1 _ _) = v_ad (w_fd ws _ _); rw [s1.2, if_neg (fun e => absurd e.2 (by decide))]
  have cr_0_1 : ta (w_ar ws (n_v vs 0) 1) = some 151 := tv_rg (th_fd hD hth r0 (g := GG_150) rfl (k := 1) (t := (2, 0, 0, [151])) rfl rfl)
  have g8 : v_iv (n_v vs 9) = w_fi w1 (n_v vs 0) 11 := congrArg v_iv f8
  rw [ar_0_1_1] at f9
  rw [ar_0_1_1] at f11
  rw [ar_0_1_1] at f13
  have fe_0_10_1 : w_fi ws (n_v vs 0) 10 = w_fi w1 (n_v vs 0) 10 := by show v_iv (w_fd _ _ _) = v_iv (w_fd _ _ _); rw [s1.2, if_neg (fun e => absurd e.2 (by decide))]
  have fe_0_11_1 : w_fi ws (n_v vs 0) 11 = v_iv (n_v vs 22) := by show v_iv (w_fd _ _ _) = _; rw [s1.2, if_pos ⟨rfl, rfl⟩]
  have fe_0_157_1 : w_fi ws (n_v vs 0) 157 = w_fi w1 (n_v vs 0) 157 := by show v_iv (w_fd _ _ _) = v_iv (w_fd _ _ _); rw [s1.2, if_neg (fun e => absurd e.2 (by decide))]
  have hE_0_1_1 : ∀ j : Int, w_ei ws (w_ar ws (n_v vs 0) 1) j = w_ei w1 (w_ar ws (n_v vs 0) 1) j := fun j => s1.1 _ _
  have hK_0_1 : ∀ j : Int, 0 ≤ j → j < 2000 → (-128) ≤ w_ei ws (w_ar ws (n_v vs 0) 1) j ∧ w_ei ws (w_ar ws (n_v vs 0) 1) j ≤ 127 := fun j h0 h1 => th_el hD hth cr_0_1 (kd := 1) (n := 2000) (m := 2000) (lo := (-128)) (hi := 127) (rs := []) (L := []) rfl (by decide) (j := j.toNat) (by omega)
  have kz_0_10 : 0 ≤ w_fi ws (n_v vs 0) 10 ∧ w_fi ws (n_v vs 0) 10 ≤ 2000 := tv_rng (th_fd hD hth r0 (g := GG_150) rfl (k := 10) (t := (0, 0, 2000, [])) rfl rfl)
  have kz_0_11 : 0 ≤ w_fi ws (n_v vs 0) 11 ∧ w_fi ws (n_v vs 0) 11 ≤ 2000 := tv_rng (th_fd hD hth r0 (g := GG_150) rfl (k := 11) (t := (0, 0, 2000, [])) rfl rfl)
  have kz_0_157 : 0 ≤ w_fi ws (n_v vs 0) 157 ∧ w_fi ws (n_v vs 0) 157 ≤ 2010 := tv_rng (th_fd hD hth r0 (g := GG_150) rfl (k := 157) (t := (0, 0, 2010, [])) rfl rfl)
  have nf0 : fc_1 (20, [2, 6], [50, 3, 1, 157, 11, 10, 1, 2, 7, 0, 3, 2, 0, 157, 1, 1, 2, 7, 0, 2, 1, 1, 2, 0, 11, 3, 11, 0, 6, 4, 2, 1, 1, 0, 1, 2, 0, 11, 2, 7, 1, 3, 2, 0, 11, 1, 1, 2, 11, 0, 6, 4, 2, 1, 1, 0, 1, 2, 0, 10, 2, 13, 0, 2, 0, 48, 9, 5, 3, 0, 1, 1, 1, 0, 256, 0, 9, 9, 5, 3, 0, 1, 1, 1, 0, 256, 0, 57]) ws (vs) := by
    refine ⟨fun n hn => ?_, ?_⟩
    · have hn : n ∈ [2, 6] := hn
      rw [hl]
      simp only [List.mem_cons, List.not_mem_nil, or_false] at hn
      show n < 23; omega
    · show (w_fi ws (n_v vs 2) 157 ≤ v_iv (n_v vs 6)) ∧ ((v_iv (n_v vs 6) ≤ w_fi ws (n_v vs 2) 11) ∧ (((v_iv (n_v vs 6) + 1) ≤ w_fi ws (n_v vs 2) 11) ∨ ((w_fi ws (n_v vs 2) 11 = v_iv (n_v vs 6)) ∧ (((v_iv (n_v vs 6) + 1) ≤ w_fi ws (n_v vs 2) 10) ∧ ((48 ≤ (w_ei ws (w_ar ws (n_v vs 2) 1) (v_iv (n_v vs 6)) % 256)) ∧ ((w_ei ws (w_ar ws (n_v vs 2) 1) (v_iv (n_v vs 6)) % 256) ≤ 57))))))
      rw [q2]
      first | omega | grind
  refine ⟨(fun _ h => (by cases h)), [], trivial, ?_, (fun _ h => (by cases h))⟩
  rw [List.append_nil]
  exact List.forall_mem_cons.mpr ⟨⟨by decide, nf0⟩, (fun _ h => (by cases h))⟩
def o_Mo_styleTokens_173 : or_T := (166, 16, [(0, (2, 0, 0, [150])), (2, (2, 0, 0, [150])), (6, (0, 0, 1999, [])), (9, (0, 0, 1999, [])), (10, (0, 0, 4001, [])), (11, (0, 48, 57, [])), (14, (0, 1, 1, [])), (15, (0, 1, 2000, []))], [(20, [9, 2, 11], [50, 1, 1, 1010, 1001, 4, 11, 0, 6, 4, 2, 1, 0, 0, 1, 2, 1, 10, 1, 2, 1, 2, 9, 5, 3, 1, 1, 1, 0, 0, 256]), (20, [2, 9, 11], [50, 1, 0, 10, 4, 7, 0, 3, 2, 0, 10, 1, 1, 1, 2, 1, 2, 0, -1]), (20, [10, 6], [30, -4001, -1, 0, 0, -2, 0, 0]), (24, [0, 2], []), (101, [2, 15], [11]), (1, [15, 9, 14], []), (9, [9, 2], [11]), (20, [9, 2, 11], [50, 1, 1, 1010, 1001, 4, 11, 0, 6, 4, 2, 1, 0, 0, 1, 2, 1, 10, 1, 2, 1, 2, 9, 5, 3, 1, 1, 1, 0, 0, 256]), (20, [2, 9, 11], [50, 1, 0, 10, 4, 7, 0, 3, 2, 0, 10, 1, 1, 1, 2, 1, 2, 0, -1]), (20, [2, 6], [50, 3, 1, 157, 11, 10, 1, 2, 7, 0, 3, 2, 0, 157, 1, 1, 2, 7, 0, 2, 1, 1, 2, 0, 11, 3, 11, 0, 6, 4, 2, 1, 1, 0, 1, 2, 0, 11, 2, 7, 1, 3, 2, 0, 11, 1, 1, 2, 11, 0, 6, 4, 2, 1, 1, 0, 1, 2, 0, 10, 2, 13, 0, 2, 0, 48, 9, 5, 3, 0, 1, 1, 1, 0, 256, 0, 9, 9, 5, 3, 0, 1, 1, 1, 0, 256, 0, 57]), (20, [10, 6], [30, -4001, -1, 0, 0, -2, 0, 0])], [], [], [(20, [2, 6], [50, 3, 1, 157, 11, 10, 1, 2, 7, 0, 3, 2, 0, 157, 1, 1, 2, 7, 0, 2, 1, 1, 2, 0, 11, 3, 11, 0, 6, 4, 2, 1, 1, 0, 1, 2, 0, 11, 2, 7, 1, 3, 2, 0, 11, 1, 1, 2, 11, 0, 6, 4, 2, 1, 1, 0, 1, 2, 0, 10, 2, 13, 0, 2, 0, 48, 9, 5, 3, 0, 1, 1, 1, 0, 256, 0, 9, 9, 5, 3, 0, 1, 1, 1, 0, 256, 0, 57])], [], [(15, 9, 1, 1), (6, 9, -4294967296, 0)])
theorem oo_Mo_styleTokens_173 {kA : Nat → ClassId} : or_ok kA GG o_Mo_styleTokens_173 := by
  intro A ta ws vs hD hth hl hk hds hf
  have hl : vs.length = 16 := hl
  have hk : ∀ q ∈ ([(0, (2, 0, 0, [150])), (2, (2, 0, 0, [150])), (6, (0, 0, 1999, [])), (9, (0, 0, 1999, [])), (10, (0, 0, 4001, [])), (11, (0, 48, 57, [])), (14, (0, 1, 1, [])), (15, (0, 1, 2000, []))] : List (Nat × tv_T)), tv_ok ta q.2 (n_v vs q.1) := hk
  obtain ⟨t0, hk⟩ := List.forall_mem_cons.mp hk
  have t0 : tv_ok ta (2, 0, 0, [150]) (n_v vs 0) := t0
  have r0 : ta (v_ad (n_v vs 0)) = some 150 := tv_rg t0
  obtain ⟨t2, hk⟩ := List.forall_mem_cons.mp hk
  have t2 : tv_ok ta (2, 0, 0, [150]) (n_v vs 2) := t2
  have r2 : ta (v_ad (n_v vs 2)) = some 150 := tv_rg t2
  obtain ⟨t6, hk⟩ := List.forall_mem_cons.mp hk
  have t6 : tv_ok ta (0, 0, 1999, []) (n_v vs 6) := t6
  have k6 : 0 ≤ v_iv (n_v vs 6) ∧ v_iv (n_v vs 6) ≤ 1999 := tv_rng t6
  obtain ⟨t9, hk⟩ := List.forall_mem_cons.mp hk
  have t9 : tv_ok ta (0, 0, 1999, []) (n_v vs 9) := t9
  have k9 : 0 ≤ v_iv (n_v vs 9) ∧ v_iv (n_v vs 9) ≤ 1999 := tv_rng t9
  obtain ⟨t10, hk⟩ := List.forall_mem_cons.mp hk
  have t10 : tv_ok ta (0, 0, 4001, []) (n_v vs 10) := t10
  have k10 : 0 ≤ v_iv (n_v vs 10) ∧ v_iv (n_v vs 10) ≤ 4001 := tv_rng t10
  obtain ⟨t11, hk⟩ := List.forall_mem_cons.mp hk
  have t11 : tv_ok ta (0, 48, 57, []) (n_v vs 11) := t11
  have k11 : 48 ≤ v_iv (n_v vs 11) ∧ v_iv (n_v vs 11) ≤ 57 := tv_rng t11
  obtain ⟨t14, hk⟩ := List.forall_mem_cons.mp hk
  have t14 : tv_ok ta (0, 1, 1, []) (n_v vs 14) := t14
  have k14 : 1 ≤ v_iv (n_v vs 14) ∧ v_iv (n_v vs 14) ≤ 1 := tv_rng t14
  obtain ⟨t15, hk⟩ := List.forall_mem_cons.mp hk
  have t15 : tv_ok ta (0, 1, 2000, []) (n_v vs 15) := t15
  have k15 : 1 ≤ v_iv (n_v vs 15) ∧ v_iv (n_v vs 15) ≤ 2000 := tv_rng t15
  have hds : ∀ q ∈ ([(15, 9, 1, 1), (6, 9, -4294967296, 0)] : List of_T), n_iv vs q.2.1 + q.2.2.1 ≤ n_iv vs q.1 ∧ n_iv vs q.1 ≤ n_iv vs q.2.1 + q.2.2.2 := hds
  obtain ⟨d0, hds⟩ := List.forall_mem_cons.mp hds
  have d0 : v_iv (n_v vs 9) + 1 ≤ v_iv (n_v vs 15) ∧ v_iv (n_v vs 15) ≤ v_iv (n_v vs 9) + 1 := d0
  obtain ⟨d1, hds⟩ := List.forall_mem_cons.mp hds
  have d1 : v_iv (n_v vs 9) + (-4294967296) ≤ v_iv (n_v vs 6) ∧ v_iv (n_v vs 6) ≤ v_iv (n_v vs 9) + 0 := d1
  have hf : fc_ok [(20, [9, 2, 11], [50, 1, 1, 1010, 1001, 4, 11, 0, 6, 4, 2, 1, 0, 0, 1, 2, 1, 10, 1, 2, 1, 2, 9, 5, 3, 1, 1, 1, 0, 0, 256]), (20, [2, 9, 11], [50, 1, 0, 10, 4, 7, 0, 3, 2, 0, 10, 1, 1, 1, 2, 1, 2, 0, -1]), (20, [10, 6], [30, -4001, -1, 0, 0, -2, 0, 0]), (24, [0, 2], []), (101, [2, 15], [11]), (1, [15, 9, 14], []), (9, [9, 2], [11]), (20, [9, 2, 11], [50, 1, 1, 1010, 1001, 4, 11, 0, 6, 4, 2, 1, 0, 0, 1, 2, 1, 10, 1, 2, 1, 2, 9, 5, 3, 1, 1, 1, 0, 0, 256]), (20, [2, 9, 11], [50, 1, 0, 10, 4, 7, 0, 3, 2, 0, 10, 1, 1, 1, 2, 1, 2, 0, -1]), (20, [2, 6], [50, 3, 1, 157, 11, 10, 1, 2, 7, 0, 3, 2, 0, 157, 1, 1, 2, 7, 0, 2, 1, 1, 2, 0, 11, 3, 11, 0, 6, 4, 2, 1, 1, 0, 1, 2, 0, 11, 2, 7, 1, 3, 2, 0, 11, 1, 1, 2, 11, 0, 6, 4, 2, 1, 1, 0, 1, 2, 0, 10, 2, 13, 0, 2, 0, 48, 9, 5, 3, 0, 1, 1, 1, 0, 256, 0, 9, 9, 5, 3, 0, 1, 1, 1, 0, 256, 0, 57]), (20, [10, 6], [30, -4001, -1, 0, 0, -2, 0, 0])] ta ws vs := hf
  obtain ⟨f0, hf⟩ := fc_un (by decide) hf
  have f0 : ((v_iv (n_v vs 9) + 1) ≤ w_fi ws (n_v vs 2) 10) → (v_iv (n_v vs 11) = (w_ei ws (w_ar ws (n_v vs 2) 1) (v_iv (n_v vs 9)) % 256)) := f0
  obtain ⟨f1, hf⟩ := fc_un (by decide) hf
  have f1 : (w_fi ws (n_v vs 2) 10 ≤ v_iv (n_v vs 9)) → (v_iv (n_v vs 11) = (-1)) := f1
  obtain ⟨f2, hf⟩ := fc_un (by decide) hf
  have f2 : (-1) * v_iv (n_v vs 10) + ((-2) * v_iv (n_v vs 6) + 0) ≤ (-4001) := f2
  obtain ⟨f3, hf⟩ := fc_un (by decide) hf
  have f3 : n_v vs 0 = n_v vs 2 := f3
  obtain ⟨ta1, w1, le1, ⟨_, s1⟩, hf⟩ := fc_us (by decide) hf
  have s1 : (∀ b j, w_el ws b j = w_el w1 b j) ∧ ∀ b j, w_fd ws b j = if b = v_ad (n_v vs 2) ∧ j = 11 then n_v vs 15 else w_fd w1 b j := s1
  obtain ⟨f5, hf⟩ := fc_un (by decide) hf
  have f5 : v_iv (n_v vs 15) = v_iv (n_v vs 9) + v_iv (n_v vs 14) := f5
  obtain ⟨f6, hf⟩ := fc_un (by decide) hf
  have f6 : n_v vs 9 = w_fd w1 (v_ad (n_v vs 2)) 11 := f6
  obtain ⟨f7, hf⟩ := fc_un (by decide) hf
  have f7 : ((v_iv (n_v vs 9) + 1) ≤ w_fi w1 (n_v vs 2) 10) → (v_iv (n_v vs 11) = (w_ei w1 (w_ar w1 (n_v vs 2) 1) (v_iv (n_v vs 9)) % 256)) := f7
  obtain ⟨f8, hf⟩ := fc_un (by decide) hf
  have f8 : (w_fi w1 (n_v vs 2) 10 ≤ v_iv (n_v vs 9)) → (v_iv (n_v vs 11) = (-1)) := f8
  obtain ⟨f9, hf⟩ := fc_un (by decide) hf
  have f9 : (w_fi w1 (n_v vs 2) 157 ≤ v_iv (n_v vs 6)) ∧ ((v_iv (n_v vs 6) ≤ w_fi w1 (n_v vs 2) 11) ∧ (((v_iv (n_v vs 6) + 1) ≤ w_fi w1 (n_v vs 2) 11) ∨ ((w_fi w1 (n_v vs 2) 11 = v_iv (n_v vs 6)) ∧ (((v_iv (n_v vs 6) + 1) ≤ w_fi w1 (n_v vs 2) 10) ∧ ((48 ≤ (w_ei w1 (w_ar w1 (n_v vs 2) 1) (v_iv (n_v vs 6)) % 256)) ∧ ((w_ei w1 (w_ar w1 (n_v vs 2) 1) (v_iv (n_v vs 6)) % 256) ≤ 57)))))) := f9
  obtain ⟨f10, hf⟩ := fc_un (by decide) hf
  have f10 : (-1) * v_iv (n_v vs 10) + ((-2) * v_iv (n_v vs 6) + 0) ≤ (-4001) := f10
  have q2 : n_v vs 2 = n_v vs 0 := f3.symm
  rw [q2] at f0
  rw [q2] at f1
  rw [q2] at s1
  rw [q2] at f6
  rw [q2] at f7
  rw [q2] at f8
  rw [q2] at f9
  have ar_0_1_1 : w_ar w1 (n_v vs 0) 1 = w_ar ws (n_v vs 0) 1 := by show v_ad (w_fd w1 _ _) = v_ad (w_fd ws _ _); rw [s1.2, if_neg (fun e => absurd e.2 (by decide))]
  have cr_0_1 : ta (w_ar ws (n_v vs 0) 1) = some 151 := tv_rg (th_fd hD hth r0 (g := GG_150) rfl (k := 1) (t := (2, 0, 0, [151])) rfl rfl)
  have g6 : v_iv (n_v vs 9) = w_fi w1 (n_v vs 0) 11 := congrArg v_iv f6
  rw [ar_0_1_1] at f7
  rw [ar_0_1_1] at f9
  have fe_0_10_1 : w_fi ws (n_v vs 0) 10 = w_fi w1 (n_v vs 0) 10 := by show v_iv (w_fd _ _ _) = v_iv (w_fd _ _ _); rw [s1.2, if_neg (fun e => absurd e.2 (by decide))]
  have fe_0_11_1 : w_fi ws (n_v vs 0) 11 = v_iv (n_v vs 15) := by show v_iv (w_fd _ _ _) = _; rw [s1.2, if_pos ⟨rfl, rfl⟩]
  have fe_0_157_1 : w_fi ws (n_v vs 0) 157 = w_fi w1 (n_v vs 0) 157 := by show v_iv (w_fd _ _ _) = v_iv (w_fd _ _ _); rw [s1.2, if_neg (fun e => absurd e.2 (by decide))]
  have hE_0_1_1 : ∀ j : Int, w_ei ws (w_ar ws (n_v vs 0) 1) j = w_ei w1 (w_ar ws (n_v vs 0) 1) j := fun j => s1.1 _ _
  have hK_0_1 : ∀ j : Int, 0 ≤ j → j < 2000 → (-128) ≤ w_ei ws (w_ar ws (n_v vs 0) 1) j ∧ w_ei ws (w_ar ws (n_v vs 0) 1) j ≤ 127 := fun j h0 h1 => th_el hD hth cr_0_1 (kd := 1) (n := 2000) (m := 2000) (lo := (-128)) (hi := 127) (rs := []) (L := []) rfl (by decide) (j := j.toNat) (by omega)
  have kz_0_10 : 0 ≤ w_fi ws (n_v vs 0) 10 ∧ w_fi ws (n_v vs 0) 10 ≤ 2000 := tv_rng (th_fd hD hth r0 (g := GG_150) rfl (k := 10) (t := (0, 0, 2000, [])) rfl rfl)
  have kz_0_11 : 0 ≤ w_fi ws (n_v vs 0) 11 ∧ w_fi ws (n_v vs 0) 11 ≤ 2000 := tv_rng (th_fd hD hth r0 (g := GG_150) rfl (k := 11) (t := (0, 0, 2000, [])) rfl rfl)
  have kz_0_157 : 0 ≤ w_fi ws (n_v vs 0) 157 ∧ w_fi ws (n_v vs 0) 157 ≤ 2010 := tv_rng (th_fd hD hth r0 (g := GG_150) rfl (k := 157) (t := (0, 0, 2010, [])) rfl rfl)
  have nf0 : fc_1 (20, [2, 6], [50, 3, 1, 157, 11, 10, 1, 2, 7, 0, 3, 2, 0, 157, 1, 1, 2, 7, 0, 2, 1, 1, 2, 0, 11, 3, 11, 0, 6, 4, 2, 1, 1, 0, 1, 2, 0, 11, 2, 7, 1, 3, 2, 0, 11, 1, 1, 2, 11, 0, 6, 4, 2, 1, 1, 0, 1, 2, 0, 10, 2, 13, 0, 2, 0, 48, 9, 5, 3, 0, 1, 1, 1, 0, 256, 0, 9, 9, 5, 3, 0, 1, 1, 1, 0, 256, 0, 57]) ws (vs) := by
    refine ⟨fun n hn => ?_, ?_⟩
    · have hn : n ∈ [2, 6] := hn
      rw [hl]
      simp only [List.mem_cons, List.not_mem_nil, or_false] at hn
      show n < 16; omega
    · show (w_fi ws (n_v vs 2) 157 ≤ v_iv (n_v vs 6)) ∧ ((v_iv (n_v vs 6) ≤ w_fi ws (n_v vs 2) 11) ∧ (((v_iv (n_v vs 6) + 1) ≤ w_fi ws (n_v vs 2) 11) ∨ ((w_fi ws (n_v vs 2) 11 = v_iv (n_v vs 6)) ∧ (((v_iv (n_v vs 6) + 1) ≤ w_fi ws (n_v vs 2) 10) ∧ ((48 ≤ (w_ei ws (w_ar ws (n_v vs 2) 1) (v_iv (n_v vs 6)) % 256)) ∧ ((w_ei ws (w_ar ws (n_v vs 2) 1) (v_iv (n_v vs 6)) % 256) ≤ 57))))))
      rw [q2]
      first | omega | grind
  refine ⟨(fun _ h => (by cases h)), [], trivial, ?_, (fun _ h => (by cases h))⟩
  rw [List.append_nil]
  exact List.forall_mem_cons.mpr ⟨⟨by decide, nf0⟩, (fun _ h => (by cases h))⟩
def o_Mo_styleTokens_174 : or_T := (363, 15, [(0, (2, 0, 0, [150])), (2, (2, 0, 0, [150])), (6, (0, 0, 1999, [])), (10, (0, 0, 1999, [])), (11, (0, 0, 4001, [])), (12, (0, 4, 4, [])), (13, (0, 1, 1, [])), (14, (0, 1, 2000, []))], [(20, [11, 6], [30, -4001, -1, 0, 0, -2, 0, 0]), (24, [0, 2], []), (101, [2, 14], [11]), (1, [14, 10, 13], []), (9, [10, 2], [11]), (20, [2, 6], [50, 2, 0, 157, 11, 2, 7, 0, 3, 2, 0, 157, 1, 1, 1, 3, 2, 0, 11, 1, 1]), (20, [11, 6], [30, -4001, -1, 0, 0, -2, 0, 0])], [], [(0, 0, 4001, [])], [(20, [2, 6, 12], [50, 2, 0, 157, 11, 2, 7, 0, 3, 2, 0, 157, 1, 1, 2, 7, 0, 2, 1, 1, 2, 0, 11, 3, 6, 1, 2, 1, 2, 0, 0, 3, 6, 1, 2, 1, 2, 0, 4, 0, 6, 4, 2, 1, 1, 0, 1, 2, 0, 11]), (20, [15, 6], [30, -4001, -1, 0, 0, -2, 0, 0]), (24, [0, 2], [])], [(15, 11, 0, 0)], [(14, 10, 1, 1), (14, 6, -4294967296, 1), (6, 10, -4294967296, 0), (10, 6, -4294967296, 0)])
theorem oo_Mo_styleTokens_174 {kA : Nat → ClassId} : or_ok kA GG o_Mo_styleTokens_174 := by
  intro A ta ws vs hD hth hl hk hds hf
  have hl : vs.length = 15 := hl
  have hk : ∀ q ∈ ([(0, (2, 0, 0, [150])), (2, (2, 0, 0, [150])), (6, (0, 0, 1999, [])), (10, (0, 0, 1999, [])), (11, (0, 0, 4001, [])), (12, (0, 4, 4, [])), (13, (0, 1, 1, [])), (14, (0, 1, 2000, []))] : List (Nat × tv_T)), tv_ok ta q.2 (n_v vs q.1) := hk
  obtain ⟨t0, hk⟩ := List.forall_mem_cons.mp hk
  have t0 : tv_ok ta (2, 0, 0, [150]) (n_v vs 0) := t0
  have r0 : ta (v_ad (n_v vs 0)) = some 150 := tv_rg t0
  obtain ⟨t2, hk⟩ := List.forall_mem_cons.mp hk
  have t2 : tv_ok ta (2, 0, 0, [150]) (n_v vs 2) := t2
  have r2 : ta (v_ad (n_v vs 2)) = some 150 := tv_rg t2
  obtain ⟨t6, hk⟩ := List.forall_mem_cons.mp hk
  have t6 : tv_ok ta (0, 0, 1999, []) (n_v vs 6) := t6
  have k6 : 0 ≤ v_iv (n_v vs 6) ∧ v_iv (n_v vs 6) ≤ 1999 := tv_rng t6
  obtain ⟨t10, hk⟩ := List.forall_mem_cons.mp hk
  have t10 : tv_ok ta (0, 0, 1999, []) (n_v vs 10) := t10
  have k10 : 0 ≤ v_iv (n_v vs 10) ∧ v_iv (n_v vs 10) ≤ 1999 := tv_rng t10
  obtain ⟨t11, hk⟩ := List.forall_mem_cons.mp hk
  have t11 : tv_ok ta (0, 0, 4001, []) (n_v vs 11) := t11
  have k11 : 0 ≤ v_iv (n_v vs 11) ∧ v_iv (n_v vs 11) ≤ 4001 := tv_rng t11
  obtain ⟨t12, hk⟩ := List.forall_mem_cons.mp hk
  have t12 : tv_ok ta (0, 4, 4, []) (n_v vs 12) := t12
  have k12 : 4 ≤ v_iv (n_v vs 12) ∧ v_iv (n_v vs 12) ≤ 4 := tv_rng t12
  obtain ⟨t13, hk⟩ := List.forall_mem_cons.mp hk
  have t13 : tv_ok ta (0, 1, 1, []) (n_v vs 13) := t13
  have k13 : 1 ≤ v_iv (n_v vs 13) ∧ v_iv (n_v vs 13) ≤ 1 := tv_rng t13
  obtain ⟨t14, hk⟩ := List.forall_mem_cons.mp hk
  have t14 : tv_ok ta (0, 1, 2000, []) (n_v vs 14) := t14
  have k14 : 1 ≤ v_iv (n_v vs 14) ∧ v_iv (n_v vs 14) ≤ 2000 := tv_rng t14
  have hds : ∀ q ∈ ([(14, 10, 1, 1), (14, 6, -4294967296, 1), (6, 10, -4294967296, 0), (10, 6, -4294967296, 0)] : List of_T), n_iv vs q.2.1 + q.2.2.1 ≤ n_iv vs q.1 ∧ n_iv vs q.1 ≤ n_iv vs q.2.1 + q.2.2.2 := hds
  obtain ⟨d0, hds⟩ := List.forall_mem_cons.mp hds
  have d0 : v_iv (n_v vs 10) + 1 ≤ v_iv (n_v vs 14) ∧ v_iv (n_v vs 14) ≤ v_iv (n_v vs 10) + 1 := d0
  obtain ⟨d1, hds⟩ := List.forall_mem_cons.mp hds
  have d1 : v_iv (n_v vs 6) + (-4294967296) ≤ v_iv (n_v vs 14) ∧ v_iv (n_v vs 14) ≤ v_iv (n_v vs 6) + 1 := d1
  obtain ⟨d2, hds⟩ := List.forall_mem_cons.mp hds
  have d2 : v_iv (n_v vs 10) + (-4294967296) ≤ v_iv (n_v vs 6) ∧ v_iv (n_v vs 6) ≤ v_iv (n_v vs 10) + 0 := d2
  obtain ⟨d3, hds⟩ := List.forall_mem_cons.mp hds
  have d3 : v_iv (n_v vs 6) + (-4294967296) ≤ v_iv (n_v vs 10) ∧ v_iv (n_v vs 10) ≤ v_iv (n_v vs 6) + 0 := d3
  have hf : fc_ok [(20, [11, 6], [30, -4001, -1, 0, 0, -2, 0, 0]), (24, [0, 2], []), (101, [2, 14], [11]), (1, [14, 10, 13], []), (9, [10, 2], [11]), (20, [2, 6], [50, 2, 0, 157, 11, 2, 7, 0, 3, 2, 0, 157, 1, 1, 1, 3, 2, 0, 11, 1, 1]), (20, [11, 6], [30, -4001, -1, 0, 0, -2, 0, 0])] ta ws vs := hf
  obtain ⟨f0, hf⟩ := fc_un (by decide) hf
  have f0 : (-1) * v_iv (n_v vs 11) + ((-2) * v_iv (n_v vs 6) + 0) ≤ (-4001) := f0
  obtain ⟨f1, hf⟩ := fc_un (by decide) hf
  have f1 : n_v vs 0 = n_v vs 2 := f1
  obtain ⟨ta1, w1, le1, ⟨_, s1⟩, hf⟩ := fc_us (by decide) hf
  have s1 : (∀ b j, w_el ws b j = w_el w1 b j) ∧ ∀ b j, w_fd ws b j = if b = v_ad (n_v vs 2) ∧ j = 11 then n_v vs 14 else w_fd w1 b j := s1
  obtain ⟨f3, hf⟩ := fc_un (by decide) hf
  have f3 : v_iv (n_v vs 14) = v_iv (n_v vs 10) + v_iv (n_v vs 13) := f3
  obtain ⟨f4, hf⟩ := fc_un (by decide) hf
  have f4 : n_v vs 10 = w_fd w1 (v_ad (n_v vs 2)) 11 := f4
  obtain ⟨f5, hf⟩ := fc_un (by decide) hf
  have f5 : (w_fi w1 (n_v vs 2) 157 ≤ v_iv (n_v vs 6)) ∧ (w_fi w1 (n_v vs 2) 11 = v_iv (n_v vs 6)) := f5
  obtain ⟨f6, hf⟩ := fc_un (by decide) hf
  have f6 : (-1) * v_iv (n_v vs 11) + ((-2) * v_iv (n_v vs 6) + 0) ≤ (-4001) := f6
  have q2 : n_v vs 2 = n_v vs 0 := f1.symm
  rw [q2] at s1
  rw [q2] at f4
  rw [q2] at f5
  have g4 : v_iv (n_v vs 10) = w_fi w1 (n_v vs 0) 11 := congrArg v_iv f4
  have fe_0_11_1 : w_fi ws (n_v vs 0) 11 = v_iv (n_v vs 14) := by show v_iv (w_fd _ _ _) = _; rw [s1.2, if_pos ⟨rfl, rfl⟩]
  have fe_0_157_1 : w_fi ws (n_v vs 0) 157 = w_fi w1 (n_v vs 0) 157 := by show v_iv (w_fd _ _ _) = v_iv (w_fd _ _ _); rw [s1.2, if_neg (fun e => absurd e.2 (by decide))]
  have kz_0_11 : 0 ≤ w_fi ws (n_v vs 0) 11 ∧ w_fi ws (n_v vs 0) 11 ≤ 2000 := tv_rng (th_fd hD hth r0 (g := GG_150) rfl (k := 11) (t := (0, 0, 2000, [])) rfl rfl)
  have kz_0_157 : 0 ≤ w_fi ws (n_v vs 0) 157 ∧ w_fi ws (n_v vs 0) 157 ≤ 2010 := tv_rng (th_fd hD hth r0 (g := GG_150) rfl (k := 157) (t := (0, 0, 2010, [])) rfl rfl)
  obtain ⟨x, ex, hx⟩ := iv_ex (ta := ta) (lo := 0) (hi := 4001) (z := 0 + (1 * v_iv (n_v vs 11) + 0)) (by omega) (by omega) (by decide) (by decide)
  have ex2 : v_iv (Value.int x) = 0 + (1 * v_iv (n_v vs 11) + 0) := ex
  have ex3 : 0 ≤ v_iv (Value.int x) ∧ v_iv (Value.int x) ≤ 4001 := tv_rng hx
  have e_0 : n_v (vs ++ [Value.int x]) 0 = n_v vs 0 := n_v_old (by rw [hl]; decide)
  have e_2 : n_v (vs ++ [Value.int x]) 2 = n_v vs 2 := n_v_old (by rw [hl]; decide)
  have e_6 : n_v (vs ++ [Value.int x]) 6 = n_v vs 6 := n_v_old (by rw [hl]; decide)
  have e_12 : n_v (vs ++ [Value.int x]) 12 = n_v vs 12 := n_v_old (by rw [hl]; decide)
  have e_15 : n_v (vs ++ [Value.int x]) 15 = Value.int x := n_v_new hl
  have nf0 : fc_1 (20, [2, 6, 12], [50, 2, 0, 157, 11, 2, 7, 0, 3, 2, 0, 157, 1, 1, 2, 7, 0, 2, 1, 1, 2, 0, 11, 3, 6, 1, 2, 1, 2, 0, 0, 3, 6, 1, 2, 1, 2, 0, 4, 0, 6, 4, 2, 1, 1, 0, 1, 2, 0, 11]) ws (vs ++ [Value.int x]) := by
    refine ⟨fun n hn => ?_, ?_⟩
    · have hn : n ∈ [2, 6, 12] := hn
      rw [List.length_append, hl]
      simp only [List.mem_cons, List.not_mem_nil, or_false] at hn
      show n < 15 + 1; omega
    · show (w_fi ws (n_v (vs ++ [Value.int x]) 2) 157 ≤ v_iv (n_v (vs ++ [Value.int x]) 6)) ∧ ((v_iv (n_v (vs ++ [Value.int x]) 6) ≤ w_fi ws (n_v (vs ++ [Value.int x]) 2) 11) ∧ ((v_iv (n_v (vs ++ [Value.int x]) 12) = 0) ∨ ((v_iv (n_v (vs ++ [Value.int x]) 12) = 4) ∨ ((v_iv (n_v (vs ++ [Value.int x]) 6) + 1) ≤ w_fi ws (n_v (vs ++ [Value.int x]) 2) 11))))
      rw [e_2]
      rw [e_6]
      rw [e_12]
      rw [q2]
      first | omega | grind
  have nf1 : fc_1 (20, [15, 6], [30, -4001, -1, 0, 0, -2, 0, 0]) ws (vs ++ [Value.int x]) := by
    refine ⟨fun n hn => ?_, ?_⟩
    · have hn : n ∈ [15, 6] := hn
      rw [List.length_append, hl]
      simp only [List.mem_cons, List.not_mem_nil, or_false] at hn
      show n < 15 + 1; omega
    · show (-1) * v_iv (n_v (vs ++ [Value.int x]) 15) + ((-2) * v_iv (n_v (vs ++ [Value.int x]) 6) + 0) ≤ (-4001)
      rw [e_6]
      rw [e_15]
      omega
  have nf2 : fc_1 (24, [0, 2], []) ws (vs ++ [Value.int x]) := by
    refine ⟨fun n hn => ?_, ?_⟩
    · have hn : n ∈ [0, 2] := hn
      rw [List.length_append, hl]
      simp only [List.mem_cons, List.not_mem_nil, or_false] at hn
      show n < 15 + 1; omega
    · show n_v (vs ++ [Value.int x]) 0 = n_v (vs ++ [Value.int x]) 2
      first | rfl | simp only [e_0, e_2, q2]
  obtain ⟨x0, e0, _, _⟩ := tv_int t11 rfl
  have e1 : v_iv (n_v vs 11) = x0.toInt := by rw [e0]; rfl
  have ho : sy_ofs (vs ++ [Value.int x]) (15, 11, 0, 0) := by
    refine ⟨x, x0, by rw [List.getElem?_append_right (by rw [hl]; decide), hl]; rfl, ?_, ?_, ?_⟩
    · rw [List.getElem?_append_left (by rw [hl]; decide)]; exact n_v_some (by rw [hl]; decide) e0
    · show x0.toInt + 0 ≤ x.toInt; omega
    · show x.toInt ≤ x0.toInt + 0; omega
  exact ⟨fun q hq => (by cases hq), [Value.int x], ag_one hx, List.forall_mem_cons.mpr ⟨⟨by decide, nf0⟩, List.forall_mem_cons.mpr ⟨⟨by decide, nf1⟩, List.forall_mem_cons.mpr ⟨⟨by decide, nf2⟩, (fun _ h => (by cases h))⟩⟩⟩, List.forall_mem_cons.mpr ⟨ho, (fun _ h => (by cases h))⟩⟩
def o_Mo_styleTokens_175 : or_T := (363, 15, [(0, (2, 0, 0, [150])), (2, (2, 0, 0, [150])), (6, (0, 0, 1999, [])), (10, (0, 0, 1999, [])), (11, (0, 0, 4001, [])), (12, (0, 3, 3, [])), (13, (0, 1, 1, [])), (14, (0, 1, 2000, []))], [(20, [11, 6], [30, -4001, -1, 0, 0, -2, 0, 0]), (24, [0, 2], []), (101, [2, 14], [11]), (1, [14, 10, 13], []), (9, [10, 2], [11]), (20, [2, 6], [50, 2, 0, 157, 11, 2, 7, 0, 3, 2, 0, 157, 1, 1, 1, 3, 2, 0, 11, 1, 1]), (20, [11, 6], [30, -4001, -1, 0, 0, -2, 0, 0])], [], [(0, 0, 4001, [])], [(20, [2, 6, 12], [50, 2, 0, 157, 11, 2, 7, 0, 3, 2, 0, 157, 1, 1, 2, 7, 0, 2, 1, 1, 2, 0, 11, 3, 6, 1, 2, 1, 2, 0, 0, 3, 6, 1, 2, 1, 2, 0, 4, 0, 6, 4, 2, 1, 1, 0, 1, 2, 0, 11]), (20, [15, 6], [30, -4001, -1, 0, 0, -2, 0, 0]), (24, [0, 2], [])], [(15, 11, 0, 0)], [(14, 10, 1, 1), (14, 6, -4294967296, 1), (6, 10, -4294967296, 0), (10, 6, -4294967296, 0)])
theorem oo_Mo_styleTokens_175 {kA : Nat → ClassId} : or_ok kA GG o_Mo_styleTokens_175 := by
  intro A ta ws vs hD hth hl hk hds hf
  have hl : vs.length = 15 := hl
  have hk : ∀ q ∈ ([(0, (2, 0, 0, [150])), (2, (2, 0, 0, [150])), (6, (0, 0, 1999, [])), (10, (0, 0, 1999, [])), (11, (0, 0, 4001, [])), (12, (0, 3, 3, [])), (13, (0, 1, 1, [])), (14, (0, 1, 2000, []))] : List (Nat × tv_T)), tv_ok ta q.2 (n_v vs q.1) := hk
  obtain ⟨t0, hk⟩ := List.forall_mem_cons.mp hk
  have t0 : tv_ok ta (2, 0, 0, [150]) (n_v vs 0) := t0
  have r0 : ta (v_ad (n_v vs 0)) = some 150 := tv_rg t0
  obtain ⟨t2, hk⟩ := List.forall_mem_cons.mp hk
  have t2 : tv_ok ta (2, 0, 0, [150]) (n_v vs 2) := t2
  have r2 : ta (v_ad (n_v vs 2)) = some 150 := tv_rg t2
  obtain ⟨t6, hk⟩ := List.forall_mem_cons.mp hk
  have t6 : tv_ok ta (0, 0, 1999, []) (n_v vs 6) := t6
  have k6 : 0 ≤ v_iv (n_v vs 6) ∧ v_iv (n_v vs 6) ≤ 1999 := tv_rng t6
  obtain ⟨t10, hk⟩ := List.forall_mem_cons.mp hk
  have t10 : tv_ok ta (0, 0, 1999, []) (n_v vs 10) := t10
  have k10 : 0 ≤ v_iv (n_v vs 10) ∧ v_iv (n_v vs 10) ≤ 1999 := tv_rng t10
  obtain ⟨t11, hk⟩ := List.forall_mem_cons.mp hk
  have t11 : tv_ok ta (0, 0, 4001, []) (n_v vs 11) := t11
  have k11 : 0 ≤ v_iv (n_v vs 11) ∧ v_iv (n_v vs 11) ≤ 4001 := tv_rng t11
  obtain ⟨t12, hk⟩ := List.forall_mem_cons.mp hk
  have t12 : tv_ok ta (0, 3, 3, []) (n_v vs 12) := t12
  have k12 : 3 ≤ v_iv (n_v vs 12) ∧ v_iv (n_v vs 12) ≤ 3 := tv_rng t12
  obtain ⟨t13, hk⟩ := List.forall_mem_cons.mp hk
  have t13 : tv_ok ta (0, 1, 1, []) (n_v vs 13) := t13
  have k13 : 1 ≤ v_iv (n_v vs 13) ∧ v_iv (n_v vs 13) ≤ 1 := tv_rng t13
  obtain ⟨t14, hk⟩ := List.forall_mem_cons.mp hk
  have t14 : tv_ok ta (0, 1, 2000, []) (n_v vs 14) := t14
  have k14 : 1 ≤ v_iv (n_v vs 14) ∧ v_iv (n_v vs 14) ≤ 2000 := tv_rng t14
  have hds : ∀ q ∈ ([(14, 10, 1, 1), (14, 6, -4294967296, 1), (6, 10, -4294967296, 0), (10, 6, -4294967296, 0)] : List of_T), n_iv vs q.2.1 + q.2.2.1 ≤ n_iv vs q.1 ∧ n_iv vs q.1 ≤ n_iv vs q.2.1 + q.2.2.2 := hds
  obtain ⟨d0, hds⟩ := List.forall_mem_cons.mp hds
  have d0 : v_iv (n_v vs 10) + 1 ≤ v_iv (n_v vs 14) ∧ v_iv (n_v vs 14) ≤ v_iv (n_v vs 10) + 1 := d0
  obtain ⟨d1, hds⟩ := List.forall_mem_cons.mp hds
  have d1 : v_iv (n_v vs 6) + (-4294967296) ≤ v_iv (n_v vs 14) ∧ v_iv (n_v vs 14) ≤ v_iv (n_v vs 6) + 1 := d1
  obtain ⟨d2, hds⟩ := List.forall_mem_cons.mp hds
  have d2 : v_iv (n_v vs 10) + (-4294967296) ≤ v_iv (n_v vs 6) ∧ v_iv (n_v vs 6) ≤ v_iv (n_v vs 10) + 0 := d2
  obtain ⟨d3, hds⟩ := List.forall_mem_cons.mp hds
  have d3 : v_iv (n_v vs 6) + (-4294967296) ≤ v_iv (n_v vs 10) ∧ v_iv (n_v vs 10) ≤ v_iv (n_v vs 6) + 0 := d3
  have hf : fc_ok [(20, [11, 6], [30, -4001, -1, 0, 0, -2, 0, 0]), (24, [0, 2], []), (101, [2, 14], [11]), (1, [14, 10, 13], []), (9, [10, 2], [11]), (20, [2, 6], [50, 2, 0, 157, 11, 2, 7, 0, 3, 2, 0, 157, 1, 1, 1, 3, 2, 0, 11, 1, 1]), (20, [11, 6], [30, -4001, -1, 0, 0, -2, 0, 0])] ta ws vs := hf
  obtain ⟨f0, hf⟩ := fc_un (by decide) hf
  have f0 : (-1) * v_iv (n_v vs 11) + ((-2) * v_iv (n_v vs 6) + 0) ≤ (-4001) := f0
  obtain ⟨f1, hf⟩ := fc_un (by decide) hf
  have f1 : n_v vs 0 = n_v vs 2 := f1
  obtain ⟨ta1, w1, le1, ⟨_, s1⟩, hf⟩ := fc_us (by decide) hf
  have s1 : (∀ b j, w_el ws b j = w_el w1 b j) ∧ ∀ b j, w_fd ws b j = if b = v_ad (n_v vs 2) ∧ j = 11 then n_v vs 14 else w_fd w1 b j := s1
  obtain ⟨f3, hf⟩ := fc_un (by decide) hf
  have f3 : v_iv (n_v vs 14) = v_iv (n_v vs 10) + v_iv (n_v vs 13) := f3
  obtain ⟨f4, hf⟩ := fc_un (by decide) hf
  have f4 : n_v vs 10 = w_fd w1 (v_ad (n_v vs 2)) 11 := f4
  obtain ⟨f5, hf⟩ := fc_un (by decide) hf
  have f5 : (w_fi w1 (n_v vs 2) 157 ≤ v_iv (n_v vs 6)) ∧ (w_fi w1 (n_v vs 2) 11 = v_iv (n_v vs 6)) := f5
  obtain ⟨f6, hf⟩ := fc_un (by decide) hf
  have f6 : (-1) * v_iv (n_v vs 11) + ((-2) * v_iv (n_v vs 6) + 0) ≤ (-4001) := f6
  have q2 : n_v vs 2 = n_v vs 0 := f1.symm
  rw [q2] at s1
  rw [q2] at f4
  rw [q2] at f5
  have g4 : v_iv (n_v vs 10) = w_fi w1 (n_v vs 0) 11 := congrArg v_iv f4
  have fe_0_11_1 : w_fi ws (n_v vs 0) 11 = v_iv (n_v vs 14) := by show v_iv (w_fd _ _ _) = _; rw [s1.2, if_pos ⟨rfl, rfl⟩]
  have fe_0_157_1 : w_fi ws (n_v vs 0) 157 = w_fi w1 (n_v vs 0) 157 := by show v_iv (w_fd _ _ _) = v_iv (w_fd _ _ _); rw [s1.2, if_neg (fun e => absurd e.2 (by decide))]
  have kz_0_11 : 0 ≤ w_fi ws (n_v vs 0) 11 ∧ w_fi ws (n_v vs 0) 11 ≤ 2000 := tv_rng (th_fd hD hth r0 (g := GG_150) rfl (k := 11) (t := (0, 0, 2000, [])) rfl rfl)
  have kz_0_157 : 0 ≤ w_fi ws (n_v vs 0) 157 ∧ w_fi ws (n_v vs 0) 157 ≤ 2010 := tv_rng (th_fd hD hth r0 (g := GG_150) rfl (k := 157) (t := (0, 0, 2010, [])) rfl rfl)
  obtain ⟨x, ex, hx⟩ := iv_ex (ta := ta) (lo := 0) (hi := 4001) (z := 0 + (1 * v_iv (n_v vs 11) + 0)) (by omega) (by omega) (by decide) (by decide)
  have ex2 : v_iv (Value.int x) = 0 + (1 * v_iv (n_v vs 11) + 0) := ex
  have ex3 : 0 ≤ v_iv (Value.int x) ∧ v_iv (Value.int x) ≤ 4001 := tv_rng hx
  have e_0 : n_v (vs ++ [Value.int x]) 0 = n_v vs 0 := n_v_old (by rw [hl]; decide)
  have e_2 : n_v (vs ++ [Value.int x]) 2 = n_v vs 2 := n_v_old (by rw [hl]; decide)
  have e_6 : n_v (vs ++ [Value.int x]) 6 = n_v vs 6 := n_v_old (by rw [hl]; decide)
  have e_12 : n_v (vs ++ [Value.int x]) 12 = n_v vs 12 := n_v_old (by rw [hl]; decide)
  have e_15 : n_v (vs ++ [Value.int x]) 15 = Value.int x := n_v_new hl
  have nf0 : fc_1 (20, [2, 6, 12], [50, 2, 0, 157, 11, 2, 7, 0, 3, 2, 0, 157, 1, 1, 2, 7, 0, 2, 1, 1, 2, 0, 11, 3, 6, 1, 2, 1, 2, 0, 0, 3, 6, 1, 2, 1, 2, 0, 4, 0, 6, 4, 2, 1, 1, 0, 1, 2, 0, 11]) ws (vs ++ [Value.int x]) := by
    refine ⟨fun n hn => ?_, ?_⟩
    · have hn : n ∈ [2, 6, 12] := hn
      rw [List.length_append, hl]
      simp only [List.mem_cons, List.not_mem_nil, or_false] at hn
      show n < 15 + 1; omega
    · show (w_fi ws (n_v (vs ++ [Value.int x]) 2) 157 ≤ v_iv (n_v (vs ++ [Value.int x]) 6)) ∧ ((v_iv (n_v (vs ++ [Value.int x]) 6) ≤ w_fi ws (n_v (vs ++ [Value.int x]) 2) 11) ∧ ((v_iv (n_v (vs ++ [Value.int x]) 12) = 0) ∨ ((v_iv (n_v (vs ++ [Value.int x]) 12) = 4) ∨ ((v_iv (n_v (vs ++ [Value.int x]) 6) + 1) ≤ w_fi ws (n_v (vs ++ [Value.int x]) 2) 11))))
      rw [e_2]
      rw [e_6]
      rw [e_12]
      rw [q2]
      first | omega | grind
  have nf1 : fc_1 (20, [15, 6], [30, -4001, -1, 0, 0, -2, 0, 0]) ws (vs ++ [Value.int x]) := by
    refine ⟨fun n hn => ?_, ?_⟩
    · have hn : n ∈ [15, 6] := hn
      rw [List.length_append, hl]
      simp only [List.mem_cons, List.not_mem_nil, or_false] at hn
      show n < 15 + 1; omega
    · show (-1) * v_iv (n_v (vs ++ [Value.int x]) 15) + ((-2) * v_iv (n_v (vs ++ [Value.int x]) 6) + 0) ≤ (-4001)
      rw [e_6]
      rw [e_15]
      omega
  have nf2 : fc_1 (24, [0, 2], []) ws (vs ++ [Value.int x]) := by
    refine ⟨fun n hn => ?_, ?_⟩
    · have hn : n ∈ [0, 2] := hn
      rw [List.length_append, hl]
      simp only [List.mem_cons, List.not_mem_nil, or_false] at hn
      show n < 15 + 1; omega
    · show n_v (vs ++ [Value.int x]) 0 = n_v (vs ++ [Value.int x]) 2
      first | rfl | simp only [e_0, e_2, q2]
  obtain ⟨x0, e0, _, _⟩ := tv_int t11 rfl
  have e1 : v_iv (n_v vs 11) = x0.toInt := by rw [e0]; rfl
  have ho : sy_ofs (vs ++ [Value.int x]) (15, 11, 0, 0) := by
    refine ⟨x, x0, by rw [List.getElem?_append_right (by rw [hl]; decide), hl]; rfl, ?_, ?_, ?_⟩
    · rw [List.getElem?_append_left (by rw [hl]; decide)]; exact n_v_some (by rw [hl]; decide) e0
    · show x0.toInt + 0 ≤ x.toInt; omega
    · show x.toInt ≤ x0.toInt + 0; omega
  exact ⟨fun q hq => (by cases hq), [Value.int x], ag_one hx, List.forall_mem_cons.mpr ⟨⟨by decide, nf0⟩, List.forall_mem_cons.mpr ⟨⟨by decide, nf1⟩, List.forall_mem_cons.mpr ⟨⟨by decide, nf2⟩, (fun _ h => (by cases h))⟩⟩⟩, List.forall_mem_cons.mpr ⟨ho, (fun _ h => (by cases h))⟩⟩
def o_Mo_styleTokens_176 : or_T := (373, 13, [(0, (2, 0, 0, [150])), (2, (2, 0, 0, [150])), (6, (0, 0, 2000, [])), (7, (0, 0, 4, [])), (10, (0, 0, 4001, [])), (12, (0, 0, 2010, []))], [(9, [12, 2], [157]), (20, [2, 6, 7], [50, 2, 0, 157, 11, 2, 7, 0, 3, 2, 0, 157, 1, 1, 2, 7, 0, 2, 1, 1, 2, 0, 11, 3, 6, 1, 2, 1, 2, 0, 0, 3, 6, 1, 2, 1, 2, 0, 4, 0, 6, 4, 2, 1, 1, 0, 1, 2, 0, 11]), (20, [10, 6], [30, -4001, -1, 0, 0, -2, 0, 0]), (24, [0, 2], [])], [(12, (0, 0, 2000, []))], [], [], [], [(7, 6, -4294967296, 4)])
theorem oo_Mo_styleTokens_176 {kA : Nat → ClassId} : or_ok kA GG o_Mo_styleTokens_176 := by
  intro A ta ws vs hD hth hl hk hds hf
  have hl : vs.length = 13 := hl
  have hk : ∀ q ∈ ([(0, (2, 0, 0, [150])), (2, (2, 0, 0, [150])), (6, (0, 0, 2000, [])), (7, (0, 0, 4, [])), (10, (0, 0, 4001, [])), (12, (0, 0, 2010, []))] : List (Nat × tv_T)), tv_ok ta q.2 (n_v vs q.1) := hk
  obtain ⟨t0, hk⟩ := List.forall_mem_cons.mp hk
  have t0 : tv_ok ta (2, 0, 0, [150]) (n_v vs 0) := t0
  have r0 : ta (v_ad (n_v vs 0)) = some 150 := tv_rg t0
  obtain ⟨t2, hk⟩ := List.forall_mem_cons.mp hk
  have t2 : tv_ok ta (2, 0, 0, [150]) (n_v vs 2) := t2
  have r2 : ta (v_ad (n_v vs 2)) = some 150 := tv_rg t2
  obtain ⟨t6, hk⟩ := List.forall_mem_cons.mp hk
  have t6 : tv_ok ta (0, 0, 2000, []) (n_v vs 6) := t6
  have k6 : 0 ≤ v_iv (n_v vs 6) ∧ v_iv (n_v vs 6) ≤ 2000 := tv_rng t6
  obtain ⟨t7, hk⟩ := List.forall_mem_cons.mp hk
  have t7 : tv_ok ta (0, 0, 4, []) (n_v vs 7) := t7
  have k7 : 0 ≤ v_iv (n_v vs 7) ∧ v_iv (n_v vs 7) ≤ 4 := tv_rng t7
  obtain ⟨t10, hk⟩ := List.forall_mem_cons.mp hk
  have t10 : tv_ok ta (0, 0, 4001, []) (n_v vs 10) := t10
  have k10 : 0 ≤ v_iv (n_v vs 10) ∧ v_iv (n_v vs 10) ≤ 4001 := tv_rng t10
  obtain ⟨t12, hk⟩ := List.forall_mem_cons.mp hk
  have t12 : tv_ok ta (0, 0, 2010, []) (n_v vs 12) := t12
  have k12 : 0 ≤ v_iv (n_v vs 12) ∧ v_iv (n_v vs 12) ≤ 2010 := tv_rng t12
  have hds : ∀ q ∈ ([(7, 6, -4294967296, 4)] : List of_T), n_iv vs q.2.1 + q.2.2.1 ≤ n_iv vs q.1 ∧ n_iv vs q.1 ≤ n_iv vs q.2.1 + q.2.2.2 := hds
  obtain ⟨d0, hds⟩ := List.forall_mem_cons.mp hds
  have d0 : v_iv (n_v vs 6) + (-4294967296) ≤ v_iv (n_v vs 7) ∧ v_iv (n_v vs 7) ≤ v_iv (n_v vs 6) + 4 := d0
  have hf : fc_ok [(9, [12, 2], [157]), (20, [2, 6, 7], [50, 2, 0, 157, 11, 2, 7, 0, 3, 2, 0, 157, 1, 1, 2, 7, 0, 2, 1, 1, 2, 0, 11, 3, 6, 1, 2, 1, 2, 0, 0, 3, 6, 1, 2, 1, 2, 0, 4, 0, 6, 4, 2, 1, 1, 0, 1, 2, 0, 11]), (20, [10, 6], [30, -4001, -1, 0, 0, -2, 0, 0]), (24, [0, 2], [])] ta ws vs := hf
  obtain ⟨f0, hf⟩ := fc_un (by decide) hf
  have f0 : n_v vs 12 = w_fd ws (v_ad (n_v vs 2)) 157 := f0
  obtain ⟨f1, hf⟩ := fc_un (by decide) hf
  have f1 : (w_fi ws (n_v vs 2) 157 ≤ v_iv (n_v vs 6)) ∧ ((v_iv (n_v vs 6) ≤ w_fi ws (n_v vs 2) 11) ∧ ((v_iv (n_v vs 7) = 0) ∨ ((v_iv (n_v vs 7) = 4) ∨ ((v_iv (n_v vs 6) + 1) ≤ w_fi ws (n_v vs 2) 11)))) := f1
  obtain ⟨f2, hf⟩ := fc_un (by decide) hf
  have f2 : (-1) * v_iv (n_v vs 10) + ((-2) * v_iv (n_v vs 6) + 0) ≤ (-4001) := f2
  obtain ⟨f3, hf⟩ := fc_un (by decide) hf
  have f3 : n_v vs 0 = n_v vs 2 := f3
  have q2 : n_v vs 2 = n_v vs 0 := f3.symm
  rw [q2] at f0
  rw [q2] at f1
  have g0 : v_iv (n_v vs 12) = w_fi ws (n_v vs 0) 157 := congrArg v_iv f0
  have kz_0_11 : 0 ≤ w_fi ws (n_v vs 0) 11 ∧ w_fi ws (n_v vs 0) 11 ≤ 2000 := tv_rng (th_fd hD hth r0 (g := GG_150) rfl (k := 11) (t := (0, 0, 2000, [])) rfl rfl)
  have kz_0_157 : 0 ≤ w_fi ws (n_v vs 0) 157 ∧ w_fi ws (n_v vs 0) 157 ≤ 2010 := tv_rng (th_fd hD hth r0 (g := GG_150) rfl (k := 157) (t := (0, 0, 2010, [])) rfl rfl)
  have rf12 : tv_ok ta (0, 0, 2000, []) (n_v vs 12) := tv_in t12 (by first | omega | grind) (by first | omega | grind)
  refine ⟨List.forall_mem_cons.mpr ⟨rf12, (fun _ h => (by cases h))⟩, [], trivial, ?_, (fun _ h => (by cases h))⟩
  rw [List.append_nil]
  exact (fun _ h => (by cases h))
def o_Mo_styleTokens_177 : or_T := (17, 19, [(0, (2, 0, 0, [150])), (2, (2, 0, 0, [150])), (6, (0, 0, 2000, [])), (7, (0, 0, 0, [])), (9, (0, 0, 2000, [])), (10, (0, 0, 4001, [])), (11, (2, 0, 0, [259])), (12, (0, 0, 2000, [])), (13, (2, 0, 0, [260])), (14, (2, 0, 0, [261])), (15, (2, 0, 0, [262])), (16, (0, 1, 1, [])), (17, (0, 1, 2001, [])), (18, (0, 0, 0, []))], [(8, [7], [0]), (20, [10, 6], [30, -4001, -1, 0, 0, -2, 0, 0]), (24, [0, 2], []), (101, [2, 17], [157]), (1, [17, 12, 16], []), (9, [12, 2], [157]), (20, [2, 6, 7], [50, 2, 0, 157, 11, 2, 7, 0, 3, 2, 0, 157, 1, 1, 2, 7, 0, 2, 1, 1, 2, 0, 11, 3, 6, 1, 2, 1, 2, 0, 0, 3, 6, 1, 2, 1, 2, 0, 4, 0, 6, 4, 2, 1, 1, 0, 1, 2, 0, 11]), (20, [10, 6], [30, -4001, -1, 0, 0, -2, 0, 0]), (100, [15, 12, 9], []), (9, [9, 2], [11]), (9, [15, 2], [163]), (20, [2, 6, 7], [50, 2, 0, 157, 11, 2, 7, 0, 3, 2, 0, 157, 1, 1, 2, 7, 0, 2, 1, 1, 2, 0, 11, 3, 6, 1, 2, 1, 2, 0, 0, 3, 6, 1, 2, 1, 2, 0, 4, 0, 6, 4, 2, 1, 1, 0, 1, 2, 0, 11]), (20, [10, 6], [30, -4001, -1, 0, 0, -2, 0, 0]), (100, [14, 12, 6], []), (9, [14, 2], [162]), (20, [2, 6, 7], [50, 2, 0, 157, 11, 2, 7, 0, 3, 2, 0, 157, 1, 1, 2, 7, 0, 2, 1, 1, 2, 0, 11, 3, 6, 1, 2, 1, 2, 0, 0, 3, 6, 1, 2, 1, 2, 0, 4, 0, 6, 4, 2, 1, 1, 0, 1, 2, 0, 11]), (20, [10, 6], [30, -4001, -1, 0, 0, -2, 0, 0]), (100, [13, 12, 8], []), (9, [13, 2], [161]), (20, [2, 6, 7], [50, 2, 0, 157, 11, 2, 7, 0, 3, 2, 0, 157, 1, 1, 2, 7, 0, 2, 1, 1, 2, 0, 11, 3, 6, 1, 2, 1, 2, 0, 0, 3, 6, 1, 2, 1, 2, 0, 4, 0, 6, 4, 2, 1, 1, 0, 1, 2, 0, 11]), (20, [10, 6], [30, -4001, -1, 0, 0, -2, 0, 0]), (100, [11, 12, 7], []), (9, [11, 2], [160]), (20, [2, 6, 7], [50, 2, 0, 157, 11, 2, 7, 0, 3, 2, 0, 157, 1, 1, 2, 7, 0, 2, 1, 1, 2, 0, 11, 3, 6, 1, 2, 1, 2, 0, 0, 3, 6, 1, 2, 1, 2, 0, 4, 0, 6, 4, 2, 1, 1, 0, 1, 2, 0, 11]), (20, [10, 6], [30, -4001, -1, 0, 0, -2, 0, 0])], [], [(0, 0, 4001, [])], [(20, [2, 18], [50, 2, 1, 157, 11, 160, 2, 16, 0, 7, 4, 3, 2, 0, 157, 1, 1, 4, 3, 2, 0, 11, 0, 1, 3, 6, 1, 2, 1, 1, 0, 1, 2, 7, 0, 2, 0, 1, 2, 0, 157, 3, 14, 1, 10, 3, 0, 160, 5, 3, 2, 0, 157, 0, 1, 0, 0, 1, 10, 3, 0, 160, 5, 3, 2, 0, 157, 0, 1, 0, 4]), (24, [0, 2], []), (20, [19, 2, 18], [30, 4000, 1, 0, 0, 2, 1, 11, -1, 0, 0]), (20, [19, 2, 18], [30, -4000, -1, 0, 0, -2, 1, 11, 1, 0, 0])], [(19, 10, -1000000000000, -1)], [(17, 12, 1, 1), (6, 9, -4294967296, 4294967295), (7, 6, -4294967296, 4), (7, 9, -4294967296, 2147483652)])
theorem oo_Mo_styleTokens_177 {kA : Nat → ClassId} : or_ok kA GG o_Mo_styleTokens_177 := by
  intro A ta ws vs hD hth hl hk hds hf
  have hl : vs.length = 19 := hl
  have hk : ∀ q ∈ ([(0, (2, 0, 0, [150])), (2, (2, 0, 0, [150])), (6, (0, 0, 2000, [])), (7, (0, 0, 0, [])), (9, (0, 0, 2000, [])), (10, (0, 0, 4001, [])), (11, (2, 0, 0, [259])), (12, (0, 0, 2000, [])), (13, (2, 0, 0, [260])), (14, (2, 0, 0, [261])), (15, (2, 0, 0, [262])), (16, (0, 1, 1, [])), (17, (0, 1, 2001, [])), (18, (0, 0, 0, []))] : List (Nat × tv_T)), tv_ok ta q.2 (n_v vs q.1) := hk
  obtain ⟨t0, hk⟩ := List.forall_mem_cons.mp hk
  have t0 : tv_ok ta (2, 0, 0, [150]) (n_v vs 0) := t0
  have r0 : ta (v_ad (n_v vs 0)) = some 150 := tv_rg t0
  obtain ⟨t2, hk⟩ := List.forall_mem_cons.mp hk
  have t2 : tv_ok ta (2, 0, 0, [150]) (n_v vs 2) := t2
  have r2 : ta (v_ad (n_v vs 2)) = some 150 := tv_rg t2
  obtain ⟨t6, hk⟩ := List.forall_mem_cons.mp hk
  have t6 : tv_ok ta (0, 0, 2000, []) (n_v vs 6) := t6
  have k6 : 0 ≤ v_iv (n_v vs 6) ∧ v_iv (n_v vs 6) ≤ 2000 := tv_rng t6
  obtain ⟨t7, hk⟩ := List.forall_mem_cons.mp hk
  have t7 : tv_ok ta (0, 0, 0, []) (n_v vs 7) := t7
  have k7 : 0 ≤ v_iv (n_v vs 7) ∧ v_iv (n_v vs 7) ≤ 0 := tv_rng t7
  obtain ⟨t9, hk⟩ := List.forall_mem_cons.mp hk
  have t9 : tv_ok ta (0, 0, 2000, []) (n_v vs 9) := t9
  have k9 : 0 ≤ v_iv (n_v vs 9) ∧ v_iv (n_v vs 9) ≤ 2000 := tv_rng t9
  obtain ⟨t10, hk⟩ := List.forall_mem_cons.mp hk
  have t10 : tv_ok ta (0, 0, 4001, []) (n_v vs 10) := t10
  have k10 : 0 ≤ v_iv (n_v vs 10) ∧ v_iv (n_v vs 10) ≤ 4001 := tv_rng t10
  obtain ⟨t11, hk⟩ := List.forall_mem_cons.mp hk
  have t11 : tv_ok ta (2, 0, 0, [259]) (n_v vs 11) := t11
  have r11 : ta (v_ad (n_v vs 11)) = some 259 := tv_rg t11
  obtain ⟨t12, hk⟩ := List.forall_mem_cons.mp hk
  have t12 : tv_ok ta (0, 0, 2000, []) (n_v vs 12) := t12
  have k12 : 0 ≤ v_iv (n_v vs 12) ∧ v_iv (n_v vs 12) ≤ 2000 := tv_rng t12
  obtain ⟨t13, hk⟩ := List.forall_mem_cons.mp hk
  have t13 : tv_ok ta (2, 0, 0, [260]) (n_v vs 13) := t13
  have r13 : ta (v_ad (n_v vs 13)) = some 260 := tv_rg t13
  obtain ⟨t14, hk⟩ := List.forall_mem_cons.mp hk
  have t14 : tv_ok ta (2, 0, 0, [261]) (n_v vs 14) := t14
  have r14 : ta (v_ad (n_v vs 14)) = some 261 := tv_rg t14
  obtain ⟨t15, hk⟩ := List.forall_mem_cons.mp hk
  have t15 : tv_ok ta (2, 0, 0, [262]) (n_v vs 15) := t15
  have r15 : ta (v_ad (n_v vs 15)) = some 262 := tv_rg t15
  obtain ⟨t16, hk⟩ := List.forall_mem_cons.mp hk
  have t16 : tv_ok ta (0, 1, 1, []) (n_v vs 16) := t16
  have k16 : 1 ≤ v_iv (n_v vs 16) ∧ v_iv (n_v vs 16) ≤ 1 := tv_rng t16
  obtain ⟨t17, hk⟩ := List.forall_mem_cons.mp hk
  have t17 : tv_ok ta (0, 1, 2001, []) (n_v vs 17) := t17
  have k17 : 1 ≤ v_iv (n_v vs 17) ∧ v_iv (n_v vs 17) ≤ 2001 := tv_rng t17
  obtain ⟨t18, hk⟩ := List.forall_mem_cons.mp hk
  have t18 : tv_ok ta (0, 0, 0, []) (n_v vs 18) := t18
  have k18 : 0 ≤ v_iv (n_v vs 18) ∧ v_iv (n_v vs 18) ≤ 0 := tv_rng t18
  have hds : ∀ q ∈ ([(17, 12, 1, 1), (6, 9, -4294967296, 4294967295), (7, 6, -4294967296, 4), (7, 9, -4294967296, 2147483652)] : List of_T), n_iv vs q.2.1 + q.2.2.1 ≤ n_iv vs q.1 ∧ n_iv vs q.1 ≤ n_iv vs q.2.1 + q.2.2.2 := hds
  obtain ⟨d0, hds⟩ := List.forall_mem_cons.mp hds
  have d0 : v_iv (n_v vs 12) + 1 ≤ v_iv (n_v vs 17) ∧ v_iv (n_v vs 17) ≤ v_iv (n_v vs 12) + 1 := d0
  obtain ⟨d1, hds⟩ := List.forall_mem_cons.mp hds
  have d1 : v_iv (n_v vs 9) + (-4294967296) ≤ v_iv (n_v vs 6) ∧ v_iv (n_v vs 6) ≤ v_iv (n_v vs 9) + 4294967295 := d1
  obtain ⟨d2, hds⟩ := List.forall_mem_cons.mp hds
  have d2 : v_iv (n_v vs 6) + (-4294967296) ≤ v_iv (n_v vs 7) ∧ v_iv (n_v vs 7) ≤ v_iv (n_v vs 6) + 4 := d2
  obtain ⟨d3, hds⟩ := List.forall_mem_cons.mp hds
  have d3 : v_iv (n_v vs 9) + (-4294967296) ≤ v_iv (n_v vs 7) ∧ v_iv (n_v vs 7) ≤ v_iv (n_v vs 9) + 2147483652 := d3
  have hf : fc_ok [(8, [7], [0]), (20, [10, 6], [30, -4001, -1, 0, 0, -2, 0, 0]), (24, [0, 2], []), (101, [2, 17], [157]), (1, [17, 12, 16], []), (9, [12, 2], [157]), (20, [2, 6, 7], [50, 2, 0, 157, 11, 2, 7, 0, 3, 2, 0, 157, 1, 1, 2, 7, 0, 2, 1, 1, 2, 0, 11, 3, 6, 1, 2, 1, 2, 0, 0, 3, 6, 1, 2, 1, 2, 0, 4, 0, 6, 4, 2, 1, 1, 0, 1, 2, 0, 11]), (20, [10, 6], [30, -4001, -1, 0, 0, -2, 0, 0]), (100, [15, 12, 9], []), (9, [9, 2], [11]), (9, [15, 2], [163]), (20, [2, 6, 7], [50, 2, 0, 157, 11, 2, 7, 0, 3, 2, 0, 157, 1, 1, 2, 7, 0, 2, 1, 1, 2, 0, 11, 3, 6, 1, 2, 1, 2, 0, 0, 3, 6, 1, 2, 1, 2, 0, 4, 0, 6, 4, 2, 1, 1, 0, 1, 2, 0, 11]), (20, [10, 6], [30, -4001, -1, 0, 0, -2, 0, 0]), (100, [14, 12, 6], []), (9, [14, 2], [162]), (20, [2, 6, 7], [50, 2, 0, 157, 11, 2, 7, 0, 3, 2, 0, 157, 1, 1, 2, 7, 0, 2, 1, 1, 2, 0, 11, 3, 6, 1, 2, 1, 2, 0, 0, 3, 6, 1, 2, 1, 2, 0, 4, 0, 6, 4, 2, 1, 1, 0, 1, 2, 0, 11]), (20, [10, 6], [30, -4001, -1, 0, 0, -2, 0, 0]), (100, [13, 12, 8], []), (9, [13, 2], [161]), (20, [2, 6, 7], [50, 2, 0, 157, 11, 2, 7, 0, 3, 2, 0, 157, 1, 1, 2, 7, 0, 2, 1, 1, 2, 0, 11, 3, 6, 1, 2, 1, 2, 0, 0, 3, 6, 1, 2, 1, 2, 0, 4, 0, 6, 4, 2, 1, 1, 0, 1, 2, 0, 11]), (20, [10, 6], [30, -4001, -1, 0, 0, -2, 0, 0]), (100, [11, 12, 7], []), (9, [11, 2], [160]), (20, [2, 6, 7], [50, 2, 0, 157, 11, 2, 7, 0, 3, 2, 0, 157, 1, 1, 2, 7, 0, 2, 1, 1, 2, 0, 11, 3, 6, 1, 2, 1, 2, 0, 0, 3, 6, 1, 2, 1, 2, 0, 4, 0, 6, 4, 2, 1, 1, 0, 1, 2, 0, 11]), (20, [10, 6], [30, -4001, -1, 0, 0, -2, 0, 0])] ta ws vs := hf
  obtain ⟨f0, hf⟩ := fc_un (by decide) hf
  have f0 : v_iv (n_v vs 7) = 0 := f0
  obtain ⟨f1, hf⟩ := fc_un (by decide) hf
  have f1 : (-1) * v_iv (n_v vs 10) + ((-2) * v_iv (n_v vs 6) + 0) ≤ (-4001) := f1
  obtain ⟨f2, hf⟩ := fc_un (by decide) hf
  have f2 : n_v vs 0 = n_v vs 2 := f2
  obtain ⟨ta1, w1, le1, ⟨_, s1⟩, hf⟩ := fc_us (by decide) hf
  have s1 : (∀ b j, w_el ws b j = w_el w1 b j) ∧ ∀ b j, w_fd ws b j = if b = v_ad (n_v vs 2) ∧ j = 157 then n_v vs 17 else w_fd w1 b j := s1
  obtain ⟨f4, hf⟩ := fc_un (by decide) hf
  have f4 : v_iv (n_v vs 17) = v_iv (n_v vs 12) + v_iv (n_v vs 16) := f4
  obtain ⟨f5, hf⟩ := fc_un (by decide) hf
  have f5 : n_v vs 12 = w_fd w1 (v_ad (n_v vs 2)) 157 := f5
  obtain ⟨f6, hf⟩ := fc_un (by decide) hf
  have f6 : (w_fi w1 (n_v vs 2) 157 ≤ v_iv (n_v vs 6)) ∧ ((v_iv (n_v vs 6) ≤ w_fi w1 (n_v vs 2) 11) ∧ ((v_iv (n_v vs 7) = 0) ∨ ((v_iv (n_v vs 7) = 4) ∨ ((v_iv (n_v vs 6) + 1) ≤ w_fi w1 (n_v vs 2) 11)))) := f6
  obtain ⟨f7, hf⟩ := fc_un (by decide) hf
  have f7 : (-1) * v_iv (n_v vs 10) + ((-2) * v_iv (n_v vs 6) + 0) ≤ (-4001) := f7
  obtain ⟨ta2, w2, le2, ⟨_, s2⟩, hf⟩ := fc_us (by decide) hf
  have s2 : (∀ b j, w_el w1 b j = if b = v_ad (n_v vs 15) ∧ j = (v_iv (n_v vs 12)).toNat then v_iv (n_v vs 9) else w_el w2 b j) ∧ ∀ b k, w_fd w1 b k = w_fd w2 b k := s2
  obtain ⟨f9, hf⟩ := fc_un (by decide) hf
  have f9 : n_v vs 9 = w_fd w2 (v_ad (n_v vs 2)) 11 := f9
  obtain ⟨f10, hf⟩ := fc_un (by decide) hf
  have f10 : n_v vs 15 = w_fd w2 (v_ad (n_v vs 2)) 163 := f10
  obtain ⟨f11, hf⟩ := fc_un (by decide) hf
  have f11 : (w_fi w2 (n_v vs 2) 157 ≤ v_iv (n_v vs 6)) ∧ ((v_iv (n_v vs 6) ≤ w_fi w2 (n_v vs 2) 11) ∧ ((v_iv (n_v vs 7) = 0) ∨ ((v_iv (n_v vs 7) = 4) ∨ ((v_iv (n_v vs 6) + 1) ≤ w_fi w2 (n_v vs 2) 11)))) := f11
  obtain ⟨f12, hf⟩ := fc_un (by decide) hf
  have f12 : (-1) * v_iv (n_v vs 10) + ((-2) * v_iv (n_v vs 6) + 0) ≤ (-4001) := f12
  obtain ⟨ta3, w3, le3, ⟨_, s3⟩, hf⟩ := fc_us (by decide) hf
  have s3 : (∀ b j, w_el w2 b j = if b = v_ad (n_v vs 14) ∧ j = (v_iv (n_v vs 12)).toNat then v_iv (n_v vs 6) else w_el w3 b j) ∧ ∀ b k, w_fd w2 b k = w_fd w3 b k := s3
  obtain ⟨f14, hf⟩ := fc_un (by decide) hf
  have f14 : n_v vs 14 = w_fd w3 (v_ad (n_v vs 2)) 162 := f14
  obtain ⟨f15, hf⟩ := fc_un (by decide) hf
  have f15 : (w_fi w3 (n_v vs 2) 157 ≤ v_iv (n_v vs 6)) ∧ ((v_iv (n_v vs 6) ≤ w_fi w3 (n_v vs 2) 11) ∧ ((v_iv (n_v vs 7) = 0) ∨ ((v_iv (n_v vs 7) = 4) ∨ ((v_iv (n_v vs 6) + 1) ≤ w_fi w3 (n_v vs 2) 11)))) := f15
  obtain ⟨f16, hf⟩ := fc_un (by decide) hf
  have f16 : (-1) * v_iv (n_v vs 10) + ((-2) * v_iv (n_v vs 6) + 0) ≤ (-4001) := f16
  obtain ⟨ta4, w4, le4, ⟨_, s4⟩, hf⟩ := fc_us (by decide) hf
  have s4 : (∀ b j, w_el w3 b j = if b = v_ad (n_v vs 13) ∧ j = (v_iv (n_v vs 12)).toNat then v_iv (n_v vs 8) else w_el w4 b j) ∧ ∀ b k, w_fd w3 b k = w_fd w4 b k := s4
  obtain ⟨f18, hf⟩ := fc_un (by decide) hf
  have f18 : n_v vs 13 = w_fd w4 (v_ad (n_v vs 2)) 161 := f18
  obtain ⟨f19, hf⟩ := fc_un (by decide) hf
  have f19 : (w_fi w4 (n_v vs 2) 157 ≤ v_iv (n_v vs 6)) ∧ ((v_iv (n_v vs 6) ≤ w_fi w4 (n_v vs 2) 11) ∧ ((v_iv (n_v vs 7) = 0) ∨ ((v_iv (n_v vs 7) = 4) ∨ ((v_iv (n_v vs 6) + 1) ≤ w_fi w4 (n_v vs 2) 11)))) := f19
  obtain ⟨f20, hf⟩ := fc_un (by decide) hf
  have f20 : (-1) * v_iv (n_v vs 10) + ((-2) * v_iv (n_v vs 6) + 0) ≤ (-4001) := f20
  obtain ⟨ta5, w5, le5, ⟨_, s5⟩, hf⟩ := fc_us (by decide) hf
  have s5 : (∀ b j, w_el w4 b j = if b = v_ad (n_v vs 11) ∧ j = (v_iv (n_v vs 12)).toNat then v_iv (n_v vs 7) else w_el w5 b j) ∧ ∀ b k, w_fd w4 b k = w_fd w5 b k := s5
  obtain ⟨f22, hf⟩ := fc_un (by decide) hf
  have f22 : n_v vs 11 = w_fd w5 (v_ad (n_v vs 2)) 160 := f22
  obtain ⟨f23, hf⟩ := fc_un (by decide) hf
  have f23 : (w_fi w5 (n_v vs 2) 157 ≤ v_iv (n_v vs 6)) ∧ ((v_iv (n_v vs 6) ≤ w_fi w5 (n_v vs 2) 11) ∧ ((v_iv (n_v vs 7) = 0) ∨ ((v_iv (n_v vs 7) = 4) ∨ ((v_iv (n_v vs 6) + 1) ≤ w_fi w5 (n_v vs 2) 11)))) := f23
  obtain ⟨f24, hf⟩ := fc_un (by decide) hf
  have f24 : (-1) * v_iv (n_v vs 10) + ((-2) * v_iv (n_v vs 6) + 0) ≤ (-4001) := f24
  have q2 : n_v vs 2 = n_v vs 0 := f2.symm
  rw [q2] at s1
  rw [q2] at f5
  rw [q2] at f6
  rw [q2] at f9
  rw [q2] at f10
  rw [q2] at f11
  rw [q2] at f14
  rw [q2] at f15
  rw [q2] at f18
  rw [q2] at f19
  rw [q2] at f22
  rw [q2] at f23
  have ar_0_160_1 : w_ar w1 (n_v vs 0) 160 = w_ar ws (n_v vs 0) 160 := by show v_ad (w_fd w1 _ _) = v_ad (w_fd ws _ _); rw [s1.2, if_neg (fun e => absurd e.2 (by decide))]
  have ar_0_160_2 : w_ar w2 (n_v vs 0) 160 = w_ar ws (n_v vs 0) 160 := by rw [← ar_0_160_1]; show v_ad (w_fd w2 _ _) = v_ad (w_fd w1 _ _); rw [s2.2]
  have ar_0_160_3 : w_ar w3 (n_v vs 0) 160 = w_ar ws (n_v vs 0) 160 := by rw [← ar_0_160_2]; show v_ad (w_fd w3 _ _) = v_ad (w_fd w2 _ _); rw [s3.2]
  have ar_0_160_4 : w_ar w4 (n_v vs 0) 160 = w_ar ws (n_v vs 0) 160 := by rw [← ar_0_160_3]; show v_ad (w_fd w4 _ _) = v_ad (w_fd w3 _ _); rw [s4.2]
  have ar_0_160_5 : w_ar w5 (n_v vs 0) 160 = w_ar ws (n_v vs 0) 160 := by rw [← ar_0_160_4]; show v_ad (w_fd w5 _ _) = v_ad (w_fd w4 _ _); rw [s5.2]
  have cr_0_160 : ta (w_ar ws (n_v vs 0) 160) = some 259 := tv_rg (th_fd hD hth r0 (g := GG_150) rfl (k := 160) (t := (2, 0, 0, [259])) rfl rfl)
  have ar_0_161_1 : w_ar w1 (n_v vs 0) 161 = w_ar ws (n_v vs 0) 161 := by show v_ad (w_fd w1 _ _) = v_ad (w_fd ws _ _); rw [s1.2, if_neg (fun e => absurd e.2 (by decide))]
  have ar_0_161_2 : w_ar w2 (n_v vs 0) 161 = w_ar ws (n_v vs 0) 161 := by rw [← ar_0_161_1]; show v_ad (w_fd w2 _ _) = v_ad (w_fd w1 _ _); rw [s2.2]
  have ar_0_161_3 : w_ar w3 (n_v vs 0) 161 = w_ar ws (n_v vs 0) 161 := by rw [← ar_0_161_2]; show v_ad (w_fd w3 _ _) = v_ad (w_fd w2 _ _); rw [s3.2]
  have ar_0_161_4 : w_ar w4 (n_v vs 0) 161 = w_ar ws (n_v vs 0) 161 := by rw [← ar_0_161_3]; show v_ad (w_fd w4 _ _) = v_ad (w_fd w3 _ _); rw [s4.2]
  have ar_0_161_5 : w_ar w5 (n_v vs 0) 161 = w_ar ws (n_v vs 0) 161 := by rw [← ar_0_161_4]; show v_ad (w_fd w5 _ _) = v_ad (w_fd w4 _ _); rw [s5.2]
  have cr_0_161 : ta (w_ar ws (n_v vs 0) 161) = some 260 := tv_rg (th_fd hD hth r0 (g := GG_150) rfl (k := 161) (t := (2, 0, 0, [260])) rfl rfl)
  have ar_0_162_1 : w_ar w1 (n_v vs 0) 162 = w_ar ws (n_v vs 0) 162 := by show v_ad (w_fd w1 _ _) = v_ad (w_fd ws _ _); rw [s1.2, if_neg (fun e => absurd e.2 (by decide))]
  have ar_0_162_2 : w_ar w2 (n_v vs 0) 162 = w_ar ws (n_v vs 0) 162 := by rw [← ar_0_162_1]; show v_ad (w_fd w2 _ _) = v_ad (w_fd w1 _ _); rw [s2.2]
  have ar_0_162_3 : w_ar w3 (n_v vs 0) 162 = w_ar ws (n_v vs 0) 162 := by rw [← ar_0_162_2]; show v_ad (w_fd w3 _ _) = v_ad (w_fd w2 _ _); rw [s3.2]
  have ar_0_162_4 : w_ar w4 (n_v vs 0) 162 = w_ar ws (n_v vs 0) 162 := by rw [← ar_0_162_3]; show v_ad (w_fd w4 _ _) = v_ad (w_fd w3 _ _); rw [s4.2]
  have ar_0_162_5 : w_ar w5 (n_v vs 0) 162 = w_ar ws (n_v vs 0) 162 := by rw [← ar_0_162_4]; show v_ad (w_fd w5 _ _) = v_ad (w_fd w4 _ _); rw [s5.2]
  have cr_0_162 : ta (w_ar ws (n_v vs 0) 162) = some 261 := tv_rg (th_fd hD hth r0 (g := GG_150) rfl (k := 162) (t := (2, 0, 0, [261])) rfl rfl)
  have ar_0_163_1 : w_ar w1 (n_v vs 0) 163 = w_ar ws (n_v vs 0) 163 := by show v_ad (w_fd w1 _ _) = v_ad (w_fd ws _ _); rw [s1.2, if_neg (fun e => absurd e.2 (by decide))]
  have ar_0_163_2 : w_ar w2 (n_v vs 0) 163 = w_ar ws (n_v vs 0) 163 := by rw [← ar_0_163_1]; show v_ad (w_fd w2 _ _) = v_ad (w_fd w1 _ _); rw [s2.2]
  have ar_0_163_3 : w_ar w3 (n_v vs 0) 163 = w_ar ws (n_v vs 0) 163 := by rw [← ar_0_163_2]; show v_ad (w_fd w3 _ _) = v_ad (w_fd w2 _ _); rw [s3.2]
  have ar_0_163_4 : w_ar w4 (n_v vs 0) 163 = w_ar ws (n_v vs 0) 163 := by rw [← ar_0_163_3]; show v_ad (w_fd w4 _ _) = v_ad (w_fd w3 _ _); rw [s4.2]
  have ar_0_163_5 : w_ar w5 (n_v vs 0) 163 = w_ar ws (n_v vs 0) 163 := by rw [← ar_0_163_4]; show v_ad (w_fd w5 _ _) = v_ad (w_fd w4 _ _); rw [s5.2]
  have cr_0_163 : ta (w_ar ws (n_v vs 0) 163) = some 262 := tv_rg (th_fd hD hth r0 (g := GG_150) rfl (k := 163) (t := (2, 0, 0, [262])) rfl rfl)
  have ad_15 : v_ad (n_v vs 15) = w_ar ws (n_v vs 0) 163 := (congrArg v_ad f10).trans ar_0_163_2
  have ad_14 : v_ad (n_v vs 14) = w_ar ws (n_v vs 0) 162 := (congrArg v_ad f14).trans ar_0_162_3
  have ad_13 : v_ad (n_v vs 13) = w_ar ws (n_v vs 0) 161 := (congrArg v_ad f18).trans ar_0_161_4
  have ad_11 : v_ad (n_v vs 11) = w_ar ws (n_v vs 0) 160 := (congrArg v_ad f22).trans ar_0_160_5
  have g5 : v_iv (n_v vs 12) = w_fi w1 (n_v vs 0) 157 := congrArg v_iv f5
  have g9 : v_iv (n_v vs 9) = w_fi w2 (n_v vs 0) 11 := congrArg v_iv f9
  have fe_0_11_1 : w_fi ws (n_v vs 0) 11 = w_fi w1 (n_v vs 0) 11 := by show v_iv (w_fd _ _ _) = v_iv (w_fd _ _ _); rw [s1.2, if_neg (fun e => absurd e.2 (by decide))]
  have fe_0_157_1 : w_fi ws (n_v vs 0) 157 = v_iv (n_v vs 17) := by show v_iv (w_fd _ _ _) = _; rw [s1.2, if_pos ⟨rfl, rfl⟩]
  have fe_0_11_2 : w_fi w1 (n_v vs 0) 11 = w_fi w2 (n_v vs 0) 11 := congrArg v_iv (s2.2 _ _)
  have fe_0_157_2 : w_fi w1 (n_v vs 0) 157 = w_fi w2 (n_v vs 0) 157 := congrArg v_iv (s2.2 _ _)
  have fe_0_11_3 : w_fi w2 (n_v vs 0) 11 = w_fi w3 (n_v vs 0) 11 := congrArg v_iv (s3.2 _ _)
  have fe_0_157_3 : w_fi w2 (n_v vs 0) 157 = w_fi w3 (n_v vs 0) 157 := congrArg v_iv (s3.2 _ _)
  have fe_0_11_4 : w_fi w3 (n_v vs 0) 11 = w_fi w4 (n_v vs 0) 11 := congrArg v_iv (s4.2 _ _)
  have fe_0_157_4 : w_fi w3 (n_v vs 0) 157 = w_fi w4 (n_v vs 0) 157 := congrArg v_iv (s4.2 _ _)
  have fe_0_11_5 : w_fi w4 (n_v vs 0) 11 = w_fi w5 (n_v vs 0) 11 := congrArg v_iv (s5.2 _ _)
  have fe_0_157_5 : w_fi w4 (n_v vs 0) 157 = w_fi w5 (n_v vs 0) 157 := congrArg v_iv (s5.2 _ _)
  have hE_0_160_1 : ∀ j : Int, w_ei ws (w_ar ws (n_v vs 0) 160) j = w_ei w1 (w_ar ws (n_v vs 0) 160) j := fun j => s1.1 _ _
  have hE_0_160_2 : ∀ j : Int, w_ei w1 (w_ar ws (n_v vs 0) 160) j = w_ei w2 (w_ar ws (n_v vs 0) 160) j := fun j => by unfold w_ei; rw [s2.1, if_neg (fun e => by have e1 := e.1; rw [← e1] at r15; rw [cr_0_160] at r15; exact absurd (Option.some.inj r15) (by decide))]
  have hE_0_160_3 : ∀ j : Int, w_ei w2 (w_ar ws (n_v vs 0) 160) j = w_ei w3 (w_ar ws (n_v vs 0) 160) j := fun j => by unfold w_ei; rw [s3.1, if_neg (fun e => by have e1 := e.1; rw [← e1] at r14; rw [cr_0_160] at r14; exact absurd (Option.some.inj r14) (by decide))]
  have hE_0_160_4 : ∀ j : Int, w_ei w3 (w_ar ws (n_v vs 0) 160) j = w_ei w4 (w_ar ws (n_v vs 0) 160) j := fun j => by unfold w_ei; rw [s4.1, if_neg (fun e => by have e1 := e.1; rw [← e1] at r13; rw [cr_0_160] at r13; exact absurd (Option.some.inj r13) (by decide))]
  have hE_0_160_5 : ∀ j : Int, 0 ≤ j → (j = v_iv (n_v vs 12) → w_ei w4 (w_ar ws (n_v vs 0) 160) j = v_iv (n_v vs 7)) ∧ (j ≠ v_iv (n_v vs 12) → w_ei w4 (w_ar ws (n_v vs 0) 160) j = w_ei w5 (w_ar ws (n_v vs 0) 160) j) := fun j hj => ⟨fun h => by unfold w_ei; rw [s5.1, if_pos ⟨ad_11.symm, by rw [h]⟩], fun h => by unfold w_ei; rw [s5.1, if_neg (fun e => h (by have := e.2; omega))]⟩
  have hK_0_160 : ∀ j : Int, 0 ≤ j → j < 2010 → 0 ≤ w_ei ws (w_ar ws (n_v vs 0) 160) j ∧ w_ei ws (w_ar ws (n_v vs 0) 160) j ≤ 4 := fun j h0 h1 => th_el hD hth cr_0_160 (kd := 0) (n := 2010) (m := 2010) (lo := 0) (hi := 4) (rs := []) (L := []) rfl (by decide) (j := j.toNat) (by omega)
  have kz_0_11 : 0 ≤ w_fi ws (n_v vs 0) 11 ∧ w_fi ws (n_v vs 0) 11 ≤ 2000 := tv_rng (th_fd hD hth r0 (g := GG_150) rfl (k := 11) (t := (0, 0, 2000, [])) rfl rfl)
  have kz_0_157 : 0 ≤ w_fi ws (n_v vs 0) 157 ∧ w_fi ws (n_v vs 0) 157 ≤ 2010 := tv_rng (th_fd hD hth r0 (g := GG_150) rfl (k := 157) (t := (0, 0, 2010, [])) rfl rfl)
  have kb_0_11 : 0 ≤ w_fi ws (n_v vs 0) 11 ∧ w_fi ws (n_v vs 0) 11 ≤ 2000 := tv_rng (th_fd hD hth r0 (g := GG_150) rfl (k := 11) (t := (0, 0, 2000, [])) rfl rfl)
  obtain ⟨x, ex, hx⟩ := iv_ex (ta := ta) (lo := 0) (hi := 4001) (z := 4000 + ((-2) * w_fi ws (n_v vs 0) 11 + (1 * v_iv (n_v vs 18) + 0))) (by omega) (by omega) (by decide) (by decide)
  have ex2 : v_iv (Value.int x) = 4000 + ((-2) * w_fi ws (n_v vs 0) 11 + (1 * v_iv (n_v vs 18) + 0)) := ex
  have ex3 : 0 ≤ v_iv (Value.int x) ∧ v_iv (Value.int x) ≤ 4001 := tv_rng hx
  have e_0 : n_v (vs ++ [Value.int x]) 0 = n_v vs 0 := n_v_old (by rw [hl]; decide)
  have e_2 : n_v (vs ++ [Value.int x]) 2 = n_v vs 2 := n_v_old (by rw [hl]; decide)
  have e_18 : n_v (vs ++ [Value.int x]) 18 = n_v vs 18 := n_v_old (by rw [hl]; decide)
  have e_19 : n_v (vs ++ [Value.int x]) 19 = Value.int x := n_v_new hl
  have nf0 : fc_1 (20, [2, 18], [50, 2, 1, 157, 11, 160, 2, 16, 0, 7, 4, 3, 2, 0, 157, 1, 1, 4, 3, 2, 0, 11, 0, 1, 3, 6, 1, 2, 1, 1, 0, 1, 2, 7, 0, 2, 0, 1, 2, 0, 157, 3, 14, 1, 10, 3, 0, 160, 5, 3, 2, 0, 157, 0, 1, 0, 0, 1, 10, 3, 0, 160, 5, 3, 2, 0, 157, 0, 1, 0, 4]) ws (vs ++ [Value.int x]) := by
    refine ⟨fun n hn => ?_, ?_⟩
    · have hn : n ∈ [2, 18] := hn
      rw [List.length_append, hl]
      simp only [List.mem_cons, List.not_mem_nil, or_false] at hn
      show n < 19 + 1; omega
    · show ((w_fi ws (n_v (vs ++ [Value.int x]) 2) 157 + v_iv (n_v (vs ++ [Value.int x]) 18)) ≤ (w_fi ws (n_v (vs ++ [Value.int x]) 2) 11 + 1)) ∧ ((v_iv (n_v (vs ++ [Value.int x]) 18) = 1) ∨ ((1 ≤ w_fi ws (n_v (vs ++ [Value.int x]) 2) 157) ∧ ((w_ei ws (w_ar ws (n_v (vs ++ [Value.int x]) 2) 160) ((w_fi ws (n_v (vs ++ [Value.int x]) 2) 157 - 1)) = 0) ∨ (w_ei ws (w_ar ws (n_v (vs ++ [Value.int x]) 2) 160) ((w_fi ws (n_v (vs ++ [Value.int x]) 2) 157 - 1)) = 4))))
      rw [e_2]
      rw [e_18]
      rw [q2]
      first | omega | grind
  have nf1 : fc_1 (24, [0, 2], []) ws (vs ++ [Value.int x]) := by
    refine ⟨fun n hn => ?_, ?_⟩
    · have hn : n ∈ [0, 2] := hn
      rw [List.length_append, hl]
      simp only [List.mem_cons, List.not_mem_nil, or_false] at hn
      show n < 19 + 1; omega
    · show n_v (vs ++ [Value.int x]) 0 = n_v (vs ++ [Value.int x]) 2
      first | rfl | simp only [e_0, e_2, q2]
  have nf2 : fc_1 (20, [19, 2, 18], [30, 4000, 1, 0, 0, 2, 1, 11, -1, 0, 0]) ws (vs ++ [Value.int x]) := by
    refine ⟨fun n hn => ?_, ?_⟩
    · have hn : n ∈ [19, 2, 18] := hn
      rw [List.length_append, hl]
      simp only [List.mem_cons, List.not_mem_nil, or_false] at hn
      show n < 19 + 1; omega
    · show 1 * v_iv (n_v (vs ++ [Value.int x]) 19) + (2 * w_fi ws (n_v (vs ++ [Value.int x]) 2) 11 + ((-1) * v_iv (n_v (vs ++ [Value.int x]) 18) + 0)) ≤ 4000
      rw [e_2]
      rw [e_18]
      rw [e_19]
      rw [q2]
      omega
  have nf3 : fc_1 (20, [19, 2, 18], [30, -4000, -1, 0, 0, -2, 1, 11, 1, 0, 0]) ws (vs ++ [Value.int x]) := by
    refine ⟨fun n hn => ?_, ?_⟩
    · have hn : n ∈ [19, 2, 18] := hn
      rw [List.length_append, hl]
      simp only [List.mem_cons, List.not_mem_nil, or_false] at hn
      show n < 19 + 1; omega
    · show (-1) * v_iv (n_v (vs ++ [Value.int x]) 19) + ((-2) * w_fi ws (n_v (vs ++ [Value.int x]) 2) 11 + (1 * v_iv (n_v (vs ++ [Value.int x]) 18) + 0)) ≤ (-4000)
      rw [e_2]
      rw [e_18]
      rw [e_19]
      rw [q2]
      omega
  obtain ⟨x0, e0, _, _⟩ := tv_int t10 rfl
  have e1 : v_iv (n_v vs 10) = x0.toInt := by rw [e0]; rfl
  have ho : sy_ofs (vs ++ [Value.int x]) (19, 10, -1000000000000, -1) := by
    refine ⟨x, x0, by rw [List.getElem?_append_right (by rw [hl]; decide), hl]; rfl, ?_, ?_, ?_⟩
    · rw [List.getElem?_append_left (by rw [hl]; decide)]; exact n_v_some (by rw [hl]; decide) e0
    · show x0.toInt + (-1000000000000) ≤ x.toInt; omega
    · show x.toInt ≤ x0.toInt + (-1); omega
  exact ⟨fun q hq => (by cases hq), [Value.int x], ag_one hx, List.forall_mem_cons.mpr ⟨⟨by decide, nf0⟩, List.forall_mem_cons.mpr ⟨⟨by decide, nf1⟩, List.forall_mem_cons.mpr ⟨⟨by decide, nf2⟩, List.forall_mem_cons.mpr ⟨⟨by decide, nf3⟩, (fun _ h => (by cases h))⟩⟩⟩⟩, List.forall_mem_cons.mpr ⟨ho, (fun _ h => (by cases h))⟩⟩
def o_Mo_styleTokens_178 : or_T := (17, 20, [(0, (2, 0, 0, [150])), (2, (2, 0, 0, [150])), (6, (0, 0, 2000, [])), (7, (0, 4, 4, [])), (9, (0, 0, 2000, [])), (10, (0, 0, 4001, [])), (11, (2, 0, 0, [259])), (12, (0, 0, 2000, [])), (13, (2, 0, 0, [260])), (14, (2, 0, 0, [261])), (15, (2, 0, 0, [262])), (16, (0, 1, 1, [])), (17, (0, 1, 2001, [])), (18, (0, 4, 4, [])), (19, (0, 0, 0, []))], [(7, [7, 18], [0]), (8, [7], [1]), (20, [10, 6], [30, -4001, -1, 0, 0, -2, 0, 0]), (24, [0, 2], []), (101, [2, 17], [157]), (1, [17, 12, 16], []), (9, [12, 2], [157]), (20, [2, 6, 7], [50, 2, 0, 157, 11, 2, 7, 0, 3, 2, 0, 157, 1, 1, 2, 7, 0, 2, 1, 1, 2, 0, 11, 3, 6, 1, 2, 1, 2, 0, 0, 3, 6, 1, 2, 1, 2, 0, 4, 0, 6, 4, 2, 1, 1, 0, 1, 2, 0, 11]), (20, [10, 6], [30, -4001, -1, 0, 0, -2, 0, 0]), (100, [15, 12, 9], []), (9, [9, 2], [11]), (9, [15, 2], [163]), (20, [2, 6, 7], [50, 2, 0, 157, 11, 2, 7, 0, 3, 2, 0, 157, 1, 1, 2, 7, 0, 2, 1, 1, 2, 0, 11, 3, 6, 1, 2, 1, 2, 0, 0, 3, 6, 1, 2, 1, 2, 0, 4, 0, 6, 4, 2, 1, 1, 0, 1, 2, 0, 11]), (20, [10, 6], [30, -4001, -1, 0, 0, -2, 0, 0]), (100, [14, 12, 6], []), (9, [14, 2], [162]), (20, [2, 6, 7], [50, 2, 0, 157, 11, 2, 7, 0, 3, 2, 0, 157, 1, 1, 2, 7, 0, 2, 1, 1, 2, 0, 11, 3, 6, 1, 2, 1, 2, 0, 0, 3, 6, 1, 2, 1, 2, 0, 4, 0, 6, 4, 2, 1, 1, 0, 1, 2, 0, 11]), (20, [10, 6], [30, -4001, -1, 0, 0, -2, 0, 0]), (100, [13, 12, 8], []), (9, [13, 2], [161]), (20, [2, 6, 7], [50, 2, 0, 157, 11, 2, 7, 0, 3, 2, 0, 157, 1, 1, 2, 7, 0, 2, 1, 1, 2, 0, 11, 3, 6, 1, 2, 1, 2, 0, 0, 3, 6, 1, 2, 1, 2, 0, 4, 0, 6, 4, 2, 1, 1, 0, 1, 2, 0, 11]), (20, [10, 6], [30, -4001, -1, 0, 0, -2, 0, 0]), (100, [11, 12, 7], []), (9, [11, 2], [160]), (20, [2, 6, 7], [50, 2, 0, 157, 11, 2, 7, 0, 3, 2, 0, 157, 1, 1, 2, 7, 0, 2, 1, 1, 2, 0, 11, 3, 6, 1, 2, 1, 2, 0, 0, 3, 6, 1, 2, 1, 2, 0, 4, 0, 6, 4, 2, 1, 1, 0, 1, 2, 0, 11]), (20, [10, 6], [30, -4001, -1, 0, 0, -2, 0, 0])], [], [(0, 0, 4001, [])], [(20, [2, 19], [50, 2, 1, 157, 11, 160, 2, 16, 0, 7, 4, 3, 2, 0, 157, 1, 1, 4, 3, 2, 0, 11, 0, 1, 3, 6, 1, 2, 1, 1, 0, 1, 2, 7, 0, 2, 0, 1, 2, 0, 157, 3, 14, 1, 10, 3, 0, 160, 5, 3, 2, 0, 157, 0, 1, 0, 0, 1, 10, 3, 0, 160, 5, 3, 2, 0, 157, 0, 1, 0, 4]), (24, [0, 2], []), (20, [20, 2, 19], [30, 4000, 1, 0, 0, 2, 1, 11, -1, 0, 0]), (20, [20, 2, 19], [30, -4000, -1, 0, 0, -2, 1, 11, 1, 0, 0])], [(20, 10, -1000000000000, -1)], [(17, 12, 1, 1), (6, 9, -4294967296, 4294967295), (7, 6, -4294967296, 4), (7, 9, -4294967296, 2147483652)])
theorem oo_Mo_styleTokens_178 {kA : Nat → ClassId} : or_ok kA GG o_Mo_styleTokens_178 := by
  intro A ta ws vs hD hth hl hk hds hf
  have hl : vs.length = 20 := hl
  have hk : ∀ q ∈ ([(0, (2, 0, 0, [150])), (2, (2, 0, 0, [150])), (6, (0, 0, 2000, [])), (7, (0, 4, 4, [])), (9, (0, 0, 2000, [])), (10, (0, 0, 4001, [])), (11, (2, 0, 0, [259])), (12, (0, 0, 2000, [])), (13, (2, 0, 0, [260])), (14, (2, 0, 0, [261])), (15, (2, 0, 0, [262])), (16, (0, 1, 1, [])), (17, (0, 1, 2001, [])), (18, (0, 4, 4, [])), (19, (0, 0, 0, []))] : List (Nat × tv_T)), tv_ok ta q.2 (n_v vs q.1) := hk
  obtain ⟨t0, hk⟩ := List.forall_mem_cons.mp hk
  have t0 : tv_ok ta (2, 0, 0, [150]) (n_v vs 0) := t0
  have r0 : ta (v_ad (n_v vs 0)) = some 150 := tv_rg t0
  obtain ⟨t2, hk⟩ := List.forall_mem_cons.mp hk
  have t2 : tv_ok ta (2, 0, 0, [150]) (n_v vs 2) := t2
  have r2 : ta (v_ad (n_v vs 2)) = some 150 := tv_rg t2
  obtain ⟨t6, hk⟩ := List.forall_mem_cons.mp hk
  have t6 : tv_ok ta (0, 0, 2000, []) (n_v vs 6) := t6
  have k6 : 0 ≤ v_iv (n_v vs 6) ∧ v_iv (n_v vs 6) ≤ 2000 := tv_rng t6
  obtain ⟨t7, hk⟩ := List.forall_mem_cons.mp hk
  have t7 : tv_ok ta (0, 4, 4, []) (n_v vs 7) := t7
  have k7 : 4 ≤ v_iv (n_v vs 7) ∧ v_iv (n_v vs 7) ≤ 4 := tv_rng t7
  obtain ⟨t9, hk⟩ := List.forall_mem_cons.mp hk
  have t9 : tv_ok ta (0, 0, 2000, []) (n_v vs 9) := t9
  have k9 : 0 ≤ v_iv (n_v vs 9) ∧ v_iv (n_v vs 9) ≤ 2000 := tv_rng t9
  obtain ⟨t10, hk⟩ := List.forall_mem_cons.mp hk
  have t10 : tv_ok ta (0, 0, 4001, []) (n_v vs 10) := t10
  have k10 : 0 ≤ v_iv (n_v vs 10) ∧ v_iv (n_v vs 10) ≤ 4001 := tv_rng t10
  obtain ⟨t11, hk⟩ := List.forall_mem_cons.mp hk
  have t11 : tv_ok ta (2, 0, 0, [259]) (n_v vs 11) := t11
  have r11 : ta (v_ad (n_v vs 11)) = some 259 := tv_rg t11
  obtain ⟨t12, hk⟩ := List.forall_mem_cons.mp hk
  have t12 : tv_ok ta (0, 0, 2000, []) (n_v vs 12) := t12
  have k12 : 0 ≤ v_iv (n_v vs 12) ∧ v_iv (n_v vs 12) ≤ 2000 := tv_rng t12
  obtain ⟨t13, hk⟩ := List.forall_mem_cons.mp hk
  have t13 : tv_ok ta (2, 0, 0, [260]) (n_v vs 13) := t13
  have r13 : ta (v_ad (n_v vs 13)) = some 260 := tv_rg t13
  obtain ⟨t14, hk⟩ := List.forall_mem_cons.mp hk
  have t14 : tv_ok ta (2, 0, 0, [261]) (n_v vs 14) := t14
  have r14 : ta (v_ad (n_v vs 14)) = some 261 := tv_rg t14
  obtain ⟨t15, hk⟩ := List.forall_mem_cons.mp hk
  have t15 : tv_ok ta (2, 0, 0, [262]) (n_v vs 15) := t15
  have r15 : ta (v_ad (n_v vs 15)) = some 262 := tv_rg t15
  obtain ⟨t16, hk⟩ := List.forall_mem_cons.mp hk
  have t16 : tv_ok ta (0, 1, 1, []) (n_v vs 16) := t16
  have k16 : 1 ≤ v_iv (n_v vs 16) ∧ v_iv (n_v vs 16) ≤ 1 := tv_rng t16
  obtain ⟨t17, hk⟩ := List.forall_mem_cons.mp hk
  have t17 : tv_ok ta (0, 1, 2001, []) (n_v vs 17) := t17
  have k17 : 1 ≤ v_iv (n_v vs 17) ∧ v_iv (n_v vs 17) ≤ 2001 := tv_rng t17
  obtain ⟨t18, hk⟩ := List.forall_mem_cons.mp hk
  have t18 : tv_ok ta (0, 4, 4, []) (n_v vs 18) := t18
  have k18 : 4 ≤ v_iv (n_v vs 18) ∧ v_iv (n_v vs 18) ≤ 4 := tv_rng t18
  obtain ⟨t19, hk⟩ := List.forall_mem_cons.mp hk
  have t19 : tv_ok ta (0, 0, 0, []) (n_v vs 19) := t19
  have k19 : 0 ≤ v_iv (n_v vs 19) ∧ v_iv (n_v vs 19) ≤ 0 := tv_rng t19
  have hds : ∀ q ∈ ([(17, 12, 1, 1), (6, 9, -4294967296, 4294967295), (7, 6, -4294967296, 4), (7, 9, -4294967296, 2147483652)] : List of_T), n_iv vs q.2.1 + q.2.2.1 ≤ n_iv vs q.1 ∧ n_iv vs q.1 ≤ n_iv vs q.2.1 + q.2.2.2 := hds
  obtain ⟨d0, hds⟩ := List.forall_mem_cons.mp hds
  have d0 : v_iv (n_v vs 12) + 1 ≤ v_iv (n_v vs 17) ∧ v_iv (n_v vs 17) ≤ v_iv (n_v vs 12) + 1 := d0
  obtain ⟨d1, hds⟩ := List.forall_mem_cons.mp hds
  have d1 : v_iv (n_v vs 9) + (-4294967296) ≤ v_iv (n_v vs 6) ∧ v_iv (n_v vs 6) ≤ v_iv (n_v vs 9) + 4294967295 := d1
  obtain ⟨d2, hds⟩ := List.forall_mem_cons.mp hds
  have d2 : v_iv (n_v vs 6) + (-4294967296) ≤ v_iv (n_v vs 7) ∧ v_iv (n_v vs 7) ≤ v_iv (n_v vs 6) + 4 := d2
  obtain ⟨d3, hds⟩ := List.forall_mem_cons.mp hds
  have d3 : v_iv (n_v vs 9) + (-4294967296) ≤ v_iv (n_v vs 7) ∧ v_iv (n_v vs 7) ≤ v_iv (n_v vs 9) + 2147483652 := d3
  have hf : fc_ok [(7, [7, 18], [0]), (8, [7], [1]), (20, [10, 6], [30, -4001, -1, 0, 0, -2, 0, 0]), (24, [0, 2], []), (101, [2, 17], [157]), (1, [17, 12, 16], []), (9, [12, 2], [157]), (20, [2, 6, 7], [50, 2, 0, 157, 11, 2, 7, 0, 3, 2, 0, 157, 1, 1, 2, 7, 0, 2, 1, 1, 2, 0, 11, 3, 6, 1, 2, 1, 2, 0, 0, 3, 6, 1, 2, 1, 2, 0, 4, 0, 6, 4, 2, 1, 1, 0, 1, 2, 0, 11]), (20, [10, 6], [30, -4001, -1, 0, 0, -2, 0, 0]), (100, [15, 12, 9], []), (9, [9, 2], [11]), (9, [15, 2], [163]), (20, [2, 6, 7], [50, 2, 0, 157, 11, 2, 7, 0, 3, 2, 0, 157, 1, 1, 2, 7, 0, 2, 1, 1, 2, 0, 11, 3, 6, 1, 2, 1, 2, 0, 0, 3, 6, 1, 2, 1, 2, 0, 4, 0, 6, 4, 2, 1, 1, 0, 1, 2, 0, 11]), (20, [10, 6], [30, -4001, -1, 0, 0, -2, 0, 0]), (100, [14, 12, 6], []), (9, [14, 2], [162]), (20, [2, 6, 7], [50, 2, 0, 157, 11, 2, 7, 0, 3, 2, 0, 157, 1, 1, 2, 7, 0, 2, 1, 1, 2, 0, 11, 3, 6, 1, 2, 1, 2, 0, 0, 3, 6, 1, 2, 1, 2, 0, 4, 0, 6, 4, 2, 1, 1, 0, 1, 2, 0, 11]), (20, [10, 6], [30, -4001, -1, 0, 0, -2, 0, 0]), (100, [13, 12, 8], []), (9, [13, 2], [161]), (20, [2, 6, 7], [50, 2, 0, 157, 11, 2, 7, 0, 3, 2, 0, 157, 1, 1, 2, 7, 0, 2, 1, 1, 2, 0, 11, 3, 6, 1, 2, 1, 2, 0, 0, 3, 6, 1, 2, 1, 2, 0, 4, 0, 6, 4, 2, 1, 1, 0, 1, 2, 0, 11]), (20, [10, 6], [30, -4001, -1, 0, 0, -2, 0, 0]), (100, [11, 12, 7], []), (9, [11, 2], [160]), (20, [2, 6, 7], [50, 2, 0, 157, 11, 2, 7, 0, 3, 2, 0, 157, 1, 1, 2, 7, 0, 2, 1, 1, 2, 0, 11, 3, 6, 1, 2, 1, 2, 0, 0, 3, 6, 1, 2, 1, 2, 0, 4, 0, 6, 4, 2, 1, 1, 0, 1, 2, 0, 11]), (20, [10, 6], [30, -4001, -1, 0, 0, -2, 0, 0])] ta ws vs := hf
  obtain ⟨f0, hf⟩ := fc_un (by decide) hf
  have f0 : v_iv (n_v vs 7) = v_iv (n_v vs 18) := f0
  obtain ⟨f1, hf⟩ := fc_un (by decide) hf
  have f1 : v_iv (n_v vs 7) ≠ 0 := f1
  obtain ⟨f2, hf⟩ := fc_un (by decide) hf
  have f2 : (-1) * v_iv (n_v vs 10) + ((-2) * v_iv (n_v vs 6) + 0) ≤ (-4001) := f2
  obtain ⟨f3, hf⟩ := fc_un (by decide) hf
  have f3 : n_v vs 0 = n_v vs 2 := f3
  obtain ⟨ta1, w1, le1, ⟨_, s1⟩, hf⟩ := fc_us (by decide) hf
  have s1 : (∀ b j, w_el ws b j = w_el w1 b j) ∧ ∀ b j, w_fd ws b j = if b = v_ad (n_v vs 2) ∧ j = 157 then n_v vs 17 else w_fd w1 b j := s1
  obtain ⟨f5, hf⟩ := fc_un (by decide) hf
  have f5 : v_iv (n_v vs 17) = v_iv (n_v vs 12) + v_iv (n_v vs 16) := f5
  obtain ⟨f6, hf⟩ := fc_un (by decide) hf
  have f6 : n_v vs 12 = w_fd w1 (v_ad (n_v vs 2)) 157 := f6
  obtain ⟨f7, hf⟩ := fc_un (by decide) hf
  have f7 : (w_fi w1 (n_v vs 2) 157 ≤ v_iv (n_v vs 6)) ∧ ((v_iv (n_v vs 6) ≤ w_fi w1 (n_v vs 2) 11) ∧ ((v_iv (n_v vs 7) = 0) ∨ ((v_iv (n_v vs 7) = 4) ∨ ((v_iv (n_v vs 6) + 1) ≤ w_fi w1 (n_v vs 2) 11)))) := f7
  obtain ⟨f8, hf⟩ := fc_un (by decide) hf
  have f8 : (-1) * v_iv (n_v vs 10) + ((-2) * v_iv (n_v vs 6) + 0) ≤ (-4001) := f8
  obtain ⟨ta2, w2, le2, ⟨_, s2⟩, hf⟩ := fc_us (by decide) hf
  have s2 : (∀ b j, w_el w1 b j = if b = v_ad (n_v vs 15) ∧ j = (v_iv (n_v vs 12)).toNat then v_iv (n_v vs 9) else w_el w2 b j) ∧ ∀ b k, w_fd w1 b k = w_fd w2 b k := s2
  obtain ⟨f10, hf⟩ := fc_un (by decide) hf
  have f10 : n_v vs 9 = w_fd w2 (v_ad (n_v vs 2)) 11 := f10
  obtain ⟨f11, hf⟩ := fc_un (by decide) hf
  have f11 : n_v vs 15 = w_fd w2 (v_ad (n_v vs 2)) 163 := f11
  obtain ⟨f12, hf⟩ := fc_un (by decide) hf
  have f12 : (w_fi w2 (n_v vs 2) 157 ≤ v_iv (n_v vs 6)) ∧ ((v_iv (n_v vs 6) ≤ w_fi w2 (n_v vs 2) 11) ∧ ((v_iv (n_v vs 7) = 0) ∨ ((v_iv (n_v vs 7) = 4) ∨ ((v_iv (n_v vs 6) + 1) ≤ w_fi w2 (n_v vs 2) 11)))) := f12
  obtain ⟨f13, hf⟩ := fc_un (by decide) hf
  have f13 : (-1) * v_iv (n_v vs 10) + ((-2) * v_iv (n_v vs 6) + 0) ≤ (-4001) := f13
  obtain ⟨ta3, w3, le3, ⟨_, s3⟩, hf⟩ := fc_us (by decide) hf
  have s3 : (∀ b j, w_el w2 b j = if b = v_ad (n_v vs 14) ∧ j = (v_iv (n_v vs 12)).toNat then v_iv (n_v vs 6) else w_el w3 b j) ∧ ∀ b k, w_fd w2 b k = w_fd w3 b k := s3
  obtain ⟨f15, hf⟩ := fc_un (by decide) hf
  have f15 : n_v vs 14 = w_fd w3 (v_ad (n_v vs 2)) 162 := f15
  obtain ⟨f16, hf⟩ := fc_un (by decide) hf
  have f16 : (w_fi w3 (n_v vs 2) 157 ≤ v_iv (n_v vs 6)) ∧ ((v_iv (n_v vs 6) ≤ w_fi w3 (n_v vs 2) 11) ∧ ((v_iv (n_v vs 7) = 0) ∨ ((v_iv (n_v vs 7) = 4) ∨ ((v_iv (n_v vs 6) + 1) ≤ w_fi w3 (n_v vs 2) 11)))) := f16
  obtain ⟨f17, hf⟩ := fc_un (by decide) hf
  have f17 : (-1) * v_iv (n_v vs 10) + ((-2) * v_iv (n_v vs 6) + 0) ≤ (-4001) := f17
  obtain ⟨ta4, w4, le4, ⟨_, s4⟩, hf⟩ := fc_us (by decide) hf
  have s4 : (∀ b j, w_el w3 b j = if b = v_ad (n_v vs 13) ∧ j = (v_iv (n_v vs 12)).toNat then v_iv (n_v vs 8) else w_el w4 b j) ∧ ∀ b k, w_fd w3 b k = w_fd w4 b k := s4
  obtain ⟨f19, hf⟩ := fc_un (by decide) hf
  have f19 : n_v vs 13 = w_fd w4 (v_ad (n_v vs 2)) 161 := f19
  obtain ⟨f20, hf⟩ := fc_un (by decide) hf
  have f20 : (w_fi w4 (n_v vs 2) 157 ≤ v_iv (n_v vs 6)) ∧ ((v_iv (n_v vs 6) ≤ w_fi w4 (n_v vs 2) 11) ∧ ((v_iv (n_v vs 7) = 0) ∨ ((v_iv (n_v vs 7) = 4) ∨ ((v_iv (n_v vs 6) + 1) ≤ w_fi w4 (n_v vs 2) 11)))) := f20
  obtain ⟨f21, hf⟩ := fc_un (by decide) hf
  have f21 : (-1) * v_iv (n_v vs 10) + ((-2) * v_iv (n_v vs 6) + 0) ≤ (-4001) := f21
  obtain ⟨ta5, w5, le5, ⟨_, s5⟩, hf⟩ := fc_us (by decide) hf
  have s5 : (∀ b j, w_el w4 b j = if b = v_ad (n_v vs 11) ∧ j = (v_iv (n_v vs 12)).toNat then v_iv (n_v vs 7) else w_el w5 b j) ∧ ∀ b k, w_fd w4 b k = w_fd w5 b k := s5
  obtain ⟨f23, hf⟩ := fc_un (by decide) hf
  have f23 : n_v vs 11 = w_fd w5 (v_ad (n_v vs 2)) 160 := f23
  obtain ⟨f24, hf⟩ := fc_un (by decide) hf
  have f24 : (w_fi w5 (n_v vs 2) 157 ≤ v_iv (n_v vs 6)) ∧ ((v_iv (n_v vs 6) ≤ w_fi w5 (n_v vs 2) 11) ∧ ((v_iv (n_v vs 7) = 0) ∨ ((v_iv (n_v vs 7) = 4) ∨ ((v_iv (n_v vs 6) + 1) ≤ w_fi w5 (n_v vs 2) 11)))) := f24
  obtain ⟨f25, hf⟩ := fc_un (by decide) hf
  have f25 : (-1) * v_iv (n_v vs 10) + ((-2) * v_iv (n_v vs 6) + 0) ≤ (-4001) := f25
  have q2 : n_v vs 2 = n_v vs 0 := f3.symm
  rw [q2] at s1
  rw [q2] at f6
  rw [q2] at f7
  rw [q2] at f10
  rw [q2] at f11
  rw [q2] at f12
  rw [q2] at f15
  rw [q2] at f16
  rw [q2] at f19
  rw [q2] at f20
  rw [q2] at f23
  rw [q2] at f24
  have ar_0_160_1 : w_ar w1 (n_v vs 0) 160 = w_ar ws (n_v vs 0) 160 := by show v_ad (w_fd w1 _ _) = v_ad (w_fd ws _ _); rw [s1.2, if_neg (fun e => absurd e.2 (by decide))]
  have ar_0_160_2 : w_ar w2 (n_v vs 0) 160 = w_ar ws (n_v vs 0) 160 := by rw [← ar_0_160_1]; show v_ad (w_fd w2 _ _) = v_ad (w_fd w1 _ _); rw [s2.2]
  have ar_0_160_3 : w_ar w3 (n_v vs 0) 160 = w_ar ws (n_v vs 0) 160 := by rw [← ar_0_160_2]; show v_ad (w_fd w3 _ _) = v_ad (w_fd w2 _ _); rw [s3.2]
  have ar_0_160_4 : w_ar w4 (n_v vs 0) 160 = w_ar ws (n_v vs 0) 160 := by rw [← ar_0_160_3]; show v_ad (w_fd w4 _ _) = v_ad (w_fd w3 _ _); rw [s4.2]
  have ar_0_160_5 : w_ar w5 (n_v vs 0) 160 = w_ar ws (n_v vs 0) 160 := by rw [← ar_0_160_4]; show v_ad (w_fd w5 _ _) = v_ad (w_fd w4 _ _); rw [s5.2]
  have cr_0_160 : ta (w_ar ws (n_v vs 0) 160) = some 259 := tv_rg (th_fd hD hth r0 (g := GG_150) rfl (k := 160) (t := (2, 0, 0, [259])) rfl rfl)
  have ar_0_161_1 : w_ar w1 (n_v vs 0) 161 = w_ar ws (n_v vs 0) 161 := by show v_ad (w_fd w1 _ _) = v_ad (w_fd ws _ _); rw [s1.2, if_neg (fun e => absurd e.2 (by decide))]
  have ar_0_161_2 : w_ar w2 (n_v vs 0) 161 = w_ar ws (n_v vs 0) 161 := by rw [← ar_0_161_1]; show v_ad (w_fd w2 _ _) = v_ad (w_fd w1 _ _); rw [s2.2]
  have ar_0_161_3 : w_ar w3 (n_v vs 0) 161 = w_ar ws (n_v vs 0) 161 := by rw [← ar_0_161_2]; show v_ad (w_fd w3 _ _) = v_ad (w_fd w2 _ _); rw [s3.2]
  have ar_0_161_4 : w_ar w4 (n_v vs 0) 161 = w_ar ws (n_v vs 0) 161 := by rw [← ar_0_161_3]; show v_ad (w_fd w4 _ _) = v_ad (w_fd w3 _ _); rw [s4.2]
  have ar_0_161_5 : w_ar w5 (n_v vs 0) 161 = w_ar ws (n_v vs 0) 161 := by rw [← ar_0_161_4]; show v_ad (w_fd w5 _ _) = v_ad (w_fd w4 _ _); rw [s5.2]
  have cr_0_161 : ta (w_ar ws (n_v vs 0) 161) = some 260 := tv_rg (th_fd hD hth r0 (g := GG_150) rfl (k := 161) (t := (2, 0, 0, [260])) rfl rfl)
  have ar_0_162_1 : w_ar w1 (n_v vs 0) 162 = w_ar ws (n_v vs 0) 162 := by show v_ad (w_fd w1 _ _) = v_ad (w_fd ws _ _); rw [s1.2, if_neg (fun e => absurd e.2 (by decide))]
  have ar_0_162_2 : w_ar w2 (n_v vs 0) 162 = w_ar ws (n_v vs 0) 162 := by rw [← ar_0_162_1]; show v_ad (w_fd w2 _ _) = v_ad (w_fd w1 _ _); rw [s2.2]
  have ar_0_162_3 : w_ar w3 (n_v vs 0) 162 = w_ar ws (n_v vs 0) 162 := by rw [← ar_0_162_2]; show v_ad (w_fd w3 _ _) = v_ad (w_fd w2 _ _); rw [s3.2]
  have ar_0_162_4 : w_ar w4 (n_v vs 0) 162 = w_ar ws (n_v vs 0) 162 := by rw [← ar_0_162_3]; show v_ad (w_fd w4 _ _) = v_ad (w_fd w3 _ _); rw [s4.2]
  have ar_0_162_5 : w_ar w5 (n_v vs 0) 162 = w_ar ws (n_v vs 0) 162 := by rw [← ar_0_162_4]; show v_ad (w_fd w5 _ _) = v_ad (w_fd w4 _ _); rw [s5.2]
  have cr_0_162 : ta (w_ar ws (n_v vs 0) 162) = some 261 := tv_rg (th_fd hD hth r0 (g := GG_150) rfl (k := 162) (t := (2, 0, 0, [261])) rfl rfl)
  have ar_0_163_1 : w_ar w1 (n_v vs 0) 163 = w_ar ws (n_v vs 0) 163 := by show v_ad (w_fd w1 _ _) = v_ad (w_fd ws _ _); rw [s1.2, if_neg (fun e => absurd e.2 (by decide))]
  have ar_0_163_2 : w_ar w2 (n_v vs 0) 163 = w_ar ws (n_v vs 0) 163 := by rw [← ar_0_163_1]; show v_ad (w_fd w2 _ _) = v_ad (w_fd w1 _ _); rw [s2.2]
  have ar_0_163_3 : w_ar w3 (n_v vs 0) 163 = w_ar ws (n_v vs 0) 163 := by rw [← ar_0_163_2]; show v_ad (w_fd w3 _ _) = v_ad (w_fd w2 _ _); rw [s3.2]
  have ar_0_163_4 : w_ar w4 (n_v vs 0) 163 = w_ar ws (n_v vs 0) 163 := by rw [← ar_0_163_3]; show v_ad (w_fd w4 _ _) = v_ad (w_fd w3 _ _); rw [s4.2]
  have ar_0_163_5 : w_ar w5 (n_v vs 0) 163 = w_ar ws (n_v vs 0) 163 := by rw [← ar_0_163_4]; show v_ad (w_fd w5 _ _) = v_ad (w_fd w4 _ _); rw [s5.2]
  have cr_0_163 : ta (w_ar ws (n_v vs 0) 163) = some 262 := tv_rg (th_fd hD hth r0 (g := GG_150) rfl (k := 163) (t := (2, 0, 0, [262])) rfl rfl)
  have ad_15 : v_ad (n_v vs 15) = w_ar ws (n_v vs 0) 163 := (congrArg v_ad f11).trans ar_0_163_2
  have ad_14 : v_ad (n_v vs 14) = w_ar ws (n_v vs 0) 162 := (congrArg v_ad f15).trans ar_0_162_3
  have ad_13 : v_ad (n_v vs 13) = w_ar ws (n_v vs 0) 161 := (congrArg v_ad f19).trans ar_0_161_4
  have ad_11 : v_ad (n_v vs 11) = w_ar ws (n_v vs 0) 160 := (congrArg v_ad f23).trans ar_0_160_5
  have g6 : v_iv (n_v vs 12) = w_fi w1 (n_v vs 0) 157 := congrArg v_iv f6
  have g10 : v_iv (n_v vs 9) = w_fi w2 (n_v vs 0) 11 := congrArg v_iv f10
  have fe_0_11_1 : w_fi ws (n_v vs 0) 11 = w_fi w1 (n_v vs 0) 11 := by show v_iv (w_fd _ _ _) = v_iv (w_fd _ _ _); rw [s1.2, if_neg (fun e => absurd e.2 (by decide))]
  have fe_0_157_1 : w_fi ws (n_v vs 0) 157 = v_iv (n_v vs 17) := by show v_iv (w_fd _ _ _) = _; rw [s1.2, if_pos ⟨rfl, rfl⟩]
  have fe_0_11_2 : w_fi w1 (n_v vs 0) 11 = w_fi w2 (n_v vs 0) 11 := congrArg v_iv (s2.2 _ _)
  have fe_0_157_2 : w_fi w1 (n_v vs 0) 157 = w_fi w2 (n_v vs 0) 157 := congrArg v_iv (s2.2 _ _)
  have fe_0_11_3 : w_fi w2 (n_v vs 0) 11 = w_fi w3 (n_v vs 0) 11 := congrArg v_iv (s3.2 _ _)
  have fe_0_157_3 : w_fi w2 (n_v vs 0) 157 = w_fi w3 (n_v vs 0) 157 := congrArg v_iv (s3.2 _ _)
  have fe_0_11_4 : w_fi w3 (n_v vs 0) 11 = w_fi w4 (n_v vs 0) 11 := congrArg v_iv (s4.2 _ _)
  have fe_0_157_4 : w_fi w3 (n_v vs 0) 157 = w_fi w4 (n_v vs 0) 157 := congrArg v_iv (s4.2 _ _)
  have fe_0_11_5 : w_fi w4 (n_v vs 0) 11 = w_fi w5 (n_v vs 0) 11 := congrArg v_iv (s5.2 _ _)
  have fe_0_157_5 : w_fi w4 (n_v vs 0) 157 = w_fi w5 (n_v vs 0) 157 := congrArg v_iv (s5.2 _ _)
  have hE_0_160_1 : ∀ j : Int, w_ei ws (w_ar ws (n_v vs 0) 160) j = w_ei w1 (w_ar ws (n_v vs 0) 160) j := fun j => s1.1 _ _
  have hE_0_160_2 : ∀ j : Int, w_ei w1 (w_ar ws (n_v vs 0) 160) j = w_ei w2 (w_ar ws (n_v vs 0) 160) j := fun j => by unfold w_ei; rw [s2.1, if_neg (fun e => by have e1 := e.1; rw [← e1] at r15; rw [cr_0_160] at r15; exact absurd (Option.some.inj r15) (by decide))]
  have hE_0_160_3 : ∀ j : Int, w_ei w2 (w_ar ws (n_v vs 0) 160) j = w_ei w3 (w_ar ws (n_v vs 0) 160) j := fun j => by unfold w_ei; rw [s3.1, if_neg (fun e => by have e1 := e.1; rw [← e1] at r14; rw [cr_0_160] at r14; exact absurd (Option.some.inj r14) (by decide))]
  have hE_0_160_4 : ∀ j : Int, w_ei w3 (w_ar ws (n_v vs 0) 160) j = w_ei w4 (w_ar ws (n_v vs 0) 160) j := fun j => by unfold w_ei; rw [s4.1, if_neg (fun e => by have e1 := e.1; rw [← e1] at r13; rw [cr_0_160] at r13; exact absurd (Option.some.inj r13) (by decide))]
  have hE_0_160_5 : ∀ j : Int, 0 ≤ j → (j = v_iv (n_v vs 12) → w_ei w4 (w_ar ws (n_v vs 0) 160) j = v_iv (n_v vs 7)) ∧ (j ≠ v_iv (n_v vs 12) → w_ei w4 (w_ar ws (n_v vs 0) 160) j = w_ei w5 (w_ar ws (n_v vs 0) 160) j) := fun j hj => ⟨fun h => by unfold w_ei; rw [s5.1, if_pos ⟨ad_11.symm, by rw [h]⟩], fun h => by unfold w_ei; rw [s5.1, if_neg (fun e => h (by have := e.2; omega))]⟩
  have hK_0_160 : ∀ j : Int, 0 ≤ j → j < 2010 → 0 ≤ w_ei ws (w_ar ws (n_v vs 0) 160) j ∧ w_ei ws (w_ar ws (n_v vs 0) 160) j ≤ 4 := fun j h0 h1 => th_el hD hth cr_0_160 (kd := 0) (n := 2010) (m := 2010) (lo := 0) (hi := 4) (rs := []) (L := []) rfl (by decide) (j := j.toNat) (by omega)
  have kz_0_11 : 0 ≤ w_fi ws (n_v vs 0) 11 ∧ w_fi ws (n_v vs 0) 11 ≤ 2000 := tv_rng (th_fd hD hth r0 (g := GG_150) rfl (k := 11) (t := (0, 0, 2000, [])) rfl rfl)
  have kz_0_157 : 0 ≤ w_fi ws (n_v vs 0) 157 ∧ w_fi ws (n_v vs 0) 157 ≤ 2010 := tv_rng (th_fd hD hth r0 (g := GG_150) rfl (k := 157) (t := (0, 0, 2010, [])) rfl rfl)
  have kb_0_11 : 0 ≤ w_fi ws (n_v vs 0) 11 ∧ w_fi ws (n_v vs 0) 11 ≤ 2000 := tv_rng (th_fd hD hth r0 (g := GG_150) rfl (k := 11) (t := (0, 0, 2000, [])) rfl rfl)
  obtain ⟨x, ex, hx⟩ := iv_ex (ta := ta) (lo := 0) (hi := 4001) (z := 4000 + ((-2) * w_fi ws (n_v vs 0) 11 + (1 * v_iv (n_v vs 19) + 0))) (by omega) (by omega) (by decide) (by decide)
  have ex2 : v_iv (Value.int x) = 4000 + ((-2) * w_fi ws (n_v vs 0) 11 + (1 * v_iv (n_v vs 19) + 0)) := ex
  have ex3 : 0 ≤ v_iv (Value.int x) ∧ v_iv (Value.int x) ≤ 4001 := tv_rng hx
  have e_0 : n_v (vs ++ [Value.int x]) 0 = n_v vs 0 := n_v_old (by rw [hl]; decide)
  have e_2 : n_v (vs ++ [Value.int x]) 2 = n_v vs 2 := n_v_old (by rw [hl]; decide)
  have e_19 : n_v (vs ++ [Value.int x]) 19 = n_v vs 19 := n_v_old (by rw [hl]; decide)
  have e_20 : n_v (vs ++ [Value.int x]) 20 = Value.int x := n_v_new hl
  have nf0 : fc_1 (20, [2, 19], [50, 2, 1, 157, 11, 160, 2, 16, 0, 7, 4, 3, 2, 0, 157, 1, 1, 4, 3, 2, 0, 11, 0, 1, 3, 6, 1, 2, 1, 1, 0, 1, 2, 7, 0, 2, 0, 1, 2, 0, 157, 3, 14, 1, 10, 3, 0, 160, 5, 3, 2, 0, 157, 0, 1, 0, 0, 1, 10, 3, 0, 160, 5, 3, 2, 0, 157, 0, 1, 0, 4]) ws (vs ++ [Value.int x]) := by
    refine ⟨fun n hn => ?_, ?_⟩
    · have hn : n ∈ [2, 19] := hn
      rw [List.length_append, hl]
      simp only [List.mem_cons, List.not_mem_nil, or_false] at hn
      show n < 20 + 1; omega
    · show ((w_fi ws (n_v (vs ++ [Value.int x]) 2) 157 + v_iv (n_v (vs ++ [Value.int x]) 19)) ≤ (w_fi ws (n_v (vs ++ [Value.int x]) 2) 11 + 1)) ∧ ((v_iv (n_v (vs ++ [Value.int x]) 19) = 1) ∨ ((1 ≤ w_fi ws (n_v (vs ++ [Value.int x]) 2) 157) ∧ ((w_ei ws (w_ar ws (n_v (vs ++ [Value.int x]) 2) 160) ((w_fi ws (n_v (vs ++ [Value.int x]) 2) 157 - 1)) = 0) ∨ (w_ei ws (w_ar ws (n_v (vs ++ [Value.int x]) 2) 160) ((w_fi ws (n_v (vs ++ [Value.int x]) 2) 157 - 1)) = 4))))
      rw [e_2]
      rw [e_19]
      rw [q2]
      first | omega | grind
  have nf1 : fc_1 (24, [0, 2], []) ws (vs ++ [Value.int x]) := by
    refine ⟨fun n hn => ?_, ?_⟩
    · have hn : n ∈ [0, 2] := hn
      rw [List.length_append, hl]
      simp only [List.mem_cons, List.not_mem_nil, or_false] at hn
      show n < 20 + 1; omega
    · show n_v (vs ++ [Value.int x]) 0 = n_v (vs ++ [Value.int x]) 2
      first | rfl | simp only [e_0, e_2, q2]
  have nf2 : fc_1 (20, [20, 2, 19], [30, 4000, 1, 0, 0, 2, 1, 11, -1, 0, 0]) ws (vs ++ [Value.int x]) := by
    refine ⟨fun n hn => ?_, ?_⟩
    · have hn : n ∈ [20, 2, 19] := hn
      rw [List.length_append, hl]
      simp only [List.mem_cons, List.not_mem_nil, or_false] at hn
      show n < 20 + 1; omega
    · show 1 * v_iv (n_v (vs ++ [Value.int x]) 20) + (2 * w_fi ws (n_v (vs ++ [Value.int x]) 2) 11 + ((-1) * v_iv (n_v (vs ++ [Value.int x]) 19) + 0)) ≤ 4000
      rw [e_2]
      rw [e_19]
      rw [e_20]
      rw [q2]
      omega
  have nf3 : fc_1 (20, [20, 2, 19], [30, -4000, -1, 0, 0, -2, 1, 11, 1, 0, 0]) ws (vs ++ [Value.int x]) := by
    refine ⟨fun n hn => ?_, ?_⟩
    · have hn : n ∈ [20, 2, 19] := hn
      rw [List.length_append, hl]
      simp only [List.mem_cons, List.not_mem_nil, or_false] at hn
      show n < 20 + 1; omega
    · show (-1) * v_iv (n_v (vs ++ [Value.int x]) 20) + ((-2) * w_fi ws (n_v (vs ++ [Value.int x]) 2) 11 + (1 * v_iv (n_v (vs ++ [Value.int x]) 19) + 0)) ≤ (-4000)
      rw [e_2]
      rw [e_19]
      rw [e_20]
      rw [q2]
      omega
  obtain ⟨x0, e0, _, _⟩ := tv_int t10 rfl
  have e1 : v_iv (n_v vs 10) = x0.toInt := by rw [e0]; rfl
  have ho : sy_ofs (vs ++ [Value.int x]) (20, 10, -1000000000000, -1) := by
    refine ⟨x, x0, by rw [List.getElem?_append_right (by rw [hl]; decide), hl]; rfl, ?_, ?_, ?_⟩
    · rw [List.getElem?_append_left (by rw [hl]; decide)]; exact n_v_some (by rw [hl]; decide) e0
    · show x0.toInt + (-1000000000000) ≤ x.toInt; omega
    · show x.toInt ≤ x0.toInt + (-1); omega
  exact ⟨fun q hq => (by cases hq), [Value.int x], ag_one hx, List.forall_mem_cons.mpr ⟨⟨by decide, nf0⟩, List.forall_mem_cons.mpr ⟨⟨by decide, nf1⟩, List.forall_mem_cons.mpr ⟨⟨by decide, nf2⟩, List.forall_mem_cons.mpr ⟨⟨by decide, nf3⟩, (fun _ h => (by cases h))⟩⟩⟩⟩, List.forall_mem_cons.mpr ⟨ho, (fun _ h => (by cases h))⟩⟩
def o_Mo_styleTokens_179 : or_T := (17, 20, [(0, (2, 0, 0, [150])), (2, (2, 0, 0, [150])), (6, (0, 0, 2000, [])), (7, (0, 1, 3, [])), (9, (0, 0, 2000, [])), (10, (0, 0, 4001, [])), (11, (2, 0, 0, [259])), (12, (0, 0, 2000, [])), (13, (2, 0, 0, [260])), (14, (2, 0, 0, [261])), (15, (2, 0, 0, [262])), (16, (0, 1, 1, [])), (17, (0, 1, 2001, [])), (18, (0, 4, 4, [])), (19, (0, 1, 1, []))], [(7, [7, 18], [1]), (8, [7], [1]), (20, [10, 6], [30, -4001, -1, 0, 0, -2, 0, 0]), (24, [0, 2], []), (101, [2, 17], [157]), (1, [17, 12, 16], []), (9, [12, 2], [157]), (20, [2, 6, 7], [50, 2, 0, 157, 11, 2, 7, 0, 3, 2, 0, 157, 1, 1, 2, 7, 0, 2, 1, 1, 2, 0, 11, 3, 6, 1, 2, 1, 2, 0, 0, 3, 6, 1, 2, 1, 2, 0, 4, 0, 6, 4, 2, 1, 1, 0, 1, 2, 0, 11]), (20, [10, 6], [30, -4001, -1, 0, 0, -2, 0, 0]), (100, [15, 12, 9], []), (9, [9, 2], [11]), (9, [15, 2], [163]), (20, [2, 6, 7], [50, 2, 0, 157, 11, 2, 7, 0, 3, 2, 0, 157, 1, 1, 2, 7, 0, 2, 1, 1, 2, 0, 11, 3, 6, 1, 2, 1, 2, 0, 0, 3, 6, 1, 2, 1, 2, 0, 4, 0, 6, 4, 2, 1, 1, 0, 1, 2, 0, 11]), (20, [10, 6], [30, -4001, -1, 0, 0, -2, 0, 0]), (100, [14, 12, 6], []), (9, [14, 2], [162]), (20, [2, 6, 7], [50, 2, 0, 157, 11, 2, 7, 0, 3, 2, 0, 157, 1, 1, 2, 7, 0, 2, 1, 1, 2, 0, 11, 3, 6, 1, 2, 1, 2, 0, 0, 3, 6, 1, 2, 1, 2, 0, 4, 0, 6, 4, 2, 1, 1, 0, 1, 2, 0, 11]), (20, [10, 6], [30, -4001, -1, 0, 0, -2, 0, 0]), (100, [13, 12, 8], []), (9, [13, 2], [161]), (20, [2, 6, 7], [50, 2, 0, 157, 11, 2, 7, 0, 3, 2, 0, 157, 1, 1, 2, 7, 0, 2, 1, 1, 2, 0, 11, 3, 6, 1, 2, 1, 2, 0, 0, 3, 6, 1, 2, 1, 2, 0, 4, 0, 6, 4, 2, 1, 1, 0, 1, 2, 0, 11]), (20, [10, 6], [30, -4001, -1, 0, 0, -2, 0, 0]), (100, [11, 12, 7], []), (9, [11, 2], [160]), (20, [2, 6, 7], [50, 2, 0, 157, 11, 2, 7, 0, 3, 2, 0, 157, 1, 1, 2, 7, 0, 2, 1, 1, 2, 0, 11, 3, 6, 1, 2, 1, 2, 0, 0, 3, 6, 1, 2, 1, 2, 0, 4, 0, 6, 4, 2, 1, 1, 0, 1, 2, 0, 11]), (20, [10, 6], [30, -4001, -1, 0, 0, -2, 0, 0])], [], [(0, 0, 4001, [])], [(20, [2, 19], [50, 2, 1, 157, 11, 160, 2, 16, 0, 7, 4, 3, 2, 0, 157, 1, 1, 4, 3, 2, 0, 11, 0, 1, 3, 6, 1, 2, 1, 1, 0, 1, 2, 7, 0, 2, 0, 1, 2, 0, 157, 3, 14, 1, 10, 3, 0, 160, 5, 3, 2, 0, 157, 0, 1, 0, 0, 1, 10, 3, 0, 160, 5, 3, 2, 0, 157, 0, 1, 0, 4]), (24, [0, 2], []), (20, [20, 2, 19], [30, 4000, 1, 0, 0, 2, 1, 11, -1, 0, 0]), (20, [20, 2, 19], [30, -4000, -1, 0, 0, -2, 1, 11, 1, 0, 0])], [(20, 10, -1000000000000, -1)], [(17, 12, 1, 1), (6, 9, -4294967296, 4294967295), (7, 6, -4294967296, 4), (7, 9, -4294967296, 2147483652)])
theorem oo_Mo_styleTokens_179 {kA : Nat → ClassId} : or_ok kA GG o_Mo_styleTokens_179 := by
  intro A ta ws vs hD hth hl hk hds hf
  have hl : vs.length = 20 := hl
  have hk : ∀ q ∈ ([(0, (2, 0, 0, [150])), (2, (2, 0, 0, [150])), (6, (0, 0, 2000, [])), (7, (0, 1, 3, [])), (9, (0, 0, 2000, [])), (10, (0, 0, 4001, [])), (11, (2, 0, 0, [259])), (12, (0, 0, 2000, [])), (13, (2, 0, 0, [260])), (14, (2, 0, 0, [261])), (15, (2, 0, 0, [262])), (16, (0, 1, 1, [])), (17, (0, 1, 2001, [])), (18, (0, 4, 4, [])), (19, (0, 1, 1, []))] : List (Nat × tv_T)), tv_ok ta q.2 (n_v vs q.1) := hk
  obtain ⟨t0, hk⟩ := List.forall_mem_cons.mp hk
  have t0 : tv_ok ta (2, 0, 0, [150]) (n_v vs 0) := t0
  have r0 : ta (v_ad (n_v vs 0)) = some 150 := tv_rg t0
  obtain ⟨t2, hk⟩ := List.forall_mem_cons.mp hk
  have t2 : tv_ok ta (2, 0, 0, [150]) (n_v vs 2) := t2
  have r2 : ta (v_ad (n_v vs 2)) = some 150 := tv_rg t2
  obtain ⟨t6, hk⟩ := List.forall_mem_cons.mp hk
  have t6 : tv_ok ta (0, 0, 2000, []) (n_v vs 6) := t6
  have k6 : 0 ≤ v_iv (n_v vs 6) ∧ v_iv (n_v vs 6) ≤ 2000 := tv_rng t6
  obtain ⟨t7, hk⟩ := List.forall_mem_cons.mp hk
  have t7 : tv_ok ta (0, 1, 3, []) (n_v vs 7) := t7
  have k7 : 1 ≤ v_iv (n_v vs 7) ∧ v_iv (n_v vs 7) ≤ 3 := tv_rng t7
  obtain ⟨t9, hk⟩ := List.forall_mem_cons.mp hk
  have t9 : tv_ok ta (0, 0, 2000, []) (n_v vs 9) := t9
  have k9 : 0 ≤ v_iv (n_v vs 9) ∧ v_iv (n_v vs 9) ≤ 2000 := tv_rng t9
  obtain ⟨t10, hk⟩ := List.forall_mem_cons.mp hk
  have t10 : tv_ok ta (0, 0, 4001, []) (n_v vs 10) := t10
  have k10 : 0 ≤ v_iv (n_v vs 10) ∧ v_iv (n_v vs 10) ≤ 4001 := tv_rng t10
  obtain ⟨t11, hk⟩ := List.forall_mem_cons.mp hk
  have t11 : tv_ok ta (2, 0, 0, [259]) (n_v vs 11) := t11
  have r11 : ta (v_ad (n_v vs 11)) = some 259 := tv_rg t11
  obtain ⟨t12, hk⟩ := List.forall_mem_cons.mp hk
  have t12 : tv_ok ta (0, 0, 2000, []) (n_v vs 12) := t12
  have k12 : 0 ≤ v_iv (n_v vs 12) ∧ v_iv (n_v vs 12) ≤ 2000 := tv_rng t12
  obtain ⟨t13, hk⟩ := List.forall_mem_cons.mp hk
  have t13 : tv_ok ta (2, 0, 0, [260]) (n_v vs 13) := t13
  have r13 : ta (v_ad (n_v vs 13)) = some 260 := tv_rg t13
  obtain ⟨t14, hk⟩ := List.forall_mem_cons.mp hk
  have t14 : tv_ok ta (2, 0, 0, [261]) (n_v vs 14) := t14
  have r14 : ta (v_ad (n_v vs 14)) = some 261 := tv_rg t14
  obtain ⟨t15, hk⟩ := List.forall_mem_cons.mp hk
  have t15 : tv_ok ta (2, 0, 0, [262]) (n_v vs 15) := t15
  have r15 : ta (v_ad (n_v vs 15)) = some 262 := tv_rg t15
  obtain ⟨t16, hk⟩ := List.forall_mem_cons.mp hk
  have t16 : tv_ok ta (0, 1, 1, []) (n_v vs 16) := t16
  have k16 : 1 ≤ v_iv (n_v vs 16) ∧ v_iv (n_v vs 16) ≤ 1 := tv_rng t16
  obtain ⟨t17, hk⟩ := List.forall_mem_cons.mp hk
  have t17 : tv_ok ta (0, 1, 2001, []) (n_v vs 17) := t17
  have k17 : 1 ≤ v_iv (n_v vs 17) ∧ v_iv (n_v vs 17) ≤ 2001 := tv_rng t17
  obtain ⟨t18, hk⟩ := List.forall_mem_cons.mp hk
  have t18 : tv_ok ta (0, 4, 4, []) (n_v vs 18) := t18
  have k18 : 4 ≤ v_iv (n_v vs 18) ∧ v_iv (n_v vs 18) ≤ 4 := tv_rng t18
  obtain ⟨t19, hk⟩ := List.forall_mem_cons.mp hk
  have t19 : tv_ok ta (0, 1, 1, []) (n_v vs 19) := t19
  have k19 : 1 ≤ v_iv (n_v vs 19) ∧ v_iv (n_v vs 19) ≤ 1 := tv_rng t19
  have hds : ∀ q ∈ ([(17, 12, 1, 1), (6, 9, -4294967296, 4294967295), (7, 6, -4294967296, 4), (7, 9, -4294967296, 2147483652)] : List of_T), n_iv vs q.2.1 + q.2.2.1 ≤ n_iv vs q.1 ∧ n_iv vs q.1 ≤ n_iv vs q.2.1 + q.2.2.2 := hds
  obtain ⟨d0, hds⟩ := List.forall_mem_cons.mp hds
  have d0 : v_iv (n_v vs 12) + 1 ≤ v_iv (n_v vs 17) ∧ v_iv (n_v vs 17) ≤ v_iv (n_v vs 12) + 1 := d0
  obtain ⟨d1, hds⟩ := List.forall_mem_cons.mp hds
  have d1 : v_iv (n_v vs 9) + (-4294967296) ≤ v_iv (n_v vs 6) ∧ v_iv (n_v vs 6) ≤ v_iv (n_v vs 9) + 4294967295 := d1
  obtain ⟨d2, hds⟩ := List.forall_mem_cons.mp hds
  have d2 : v_iv (n_v vs 6) + (-4294967296) ≤ v_iv (n_v vs 7) ∧ v_iv (n_v vs 7) ≤ v_iv (n_v vs 6) + 4 := d2
  obtain ⟨d3, hds⟩ := List.forall_mem_cons.mp hds
  have d3 : v_iv (n_v vs 9) + (-4294967296) ≤ v_iv (n_v vs 7) ∧ v_iv (n_v vs 7) ≤ v_iv (n_v vs 9) + 2147483652 := d3
  have hf : fc_ok [(7, [7, 18], [1]), (8, [7], [1]), (20, [10, 6], [30, -4001, -1, 0, 0, -2, 0, 0]), (24, [0, 2], []), (101, [2, 17], [157]), (1, [17, 12, 16], []), (9, [12, 2], [157]), (20, [2, 6, 7], [50, 2, 0, 157, 11, 2, 7, 0, 3, 2, 0, 157, 1, 1, 2, 7, 0, 2, 1, 1, 2, 0, 11, 3, 6, 1, 2, 1, 2, 0, 0, 3, 6, 1, 2, 1, 2, 0, 4, 0, 6, 4, 2, 1, 1, 0, 1, 2, 0, 11]), (20, [10, 6], [30, -4001, -1, 0, 0, -2, 0, 0]), (100, [15, 12, 9], []), (9, [9, 2], [11]), (9, [15, 2], [163]), (20, [2, 6, 7], [50, 2, 0, 157, 11, 2, 7, 0, 3, 2, 0, 157, 1, 1, 2, 7, 0, 2, 1, 1, 2, 0, 11, 3, 6, 1, 2, 1, 2, 0, 0, 3, 6, 1, 2, 1, 2, 0, 4, 0, 6, 4, 2, 1, 1, 0, 1, 2, 0, 11]), (20, [10, 6], [30, -4001, -1, 0, 0, -2, 0, 0]), (100, [14, 12, 6], []), (9, [14, 2], [162]), (20, [2, 6, 7], [50, 2, 0, 157, 11, 2, 7, 0, 3, 2, 0, 157, 1, 1, 2, 7, 0, 2, 1, 1, 2, 0, 11, 3, 6, 1, 2, 1, 2, 0, 0, 3, 6, 1, 2, 1, 2, 0, 4, 0, 6, 4, 2, 1, 1, 0, 1, 2, 0, 11]), (20, [10, 6], [30, -4001, -1, 0, 0, -2, 0, 0]), (100, [13, 12, 8], []), (9, [13, 2], [161]), (20, [2, 6, 7], [50, 2, 0, 157, 11, 2, 7, 0, 3, 2, 0, 157, 1, 1, 2, 7, 0, 2, 1, 1, 2, 0, 11, 3, 6, 1, 2, 1, 2, 0, 0, 3, 6, 1, 2, 1, 2, 0, 4, 0, 6, 4, 2, 1, 1, 0, 1, 2, 0, 11]), (20, [10, 6], [30, -4001, -1, 0, 0, -2, 0, 0]), (100, [11, 12, 7], []), (9, [11, 2], [160]), (20, [2, 6, 7], [50, 2, 0, 157, 11, 2, 7, 0, 3, 2, 0, 157, 1, 1, 2, 7, 0, 2, 1, 1, 2, 0, 11, 3, 6, 1, 2, 1, 2, 0, 0, 3, 6, 1, 2, 1, 2, 0, 4, 0, 6, 4, 2, 1, 1, 0, 1, 2, 0, 11]), (20, [10, 6], [30, -4001, -1, 0, 0, -2, 0, 0])] ta ws vs := hf
  obtain ⟨f0, hf⟩ := fc_un (by decide) hf
  have f0 : v_iv (n_v vs 7) ≠ v_iv (n_v vs 18) := f0
  obtain ⟨f1, hf⟩ := fc_un (by decide) hf
  have f1 : v_iv (n_v vs 7) ≠ 0 := f1
  obtain ⟨f2, hf⟩ := fc_un (by decide) hf
  have f2 : (-1) * v_iv (n_v vs 10) + ((-2) * v_iv (n_v vs 6) + 0) ≤ (-4001) := f2
  obtain ⟨f3, hf⟩ := fc_un (by decide) hf
  have f3 : n_v vs 0 = n_v vs 2 := f3
  obtain ⟨ta1, w1, le1, ⟨_, s1⟩, hf⟩ := fc_us (by decide) hf
  have s1 : (∀ b j, w_el ws b j = w_el w1 b j) ∧ ∀ b j, w_fd ws b j = if b = v_ad (n_v vs 2) ∧ j = 157 then n_v vs 17 else w_fd w1 b j := s1
  obtain ⟨f5, hf⟩ := fc_un (by decide) hf
  have f5 : v_iv (n_v vs 17) = v_iv (n_v vs 12) + v_iv (n_v vs 16) := f5
  obtain ⟨f6, hf⟩ := fc_un (by decide) hf
  have f6 : n_v vs 12 = w_fd w1 (v_ad (n_v vs 2)) 157 := f6
  obtain ⟨f7, hf⟩ := fc_un (by decide) hf
  have f7 : (w_fi w1 (n_v vs 2) 157 ≤ v_iv (n_v vs 6)) ∧ ((v_iv (n_v vs 6) ≤ w_fi w1 (n_v vs 2) 11) ∧ ((v_iv (n_v vs 7) = 0) ∨ ((v_iv (n_v vs 7) = 4) ∨ ((v_iv (n_v vs 6) + 1) ≤ w_fi w1 (n_v vs 2) 11)))) := f7
  obtain ⟨f8, hf⟩ := fc_un (by decide) hf
  have f8 : (-1) * v_iv (n_v vs 10) + ((-2) * v_iv (n_v vs 6) + 0) ≤ (-4001) := f8
  obtain ⟨ta2, w2, le2, ⟨_, s2⟩, hf⟩ := fc_us (by decide) hf
  have s2 : (∀ b j, w_el w1 b j = if b = v_ad (n_v vs 15) ∧ j = (v_iv (n_v vs 12)).toNat then v_iv (n_v vs 9) else w_el w2 b j) ∧ ∀ b k, w_fd w1 b k = w_fd w2 b k := s2
  obtain ⟨f10, hf⟩ := fc_un (by decide) hf
  have f10 : n_v vs 9 = w_fd w2 (v_ad (n_v vs 2)) 11 := f10
  obtain ⟨f11, hf⟩ := fc_un (by decide) hf
  have f11 : n_v vs 15 = w_fd w2 (v_ad (n_v vs 2)) 163 := f11
  obtain ⟨f12, hf⟩ := fc_un (by decide) hf
  have f12 : (w_fi w2 (n_v vs 2) 157 ≤ v_iv (n_v vs 6)) ∧ ((v_iv (n_v vs 6) ≤ w_fi w2 (n_v vs 2) 11) ∧ ((v_iv (n_v vs 7) = 0) ∨ ((v_iv (n_v vs 7) = 4) ∨ ((v_iv (n_v vs 6) + 1) ≤ w_fi w2 (n_v vs 2) 11)))) := f12
  obtain ⟨f13, hf⟩ := fc_un (by decide) hf
  have f13 : (-1) * v_iv (n_v vs 10) + ((-2) * v_iv (n_v vs 6) + 0) ≤ (-4001) := f13
  obtain ⟨ta3, w3, le3, ⟨_, s3⟩, hf⟩ := fc_us (by decide) hf
  have s3 : (∀ b j, w_el w2 b j = if b = v_ad (n_v vs 14) ∧ j = (v_iv (n_v vs 12)).toNat then v_iv (n_v vs 6) else w_el w3 b j) ∧ ∀ b k, w_fd w2 b k = w_fd w3 b k := s3
  obtain ⟨f15, hf⟩ := fc_un (by decide) hf
  have f15 : n_v vs 14 = w_fd w3 (v_ad (n_v vs 2)) 162 := f15
  obtain ⟨f16, hf⟩ := fc_un (by decide) hf
  have f16 : (w_fi w3 (n_v vs 2) 157 ≤ v_iv (n_v vs 6)) ∧ ((v_iv (n_v vs 6) ≤ w_fi w3 (n_v vs 2) 11) ∧ ((v_iv (n_v vs 7) = 0) ∨ ((v_iv (n_v vs 7) = 4) ∨ ((v_iv (n_v vs 6) + 1) ≤ w_fi w3 (n_v vs 2) 11)))) := f16
  obtain ⟨f17, hf⟩ := fc_un (by decide) hf
  have f17 : (-1) * v_iv (n_v vs 10) + ((-2) * v_iv (n_v vs 6) + 0) ≤ (-4001) := f17
  obtain ⟨ta4, w4, le4, ⟨_, s4⟩, hf⟩ := fc_us (by decide) hf
  have s4 : (∀ b j, w_el w3 b j = if b = v_ad (n_v vs 13) ∧ j = (v_iv (n_v vs 12)).toNat then v_iv (n_v vs 8) else w_el w4 b j) ∧ ∀ b k, w_fd w3 b k = w_fd w4 b k := s4
  obtain ⟨f19, hf⟩ := fc_un (by decide) hf
  have f19 : n_v vs 13 = w_fd w4 (v_ad (n_v vs 2)) 161 := f19
  obtain ⟨f20, hf⟩ := fc_un (by decide) hf
  have f20 : (w_fi w4 (n_v vs 2) 157 ≤ v_iv (n_v vs 6)) ∧ ((v_iv (n_v vs 6) ≤ w_fi w4 (n_v vs 2) 11) ∧ ((v_iv (n_v vs 7) = 0) ∨ ((v_iv (n_v vs 7) = 4) ∨ ((v_iv (n_v vs 6) + 1) ≤ w_fi w4 (n_v vs 2) 11)))) := f20
  obtain ⟨f21, hf⟩ := fc_un (by decide) hf
  have f21 : (-1) * v_iv (n_v vs 10) + ((-2) * v_iv (n_v vs 6) + 0) ≤ (-4001) := f21
  obtain ⟨ta5, w5, le5, ⟨_, s5⟩, hf⟩ := fc_us (by decide) hf
  have s5 : (∀ b j, w_el w4 b j = if b = v_ad (n_v vs 11) ∧ j = (v_iv (n_v vs 12)).toNat then v_iv (n_v vs 7) else w_el w5 b j) ∧ ∀ b k, w_fd w4 b k = w_fd w5 b k := s5
  obtain ⟨f23, hf⟩ := fc_un (by decide) hf
  have f23 : n_v vs 11 = w_fd w5 (v_ad (n_v vs 2)) 160 := f23
  obtain ⟨f24, hf⟩ := fc_un (by decide) hf
  have f24 : (w_fi w5 (n_v vs 2) 157 ≤ v_iv (n_v vs 6)) ∧ ((v_iv (n_v vs 6) ≤ w_fi w5 (n_v vs 2) 11) ∧ ((v_iv (n_v vs 7) = 0) ∨ ((v_iv (n_v vs 7) = 4) ∨ ((v_iv (n_v vs 6) + 1) ≤ w_fi w5 (n_v vs 2) 11)))) := f24
  obtain ⟨f25, hf⟩ := fc_un (by decide) hf
  have f25 : (-1) * v_iv (n_v vs 10) + ((-2) * v_iv (n_v vs 6) + 0) ≤ (-4001) := f25
  have q2 : n_v vs 2 = n_v vs 0 := f3.symm
  rw [q2] at s1
  rw [q2] at f6
  rw [q2] at f7
  rw [q2] at f10
  rw [q2] at f11
  rw [q2] at f12
  rw [q2] at f15
  rw [q2] at f16
  rw [q2] at f19
  rw [q2] at f20
  rw [q2] at f23
  rw [q2] at f24
  have ar_0_160_1 : w_ar w1 (n_v vs 0) 160 = w_ar ws (n_v vs 0) 160 := by show v_ad (w_fd w1 _ _) = v_ad (w_fd ws _ _); rw [s1.2, if_neg (fun e => absurd e.2 (by decide))]
  have ar_0_160_2 : w_ar w2 (n_v vs 0) 160 = w_ar ws (n_v vs 0) 160 := by rw [← ar_0_160_1]; show v_ad (w_fd w2 _ _) = v_ad (w_fd w1 _ _); rw [s2.2]
  have ar_0_160_3 : w_ar w3 (n_v vs 0) 160 = w_ar ws (n_v vs 0) 160 := by rw [← ar_0_160_2]; show v_ad (w_fd w3 _ _) = v_ad (w_fd w2 _ _); rw [s3.2]
  have ar_0_160_4 : w_ar w4 (n_v vs 0) 160 = w_ar ws (n_v vs 0) 160 := by rw [← ar_0_160_3]; show v_ad (w_fd w4 _ _) = v_ad (w_fd w3 _ _); rw [s4.2]
  have ar_0_160_5 : w_ar w5 (n_v vs 0) 160 = w_ar ws (n_v vs 0) 160 := by rw [← ar_0_160_4]; show v_ad (w_fd w5 _ _) = v_ad (w_fd w4 _ _); rw [s5.2]
  have cr_0_160 : ta (w_ar ws (n_v vs 0) 160) = some 259 := tv_rg (th_fd hD hth r0 (g := GG_150) rfl (k := 160) (t := (2, 0, 0, [259])) rfl rfl)
  have ar_0_161_1 : w_ar w1 (n_v vs 0) 161 = w_ar ws (n_v vs 0) 161 := by show v_ad (w_fd w1 _ _) = v_ad (w_fd ws _ _); rw [s1.2, if_neg (fun e => absurd e.2 (by decide))]
  have ar_0_161_2 : w_ar w2 (n_v vs 0) 161 = w_ar ws (n_v vs 0) 161 := by rw [← ar_0_161_1]; show v_ad (w_fd w2 _ _) = v_ad (w_fd w1 _ _); rw [s2.2]
  have ar_0_161_3 : w_ar w3 (n_v vs 0) 161 = w_ar ws (n_v vs 0) 161 := by rw [← ar_0_161_2]; show v_ad (w_fd w3 _ _) = v_ad (w_fd w2 _ _); rw [s3.2]
  have ar_0_161_4 : w_ar w4 (n_v vs 0) 161 = w_ar ws (n_v vs 0) 161 := by rw [← ar_0_161_3]; show v_ad (w_fd w4 _ _) = v_ad (w_fd w3 _ _); rw [s4.2]
  have ar_0_161_5 : w_ar w5 (n_v vs 0) 161 = w_ar ws (n_v vs 0) 161 := by rw [← ar_0_161_4]; show v_ad (w_fd w5 _ _) = v_ad (w_fd w4 _ _); rw [s5.2]
  have cr_0_161 : ta (w_ar ws (n_v vs 0) 161) = some 260 := tv_rg (th_fd hD hth r0 (g := GG_150) rfl (k := 161) (t := (2, 0, 0, [260])) rfl rfl)
  have ar_0_162_1 : w_ar w1 (n_v vs 0) 162 = w_ar ws (n_v vs 0) 162 := by show v_ad (w_fd w1 _ _) = v_ad (w_fd ws _ _); rw [s1.2, if_neg (fun e => absurd e.2 (by decide))]
  have ar_0_162_2 : w_ar w2 (n_v vs 0) 162 = w_ar ws (n_v vs 0) 162 := by rw [← ar_0_162_1]; show v_ad (w_fd w2 _ _) = v_ad (w_fd w1 _ _); rw [s2.2]
  have ar_0_162_3 : w_ar w3 (n_v vs 0) 162 = w_ar ws (n_v vs 0) 162 := by rw [← ar_0_162_2]; show v_ad (w_fd w3 _ _) = v_ad (w_fd w2 _ _); rw [s3.2]
  have ar_0_162_4 : w_ar w4 (n_v vs 0) 162 = w_ar ws (n_v vs 0) 162 := by rw [← ar_0_162_3]; show v_ad (w_fd w4 _ _) = v_ad (w_fd w3 _ _); rw [s4.2]
  have ar_0_162_5 : w_ar w5 (n_v vs 0) 162 = w_ar ws (n_v vs 0) 162 := by rw [← ar_0_162_4]; show v_ad (w_fd w5 _ _) = v_ad (w_fd w4 _ _); rw [s5.2]
  have cr_0_162 : ta (w_ar ws (n_v vs 0) 162) = some 261 := tv_rg (th_fd hD hth r0 (g := GG_150) rfl (k := 162) (t := (2, 0, 0, [261])) rfl rfl)
  have ar_0_163_1 : w_ar w1 (n_v vs 0) 163 = w_ar ws (n_v vs 0) 163 := by show v_ad (w_fd w1 _ _) = v_ad (w_fd ws _ _); rw [s1.2, if_neg (fun e => absurd e.2 (by decide))]
  have ar_0_163_2 : w_ar w2 (n_v vs 0) 163 = w_ar ws (n_v vs 0) 163 := by rw [← ar_0_163_1]; show v_ad (w_fd w2 _ _) = v_ad (w_fd w1 _ _); rw [s2.2]
  have ar_0_163_3 : w_ar w3 (n_v vs 0) 163 = w_ar ws (n_v vs 0) 163 := by rw [← ar_0_163_2]; show v_ad (w_fd w3 _ _) = v_ad (w_fd w2 _ _); rw [s3.2]
  have ar_0_163_4 : w_ar w4 (n_v vs 0) 163 = w_ar ws (n_v vs 0) 163 := by rw [← ar_0_163_3]; show v_ad (w_fd w4 _ _) = v_ad (w_fd w3 _ _); rw [s4.2]
  have ar_0_163_5 : w_ar w5 (n_v vs 0) 163 = w_ar ws (n_v vs 0) 163 := by rw [← ar_0_163_4]; show v_ad (w_fd w5 _ _) = v_ad (w_fd w4 _ _); rw [s5.2]
  have cr_0_163 : ta (w_ar ws (n_v vs 0) 163) = some 262 := tv_rg (th_fd hD hth r0 (g := GG_150) rfl (k := 163) (t := (2, 0, 0, [262])) rfl rfl)
  have ad_15 : v_ad (n_v vs 15) = w_ar ws (n_v vs 0) 163 := (congrArg v_ad f11).trans ar_0_163_2
  have ad_14 : v_ad (n_v vs 14) = w_ar ws (n_v vs 0) 162 := (congrArg v_ad f15).trans ar_0_162_3
  have ad_13 : v_ad (n_v vs 13) = w_ar ws (n_v vs 0) 161 := (congrArg v_ad f19).trans ar_0_161_4
  have ad_11 : v_ad (n_v vs 11) = w_ar ws (n_v vs 0) 160 := (congrArg v_ad f23).trans ar_0_160_5
  have g6 : v_iv (n_v vs 12) = w_fi w1 (n_v vs 0) 157 := congrArg v_iv f6
  have g10 : v_iv (n_v vs 9) = w_fi w2 (n_v vs 0) 11 := congrArg v_iv f10
  have fe_0_11_1 : w_fi ws (n_v vs 0) 11 = w_fi w1 (n_v vs 0) 11 := by show v_iv (w_fd _ _ _) = v_iv (w_fd _ _ _); rw [s1.2, if_neg (fun e => absurd e.2 (by decide))]
  have fe_0_157_1 : w_fi ws (n_v vs 0) 157 = v_iv (n_v vs 17) := by show v_iv (w_fd _ _ _) = _; rw [s1.2, if_pos ⟨rfl, rfl⟩]
  have fe_0_11_2 : w_fi w1 (n_v vs 0) 11 = w_fi w2 (n_v vs 0) 11 := congrArg v_iv (s2.2 _ _)
  have fe_0_157_2 : w_fi w1 (n_v vs 0) 157 = w_fi w2 (n_v vs 0) 157 := congrArg v_iv (s2.2 _ _)
  have fe_0_11_3 : w_fi w2 (n_v vs 0) 11 = w_fi w3 (n_v vs 0) 11 := congrArg v_iv (s3.2 _ _)
  have fe_0_157_3 : w_fi w2 (n_v vs 0) 157 = w_fi w3 (n_v vs 0) 157 := congrArg v_iv (s3.2 _ _)
  have fe_0_11_4 : w_fi w3 (n_v vs 0) 11 = w_fi w4 (n_v vs 0) 11 := congrArg v_iv (s4.2 _ _)
  have fe_0_157_4 : w_fi w3 (n_v vs 0) 157 = w_fi w4 (n_v vs 0) 157 := congrArg v_iv (s4.2 _ _)
  have fe_0_11_5 : w_fi w4 (n_v vs 0) 11 = w_fi w5 (n_v vs 0) 11 := congrArg v_iv (s5.2 _ _)
  have fe_0_157_5 : w_fi w4 (n_v vs 0) 157 = w_fi w5 (n_v vs 0) 157 := congrArg v_iv (s5.2 _ _)
  have hE_0_160_1 : ∀ j : Int, w_ei ws (w_ar ws (n_v vs 0) 160) j = w_ei w1 (w_ar ws (n_v vs 0) 160) j := fun j => s1.1 _ _
  have hE_0_160_2 : ∀ j : Int, w_ei w1 (w_ar ws (n_v vs 0) 160) j = w_ei w2 (w_ar ws (n_v vs 0) 160) j := fun j => by unfold w_ei; rw [s2.1, if_neg (fun e => by have e1 := e.1; rw [← e1] at r15; rw [cr_0_160] at r15; exact absurd (Option.some.inj r15) (by decide))]
  have hE_0_160_3 : ∀ j : Int, w_ei w2 (w_ar ws (n_v vs 0) 160) j = w_ei w3 (w_ar ws (n_v vs 0) 160) j := fun j => by unfold w_ei; rw [s3.1, if_neg (fun e => by have e1 := e.1; rw [← e1] at r14; rw [cr_0_160] at r14; exact absurd (Option.some.inj r14) (by decide))]
  have hE_0_160_4 : ∀ j : Int, w_ei w3 (w_ar ws (n_v vs 0) 160) j = w_ei w4 (w_ar ws (n_v vs 0) 160) j := fun j => by unfold w_ei; rw [s4.1, if_neg (fun e => by have e1 := e.1; rw [← e1] at r13; rw [cr_0_160] at r13; exact absurd (Option.some.inj r13) (by decide))]
  have hE_0_160_5 : ∀ j : Int, 0 ≤ j → (j = v_iv (n_v vs 12) → w_ei w4 (w_ar ws (n_v vs 0) 160) j = v_iv (n_v vs 7)) ∧ (j ≠ v_iv (n_v vs 12) → w_ei w4 (w_ar ws (n_v vs 0) 160) j = w_ei w5 (w_ar ws (n_v vs 0) 160) j) := fun j hj => ⟨fun h => by unfold w_ei; rw [s5.1, if_pos ⟨ad_11.symm, by rw [h]⟩], fun h => by unfold w_ei; rw [s5.1, if_neg (fun e => h (by have := e.2; omega))]⟩
  have hK_0_160 : ∀ j : Int, 0 ≤ j → j < 2010 → 0 ≤ w_ei ws (w_ar ws (n_v vs 0) 160) j ∧ w_ei ws (w_ar ws (n_v vs 0) 160) j ≤ 4 := fun j h0 h1 => th_el hD hth cr_0_160 (kd := 0) (n := 2010) (m := 2010) (lo := 0) (hi := 4) (rs := []) (L := []) rfl (by decide) (j := j.toNat) (by omega)
  have kz_0_11 : 0 ≤ w_fi ws (n_v vs 0) 11 ∧ w_fi ws (n_v vs 0) 11 ≤ 2000 := tv_rng (th_fd hD hth r0 (g := GG_150) rfl (k := 11) (t := (0, 0, 2000, [])) rfl rfl)
  have kz_0_157 : 0 ≤ w_fi ws (n_v vs 0) 157 ∧ w_fi ws (n_v vs 0) 157 ≤ 2010 := tv_rng (th_fd hD hth r0 (g := GG_150) rfl (k := 157) (t := (0, 0, 2010, [])) rfl rfl)
  have kb_0_11 : 0 ≤ w_fi ws (n_v vs 0) 11 ∧ w_fi ws (n_v vs 0) 11 ≤ 2000 := tv_rng (th_fd hD hth r0 (g := GG_150) rfl (k := 11) (t := (0, 0, 2000, [])) rfl rfl)
  obtain ⟨x, ex, hx⟩ := iv_ex (ta := ta) (lo := 0) (hi := 4001) (z := 4000 + ((-2) * w_fi ws (n_v vs 0) 11 + (1 * v_iv (n_v vs 19) + 0))) (by omega) (by omega) (by decide) (by decide)
  have ex2 : v_iv (Value.int x) = 4000 + ((-2) * w_fi ws (n_v vs 0) 11 + (1 * v_iv (n_v vs 19) + 0)) := ex
  have ex3 : 0 ≤ v_iv (Value.int x) ∧ v_iv (Value.int x) ≤ 4001 := tv_rng hx
  have e_0 : n_v (vs ++ [Value.int x]) 0 = n_v vs 0 := n_v_old (by rw [hl]; decide)
  have e_2 : n_v (vs ++ [Value.int x]) 2 = n_v vs 2 := n_v_old (by rw [hl]; decide)
  have e_19 : n_v (vs ++ [Value.int x]) 19 = n_v vs 19 := n_v_old (by rw [hl]; decide)
  have e_20 : n_v (vs ++ [Value.int x]) 20 = Value.int x := n_v_new hl
  have nf0 : fc_1 (20, [2, 19], [50, 2, 1, 157, 11, 160, 2, 16, 0, 7, 4, 3, 2, 0, 157, 1, 1, 4, 3, 2, 0, 11, 0, 1, 3, 6, 1, 2, 1, 1, 0, 1, 2, 7, 0, 2, 0, 1, 2, 0, 157, 3, 14, 1, 10, 3, 0, 160, 5, 3, 2, 0, 157, 0, 1, 0, 0, 1, 10, 3, 0, 160, 5, 3, 2, 0, 157, 0, 1, 0, 4]) ws (vs ++ [Value.int x]) := by
    refine ⟨fun n hn => ?_, ?_⟩
    · have hn : n ∈ [2, 19] := hn
      rw [List.length_append, hl]
      simp only [List.mem_cons, List.not_mem_nil, or_false] at hn
      show n < 20 + 1; omega
    · show ((w_fi ws (n_v (vs ++ [Value.int x]) 2) 157 + v_iv (n_v (vs ++ [Value.int x]) 19)) ≤ (w_fi ws (n_v (vs ++ [Value.int x]) 2) 11 + 1)) ∧ ((v_iv (n_v (vs ++ [Value.int x]) 19) = 1) ∨ ((1 ≤ w_fi ws (n_v (vs ++ [Value.int x]) 2) 157) ∧ ((w_ei ws (w_ar ws (n_v (vs ++ [Value.int x]) 2) 160) ((w_fi ws (n_v (vs ++ [Value.int x]) 2) 157 - 1)) = 0) ∨ (w_ei ws (w_ar ws (n_v (vs ++ [Value.int x]) 2) 160) ((w_fi ws (n_v (vs ++ [Value.int x]) 2) 157 - 1)) = 4))))
      rw [e_2]
      rw [e_19]
      rw [q2]
      first | omega | grind
  have nf1 : fc_1 (24, [0, 2], []) ws (vs ++ [Value.int x]) := by
    refine ⟨fun n hn => ?_, ?_⟩
    · have hn : n ∈ [0, 2] := hn
      rw [List.length_append, hl]
      simp only [List.mem_cons, List.not_mem_nil, or_false] at hn
      show n < 20 + 1; omega
    · show n_v (vs ++ [Value.int x]) 0 = n_v (vs ++ [Value.int x]) 2
      first | rfl | simp only [e_0, e_2, q2]
  have nf2 : fc_1 (20, [20, 2, 19], [30, 4000, 1, 0, 0, 2, 1, 11, -1, 0, 0]) ws (vs ++ [Value.int x]) := by
    refine ⟨fun n hn => ?_, ?_⟩
    · have hn : n ∈ [20, 2, 19] := hn
      rw [List.length_append, hl]
      simp only [List.mem_cons, List.not_mem_nil, or_false] at hn
      show n < 20 + 1; omega
    · show 1 * v_iv (n_v (vs ++ [Value.int x]) 20) + (2 * w_fi ws (n_v (vs ++ [Value.int x]) 2) 11 + ((-1) * v_iv (n_v (vs ++ [Value.int x]) 19) + 0)) ≤ 4000
      rw [e_2]
      rw [e_19]
      rw [e_20]
      rw [q2]
      omega
  have nf3 : fc_1 (20, [20, 2, 19], [30, -4000, -1, 0, 0, -2, 1, 11, 1, 0, 0]) ws (vs ++ [Value.int x]) := by
    refine ⟨fun n hn => ?_, ?_⟩
    · have hn : n ∈ [20, 2, 19] := hn
      rw [List.length_append, hl]
      simp only [List.mem_cons, List.not_mem_nil, or_false] at hn
      show n < 20 + 1; omega
    · show (-1) * v_iv (n_v (vs ++ [Value.int x]) 20) + ((-2) * w_fi ws (n_v (vs ++ [Value.int x]) 2) 11 + (1 * v_iv (n_v (vs ++ [Value.int x]) 19) + 0)) ≤ (-4000)
      rw [e_2]
      rw [e_19]
      rw [e_20]
      rw [q2]
      omega
  obtain ⟨x0, e0, _, _⟩ := tv_int t10 rfl
  have e1 : v_iv (n_v vs 10) = x0.toInt := by rw [e0]; rfl
  have ho : sy_ofs (vs ++ [Value.int x]) (20, 10, -1000000000000, -1) := by
    refine ⟨x, x0, by rw [List.getElem?_append_right (by rw [hl]; decide), hl]; rfl, ?_, ?_, ?_⟩
    · rw [List.getElem?_append_left (by rw [hl]; decide)]; exact n_v_some (by rw [hl]; decide) e0
    · show x0.toInt + (-1000000000000) ≤ x.toInt; omega
    · show x.toInt ≤ x0.toInt + (-1); omega
  exact ⟨fun q hq => (by cases hq), [Value.int x], ag_one hx, List.forall_mem_cons.mpr ⟨⟨by decide, nf0⟩, List.forall_mem_cons.mpr ⟨⟨by decide, nf1⟩, List.forall_mem_cons.mpr ⟨⟨by decide, nf2⟩, List.forall_mem_cons.mpr ⟨⟨by decide, nf3⟩, (fun _ h => (by cases h))⟩⟩⟩⟩, List.forall_mem_cons.mpr ⟨ho, (fun _ h => (by cases h))⟩⟩
def t_Mo_styleTokens_ct : ct_L := [(0, 387, e_Mo_in), (0, 444, e_Mo_isDigit), (1, 425, e_Mo_byteAt)]
def n_Mo_styleTokens_a0 : an_T := (17, [(0, (2, 0, 0, [150])), (1, (0, 0, 2000, [])), (2, (0, 0, 1, []))], [], (0, 0), [(0, 0, 99983), (2, 7, 0), (0, 0, 100000), (0, 0, 0), (0, 0, 0)], [(1, 3, -1000000000000, 0), (1, 4, -1000000000000, 2000), (1, 5, -1000000000000, 2000), (1, 6, -1000000000000, 2000), (3, 1, -1000000000000, 0), (3, 4, -1000000000000, 2000), (3, 5, -1000000000000, 2000), (3, 6, -1000000000000, 2000), (4, 1, -1000000000000, 1), (4, 3, -1000000000000, 1), (4, 5, -1000000000000, 1), (4, 6, -1000000000000, 1), (6, 1, -1000000000000, 2001), (6, 3, -1000000000000, 2001), (6, 4, -1000000000000, 2001), (6, 5, -1000000000000, 2001)], [((0, 11), (0, 0, 2000, [])), ((0, 157), (0, 0, 2001, []))], [(2, 0, 0, [150]), (0, 0, 2000, [])], 0, [(0, 0, 4001, [])], [(20, [2, 4], [50, 2, 1, 157, 11, 160, 2, 16, 0, 7, 4, 3, 2, 0, 157, 1, 1, 4, 3, 2, 0, 11, 0, 1, 3, 6, 1, 2, 1, 1, 0, 1, 2, 7, 0, 2, 0, 1, 2, 0, 157, 3, 14, 1, 10, 3, 0, 160, 5, 3, 2, 0, 157, 0, 1, 0, 0, 1, 10, 3, 0, 160, 5, 3, 2, 0, 157, 0, 1, 0, 4]), (24, [0, 2], []), (20, [7, 2, 4], [30, 4000, 1, 0, 0, 2, 1, 11, -1, 0, 0]), (20, [7, 2, 4], [30, -4000, -1, 0, 0, -2, 1, 11, 1, 0, 0])])
def n_Mo_styleTokens_a1 : an_T := (21, [(0, (2, 0, 0, [150])), (1, (0, 0, 2000, [])), (2, (0, 1, 1, []))], [], (0, 0), [(0, 0, 99983), (2, 6, 0), (0, 0, 99979), (1, 5, 2000), (0, 0, 100000)], [(1, 3, -1000000000000, 0), (1, 4, -1000000000000, 1999), (1, 5, -1000000000000, 2000), (3, 1, -1000000000000, 0), (3, 4, -1000000000000, 1999), (3, 5, -1000000000000, 2000), (4, 1, -1000000000000, 1), (4, 3, -1000000000000, 1), (4, 5, -1000000000000, 1)], [((0, 11), (0, 0, 2000, []))], [(2, 0, 0, [150]), (0, 0, 2000, [])], 0, [(0, 0, 4001, [])], [(20, [2], [50, 2, 0, 157, 11, 0, 3, 2, 0, 157, 2, 0, 11]), (20, [6, 2], [30, -4001, -1, 0, 0, -2, 1, 11]), (24, [0, 2], [])])
def n_Mo_styleTokens_a2 : an_T := (103, [(0, (2, 0, 0, [150])), (1, (0, 0, 2000, [])), (2, (0, 1, 1, [])), (3, (0, 97, 122, [])), (4, (0, 0, 1999, [])), (5, (0, 4, 4, [])), (6, (1, 0, 255, []))], [], (0, 0), [(0, 0, 99983), (2, 10, 0), (0, 0, 99897), (1, 9, 2000), (0, 0, 100000)], [(1, 3, -1000000000000, 0), (1, 4, -1000000000000, 1999), (1, 5, -1000000000000, 1903), (1, 6, -1000000000000, 2000), (1, 7, -1000000000000, 1996), (1, 9, -1000000000000, 2000), (3, 1, -1000000000000, 0), (3, 4, -1000000000000, 1999), (3, 5, -1000000000000, 1903), (3, 6, -1000000000000, 2000), (3, 7, -1000000000000, 1996), (3, 9, -1000000000000, 2000), (4, 1, -1000000000000, 1), (4, 3, -1000000000000, 1), (4, 5, -1000000000000, -96), (4, 6, -1000000000000, 1), (4, 7, -1000000000000, -3), (4, 9, -1000000000000, 1), (5, 1, -1000000000000, 122), (5, 3, -1000000000000, 122), (5, 4, -1000000000000, 121), (5, 6, -1000000000000, 122), (5, 7, -1000000000000, 118), (5, 9, -1000000000000, 122), (6, 9, -1000000000000, 0), (7, 1, -1000000000000, 4), (7, 3, -1000000000000, 4), (7, 4, -1000000000000, 3), (7, 5, -1000000000000, -93), (7, 6, -1000000000000, 4), (7, 9, -1000000000000, 4)], [((0, 11), (0, 0, 2000, []))], [(2, 0, 0, [150]), (0, 0, 2000, [])], 0, [(0, 0, 4001, [])], [(20, [2, 6], [50, 3, 1, 157, 11, 10, 1, 2, 7, 0, 3, 2, 0, 157, 1, 1, 2, 7, 0, 2, 1, 1, 2, 0, 11, 3, 11, 0, 6, 4, 2, 1, 1, 0, 1, 2, 0, 11, 2, 7, 1, 3, 2, 0, 11, 1, 1, 2, 11, 0, 6, 4, 2, 1, 1, 0, 1, 2, 0, 10, 2, 13, 0, 2, 0, 97, 9, 5, 3, 0, 1, 1, 1, 0, 256, 0, 9, 9, 5, 3, 0, 1, 1, 1, 0, 256, 0, 122]), (20, [10, 6], [30, -4001, -1, 0, 0, -2, 0, 0]), (24, [0, 2], [])])
def n_Mo_styleTokens_a3 : an_T := (166, [(0, (2, 0, 0, [150])), (1, (0, 0, 2000, [])), (2, (0, 1, 1, [])), (3, (0, 48, 57, [])), (4, (0, 0, 1999, [])), (5, (0, 4, 4, [])), (6, (1, -9223372036854775808, 9223372036854775807, []))], [], (0, 0), [(0, 0, 99983), (2, 10, 0), (0, 0, 99834), (1, 9, 2000), (0, 0, 100000)], [(1, 3, -1000000000000, 0), (1, 4, -1000000000000, 1999), (1, 5, -1000000000000, 1952), (1, 6, -1000000000000, 2000), (1, 7, -1000000000000, 1996), (1, 9, -1000000000000, 2000), (3, 1, -1000000000000, 0), (3, 4, -1000000000000, 1999), (3, 5, -1000000000000, 1952), (3, 6, -1000000000000, 2000), (3, 7, -1000000000000, 1996), (3, 9, -1000000000000, 2000), (4, 1, -1000000000000, 1), (4, 3, -1000000000000, 1), (4, 5, -1000000000000, -47), (4, 6, -1000000000000, 1), (4, 7, -1000000000000, -3), (4, 9, -1000000000000, 1), (5, 1, -1000000000000, 57), (5, 3, -1000000000000, 57), (5, 4, -1000000000000, 56), (5, 6, -1000000000000, 57), (5, 7, -1000000000000, 53), (5, 9, -1000000000000, 57), (6, 9, -1000000000000, 0), (7, 1, -1000000000000, 4), (7, 3, -1000000000000, 4), (7, 4, -1000000000000, 3), (7, 5, -1000000000000, -44), (7, 6, -1000000000000, 4), (7, 9, -1000000000000, 4)], [((0, 11), (0, 0, 2000, []))], [(2, 0, 0, [150]), (0, 0, 2000, [])], 0, [(0, 0, 4001, [])], [(20, [2, 6], [50, 3, 1, 157, 11, 10, 1, 2, 7, 0, 3, 2, 0, 157, 1, 1, 2, 7, 0, 2, 1, 1, 2, 0, 11, 3, 11, 0, 6, 4, 2, 1, 1, 0, 1, 2, 0, 11, 2, 7, 1, 3, 2, 0, 11, 1, 1, 2, 11, 0, 6, 4, 2, 1, 1, 0, 1, 2, 0, 10, 2, 13, 0, 2, 0, 48, 9, 5, 3, 0, 1, 1, 1, 0, 256, 0, 9, 9, 5, 3, 0, 1, 1, 1, 0, 256, 0, 57]), (20, [10, 6], [30, -4001, -1, 0, 0, -2, 0, 0]), (24, [0, 2], [])])
def n_Mo_styleTokens_a4 : an_T := (339, [(0, (2, 0, 0, [150])), (1, (0, 0, 2000, [])), (2, (0, 1, 1, [])), (3, (0, 0, 255, [])), (4, (0, 0, 1999, [])), (5, (0, 4, 4, [])), (6, (1, 0, 255, []))], [(0, 0, 1, [])], (0, 0), [(0, 0, 99983), (2, 11, 0), (0, 0, 99661), (0, 0, 0), (0, 0, 0)], [(1, 3, -1000000000000, 0), (1, 4, -1000000000000, 1999), (1, 5, -1000000000000, 2000), (1, 6, -1000000000000, 2000), (1, 7, -1000000000000, 1996), (1, 9, -1000000000000, 2000), (1, 10, -1000000000000, 2000), (3, 1, -1000000000000, 0), (3, 4, -1000000000000, 1999), (3, 5, -1000000000000, 2000), (3, 6, -1000000000000, 2000), (3, 7, -1000000000000, 1996), (3, 9, -1000000000000, 2000), (3, 10, -1000000000000, 2000), (4, 1, -1000000000000, 1), (4, 3, -1000000000000, 1), (4, 5, -1000000000000, 1), (4, 6, -1000000000000, 1), (4, 7, -1000000000000, -3), (4, 9, -1000000000000, 1), (4, 10, -1000000000000, 1), (6, 10, -1000000000000, 0), (7, 1, -1000000000000, 4), (7, 3, -1000000000000, 4), (7, 4, -1000000000000, 3), (7, 5, -1000000000000, 4), (7, 6, -1000000000000, 4), (7, 9, -1000000000000, 4), (7, 10, -1000000000000, 4), (9, 1, -1000000000000, 1), (9, 3, -1000000000000, 1), (9, 4, -1000000000000, 0), (9, 5, -1000000000000, 0), (9, 6, -1000000000000, 1), (9, 7, -1000000000000, -3), (9, 10, -1000000000000, 1), (10, 6, -1000000000000, 0)], [((0, 11), (0, 0, 1999, []))], [(2, 0, 0, [150]), (0, 0, 2000, [])], 0, [(0, 0, 4001, [])], [(20, [2, 6], [50, 2, 0, 157, 11, 2, 7, 0, 3, 2, 0, 157, 1, 1, 1, 3, 2, 0, 11, 1, 1]), (20, [11, 6], [30, -4001, -1, 0, 0, -2, 0, 0]), (24, [0, 2], [])])
def n_Mo_styleTokens_a5 : an_T := (363, [(0, (2, 0, 0, [150])), (1, (0, 0, 2000, [])), (2, (0, 1, 1, [])), (3, (0, -1, 255, [])), (4, (0, 0, 2000, [])), (5, (0, 0, 4, [])), (6, (1, -9223372036854775808, 9223372036854775807, []))], [], (0, 0), [(0, 0, 99983), (2, 10, 0), (0, 0, 99637), (0, 0, 0), (0, 0, 0)], [(1, 3, -1000000000000, 0), (1, 4, -1000000000000, 1999), (1, 5, -1000000000000, 2001), (1, 6, -1000000000000, 2000), (1, 7, -1000000000000, 2000), (1, 9, -1000000000000, 2147485648), (3, 1, -1000000000000, 0), (3, 4, -1000000000000, 1999), (3, 5, -1000000000000, 2001), (3, 6, -1000000000000, 2000), (3, 7, -1000000000000, 2000), (3, 9, -1000000000000, 2147485648), (4, 1, -1000000000000, 1), (4, 3, -1000000000000, 1), (4, 5, -1000000000000, 2), (4, 6, -1000000000000, 1), (4, 7, -1000000000000, 1), (4, 9, -1000000000000, 2147483649), (5, 1, -1000000000000, 255), (5, 3, -1000000000000, 255), (5, 4, -1000000000000, 254), (5, 6, -1000000000000, 255), (5, 7, -1000000000000, 252), (5, 9, -1000000000000, 2147483903), (6, 9, -1000000000000, 4294967295), (7, 1, -1000000000000, 4), (7, 3, -1000000000000, 4), (7, 4, -1000000000000, 3), (7, 5, -1000000000000, 4), (7, 6, -1000000000000, 4), (7, 9, -1000000000000, 2147483652)], [((0, 11), (0, 0, 2000, []))], [(2, 0, 0, [150]), (0, 0, 2000, [])], 0, [(0, 0, 4001, [])], [(20, [2, 6, 7], [50, 2, 0, 157, 11, 2, 7, 0, 3, 2, 0, 157, 1, 1, 2, 7, 0, 2, 1, 1, 2, 0, 11, 3, 6, 1, 2, 1, 2, 0, 0, 3, 6, 1, 2, 1, 2, 0, 4, 0, 6, 4, 2, 1, 1, 0, 1, 2, 0, 11]), (20, [10, 6], [30, -4001, -1, 0, 0, -2, 0, 0]), (24, [0, 2], [])])
def n_Mo_styleTokens_an : List an_T := [n_Mo_styleTokens_a0, n_Mo_styleTokens_a1, n_Mo_styleTokens_a2, n_Mo_styleTokens_a3, n_Mo_styleTokens_a4, n_Mo_styleTokens_a5]
def x_Mo_styleTokens_ft : ft_L := [(342, 13, 160), (345, 13, 161), (348, 13, 162), (351, 13, 163), (422, 13, 11), (1160, 13, 157)]
def x_Mo_styleTokens_pt : pt_L := [(419, 13, 10, .int), (422, 13, 11, .int), (1160, 13, 157, .int)]
def x_Mo_styleTokens_kt : kt_L := [(2, 1163, .long (99999), (1, 99999, 99999, [])), (2, 1165, .long (10), (1, 10, 10, [])), (2, 1167, .long (48), (1, 48, 48, []))]
def x_Mo_styleTokens_nt : nt_L := []
def x_Mo_styleTokens_ot : List or_T := [o_Mo_styleTokens_0, o_Mo_styleTokens_1, o_Mo_styleTokens_2, o_Mo_styleTokens_3, o_Mo_styleTokens_4, o_Mo_styleTokens_5, o_Mo_styleTokens_6, o_Mo_styleTokens_7, o_Mo_styleTokens_8, o_Mo_styleTokens_9, o_Mo_styleTokens_10, o_Mo_styleTokens_11, o_Mo_styleTokens_12, o_Mo_styleTokens_13, o_Mo_styleTokens_14, o_Mo_styleTokens_15, o_Mo_styleTokens_16, o_Mo_styleTokens_17, o_Mo_styleTokens_18, o_Mo_styleTokens_19, o_Mo_styleTokens_20, o_Mo_styleTokens_21, o_Mo_styleTokens_22, o_Mo_styleTokens_23, o_Mo_styleTokens_24, o_Mo_styleTokens_25, o_Mo_styleTokens_26, o_Mo_styleTokens_27, o_Mo_styleTokens_28, o_Mo_styleTokens_29, o_Mo_styleTokens_30, o_Mo_styleTokens_31, o_Mo_styleTokens_32, o_Mo_styleTokens_33, o_Mo_styleTokens_34, o_Mo_styleTokens_35, o_Mo_styleTokens_36, o_Mo_styleTokens_37, o_Mo_styleTokens_38, o_Mo_styleTokens_39, o_Mo_styleTokens_40, o_Mo_styleTokens_41, o_Mo_styleTokens_42, o_Mo_styleTokens_43, o_Mo_styleTokens_44, o_Mo_styleTokens_45, o_Mo_styleTokens_46, o_Mo_styleTokens_47, o_Mo_styleTokens_48, o_Mo_styleTokens_49, o_Mo_styleTokens_50, o_Mo_styleTokens_51, o_Mo_styleTokens_52, o_Mo_styleTokens_53, o_Mo_styleTokens_54, o_Mo_styleTokens_55, o_Mo_styleTokens_56, o_Mo_styleTokens_57, o_Mo_styleTokens_58, o_Mo_styleTokens_59, o_Mo_styleTokens_60, o_Mo_styleTokens_61, o_Mo_styleTokens_62, o_Mo_styleTokens_63, o_Mo_styleTokens_64, o_Mo_styleTokens_65, o_Mo_styleTokens_66, o_Mo_styleTokens_67, o_Mo_styleTokens_68, o_Mo_styleTokens_69, o_Mo_styleTokens_70, o_Mo_styleTokens_71, o_Mo_styleTokens_72, o_Mo_styleTokens_73, o_Mo_styleTokens_74, o_Mo_styleTokens_75, o_Mo_styleTokens_76, o_Mo_styleTokens_77, o_Mo_styleTokens_78, o_Mo_styleTokens_79, o_Mo_styleTokens_80, o_Mo_styleTokens_81, o_Mo_styleTokens_82, o_Mo_styleTokens_83, o_Mo_styleTokens_84, o_Mo_styleTokens_85, o_Mo_styleTokens_86, o_Mo_styleTokens_87, o_Mo_styleTokens_88, o_Mo_styleTokens_89, o_Mo_styleTokens_90, o_Mo_styleTokens_91, o_Mo_styleTokens_92, o_Mo_styleTokens_93, o_Mo_styleTokens_94, o_Mo_styleTokens_95, o_Mo_styleTokens_96, o_Mo_styleTokens_97, o_Mo_styleTokens_98, o_Mo_styleTokens_99, o_Mo_styleTokens_100, o_Mo_styleTokens_101, o_Mo_styleTokens_102, o_Mo_styleTokens_103, o_Mo_styleTokens_104, o_Mo_styleTokens_105, o_Mo_styleTokens_106, o_Mo_styleTokens_107, o_Mo_styleTokens_108, o_Mo_styleTokens_109, o_Mo_styleTokens_110, o_Mo_styleTokens_111, o_Mo_styleTokens_112, o_Mo_styleTokens_113, o_Mo_styleTokens_114, o_Mo_styleTokens_115, o_Mo_styleTokens_116, o_Mo_styleTokens_117, o_Mo_styleTokens_118, o_Mo_styleTokens_119, o_Mo_styleTokens_120, o_Mo_styleTokens_121, o_Mo_styleTokens_122, o_Mo_styleTokens_123, o_Mo_styleTokens_124, o_Mo_styleTokens_125, o_Mo_styleTokens_126, o_Mo_styleTokens_127, o_Mo_styleTokens_128, o_Mo_styleTokens_129, o_Mo_styleTokens_130, o_Mo_styleTokens_131, o_Mo_styleTokens_132, o_Mo_styleTokens_133, o_Mo_styleTokens_134, o_Mo_styleTokens_135, o_Mo_styleTokens_136, o_Mo_styleTokens_137, o_Mo_styleTokens_138, o_Mo_styleTokens_139, o_Mo_styleTokens_140, o_Mo_styleTokens_141, o_Mo_styleTokens_142, o_Mo_styleTokens_143, o_Mo_styleTokens_144, o_Mo_styleTokens_145, o_Mo_styleTokens_146, o_Mo_styleTokens_147, o_Mo_styleTokens_148, o_Mo_styleTokens_149, o_Mo_styleTokens_150, o_Mo_styleTokens_151, o_Mo_styleTokens_152, o_Mo_styleTokens_153, o_Mo_styleTokens_154, o_Mo_styleTokens_155, o_Mo_styleTokens_156, o_Mo_styleTokens_157, o_Mo_styleTokens_158, o_Mo_styleTokens_159, o_Mo_styleTokens_160, o_Mo_styleTokens_161, o_Mo_styleTokens_162, o_Mo_styleTokens_163, o_Mo_styleTokens_164, o_Mo_styleTokens_165, o_Mo_styleTokens_166, o_Mo_styleTokens_167, o_Mo_styleTokens_168, o_Mo_styleTokens_169, o_Mo_styleTokens_170, o_Mo_styleTokens_171, o_Mo_styleTokens_172, o_Mo_styleTokens_173, o_Mo_styleTokens_174, o_Mo_styleTokens_175, o_Mo_styleTokens_176, o_Mo_styleTokens_177, o_Mo_styleTokens_178, o_Mo_styleTokens_179]
set_option maxRecDepth 100000 in
theorem g_Mo_styleTokens_0 : chk_an b_Mo_styleTokens 9 none e_Mo_styleTokens GG x_Mo_styleTokens_ft x_Mo_styleTokens_pt t_Mo_styleTokens_ct x_Mo_styleTokens_kt x_Mo_styleTokens_nt n_Mo_styleTokens_an x_Mo_styleTokens_ot 5 4360 n_Mo_styleTokens_a0 = true := by decide +kernel
set_option maxRecDepth 100000 in
theorem g_Mo_styleTokens_1 : chk_an b_Mo_styleTokens 9 none e_Mo_styleTokens GG x_Mo_styleTokens_ft x_Mo_styleTokens_pt t_Mo_styleTokens_ct x_Mo_styleTokens_kt x_Mo_styleTokens_nt n_Mo_styleTokens_an x_Mo_styleTokens_ot 5 4360 n_Mo_styleTokens_a1 = true := by decide +kernel
set_option maxRecDepth 100000 in
theorem g_Mo_styleTokens_2 : chk_an b_Mo_styleTokens 9 none e_Mo_styleTokens GG x_Mo_styleTokens_ft x_Mo_styleTokens_pt t_Mo_styleTokens_ct x_Mo_styleTokens_kt x_Mo_styleTokens_nt n_Mo_styleTokens_an x_Mo_styleTokens_ot 5 4360 n_Mo_styleTokens_a2 = true := by decide +kernel
set_option maxRecDepth 100000 in
theorem g_Mo_styleTokens_3 : chk_an b_Mo_styleTokens 9 none e_Mo_styleTokens GG x_Mo_styleTokens_ft x_Mo_styleTokens_pt t_Mo_styleTokens_ct x_Mo_styleTokens_kt x_Mo_styleTokens_nt n_Mo_styleTokens_an x_Mo_styleTokens_ot 5 4360 n_Mo_styleTokens_a3 = true := by decide +kernel
set_option maxRecDepth 100000 in
theorem g_Mo_styleTokens_4 : chk_an b_Mo_styleTokens 9 none e_Mo_styleTokens GG x_Mo_styleTokens_ft x_Mo_styleTokens_pt t_Mo_styleTokens_ct x_Mo_styleTokens_kt x_Mo_styleTokens_nt n_Mo_styleTokens_an x_Mo_styleTokens_ot 5 4360 n_Mo_styleTokens_a4 = true := by decide +kernel
set_option maxRecDepth 100000 in
theorem g_Mo_styleTokens_5 : chk_an b_Mo_styleTokens 9 none e_Mo_styleTokens GG x_Mo_styleTokens_ft x_Mo_styleTokens_pt t_Mo_styleTokens_ct x_Mo_styleTokens_kt x_Mo_styleTokens_nt n_Mo_styleTokens_an x_Mo_styleTokens_ot 5 4360 n_Mo_styleTokens_a5 = true := by decide +kernel
set_option maxRecDepth 100000 in
theorem g_Mo_styleTokens_s : chk b_Mo_styleTokens 9 none e_Mo_styleTokens GG x_Mo_styleTokens_ft x_Mo_styleTokens_pt t_Mo_styleTokens_ct x_Mo_styleTokens_kt x_Mo_styleTokens_nt n_Mo_styleTokens_an x_Mo_styleTokens_ot 100000 (List.replicate 5 me_0) 4360 true (0, en_y e_Mo_styleTokens, 0, 0, an_fs x_Mo_styleTokens_ot e_Mo_styleTokens.2.2.2.2.2.2.2.2.2.2.1) = true := by decide +kernel
set_option maxRecDepth 100000 in
theorem c_Mo_styleTokens {l : Launch} {D : va_G} {kA : Nat → ClassId} (h_Mo_byteAt : ct_ok l D kA GG y_Mo_byteAt z_Mo_byteAt e_Mo_byteAt) (h_Mo_in : ct_ok l D kA GG y_Mo_in z_Mo_in e_Mo_in) (h_Mo_isDigit : ct_ok l D kA GG y_Mo_isDigit z_Mo_isDigit e_Mo_isDigit) : ct_ok l D kA GG y_Mo_styleTokens z_Mo_styleTokens e_Mo_styleTokens := chk_all_ok (FT := [(342, 13, 160), (345, 13, 161), (348, 13, 162), (351, 13, 163), (422, 13, 11), (1160, 13, 157)]) (PT := [(419, 13, 10, .int), (422, 13, 11, .int), (1160, 13, 157, .int)]) (CT := t_Mo_styleTokens_ct) (KT := [(2, 1163, .long (99999), (1, 99999, 99999, [])), (2, 1165, .long (10), (1, 10, 10, [])), (2, 1167, .long (48), (1, 48, 48, []))]) (NT := []) (AN := n_Mo_styleTokens_an) (OT := [o_Mo_styleTokens_0, o_Mo_styleTokens_1, o_Mo_styleTokens_2, o_Mo_styleTokens_3, o_Mo_styleTokens_4, o_Mo_styleTokens_5, o_Mo_styleTokens_6, o_Mo_styleTokens_7, o_Mo_styleTokens_8, o_Mo_styleTokens_9, o_Mo_styleTokens_10, o_Mo_styleTokens_11, o_Mo_styleTokens_12, o_Mo_styleTokens_13, o_Mo_styleTokens_14, o_Mo_styleTokens_15, o_Mo_styleTokens_16, o_Mo_styleTokens_17, o_Mo_styleTokens_18, o_Mo_styleTokens_19, o_Mo_styleTokens_20, o_Mo_styleTokens_21, o_Mo_styleTokens_22, o_Mo_styleTokens_23, o_Mo_styleTokens_24, o_Mo_styleTokens_25, o_Mo_styleTokens_26, o_Mo_styleTokens_27, o_Mo_styleTokens_28, o_Mo_styleTokens_29, o_Mo_styleTokens_30, o_Mo_styleTokens_31, o_Mo_styleTokens_32, o_Mo_styleTokens_33, o_Mo_styleTokens_34, o_Mo_styleTokens_35, o_Mo_styleTokens_36, o_Mo_styleTokens_37, o_Mo_styleTokens_38, o_Mo_styleTokens_39, o_Mo_styleTokens_40, o_Mo_styleTokens_41, o_Mo_styleTokens_42, o_Mo_styleTokens_43, o_Mo_styleTokens_44, o_Mo_styleTokens_45, o_Mo_styleTokens_46, o_Mo_styleTokens_47, o_Mo_styleTokens_48, o_Mo_styleTokens_49, o_Mo_styleTokens_50, o_Mo_styleTokens_51, o_Mo_styleTokens_52, o_Mo_styleTokens_53, o_Mo_styleTokens_54, o_Mo_styleTokens_55, o_Mo_styleTokens_56, o_Mo_styleTokens_57, o_Mo_styleTokens_58, o_Mo_styleTokens_59, o_Mo_styleTokens_60, o_Mo_styleTokens_61, o_Mo_styleTokens_62, o_Mo_styleTokens_63, o_Mo_styleTokens_64, o_Mo_styleTokens_65, o_Mo_styleTokens_66, o_Mo_styleTokens_67, o_Mo_styleTokens_68, o_Mo_styleTokens_69, o_Mo_styleTokens_70, o_Mo_styleTokens_71, o_Mo_styleTokens_72, o_Mo_styleTokens_73, o_Mo_styleTokens_74, o_Mo_styleTokens_75, o_Mo_styleTokens_76, o_Mo_styleTokens_77, o_Mo_styleTokens_78, o_Mo_styleTokens_79, o_Mo_styleTokens_80, o_Mo_styleTokens_81, o_Mo_styleTokens_82, o_Mo_styleTokens_83, o_Mo_styleTokens_84, o_Mo_styleTokens_85, o_Mo_styleTokens_86, o_Mo_styleTokens_87, o_Mo_styleTokens_88, o_Mo_styleTokens_89, o_Mo_styleTokens_90, o_Mo_styleTokens_91, o_Mo_styleTokens_92, o_Mo_styleTokens_93, o_Mo_styleTokens_94, o_Mo_styleTokens_95, o_Mo_styleTokens_96, o_Mo_styleTokens_97, o_Mo_styleTokens_98, o_Mo_styleTokens_99, o_Mo_styleTokens_100, o_Mo_styleTokens_101, o_Mo_styleTokens_102, o_Mo_styleTokens_103, o_Mo_styleTokens_104, o_Mo_styleTokens_105, o_Mo_styleTokens_106, o_Mo_styleTokens_107, o_Mo_styleTokens_108, o_Mo_styleTokens_109, o_Mo_styleTokens_110, o_Mo_styleTokens_111, o_Mo_styleTokens_112, o_Mo_styleTokens_113, o_Mo_styleTokens_114, o_Mo_styleTokens_115, o_Mo_styleTokens_116, o_Mo_styleTokens_117, o_Mo_styleTokens_118, o_Mo_styleTokens_119, o_Mo_styleTokens_120, o_Mo_styleTokens_121, o_Mo_styleTokens_122, o_Mo_styleTokens_123, o_Mo_styleTokens_124, o_Mo_styleTokens_125, o_Mo_styleTokens_126, o_Mo_styleTokens_127, o_Mo_styleTokens_128, o_Mo_styleTokens_129, o_Mo_styleTokens_130, o_Mo_styleTokens_131, o_Mo_styleTokens_132, o_Mo_styleTokens_133, o_Mo_styleTokens_134, o_Mo_styleTokens_135, o_Mo_styleTokens_136, o_Mo_styleTokens_137, o_Mo_styleTokens_138, o_Mo_styleTokens_139, o_Mo_styleTokens_140, o_Mo_styleTokens_141, o_Mo_styleTokens_142, o_Mo_styleTokens_143, o_Mo_styleTokens_144, o_Mo_styleTokens_145, o_Mo_styleTokens_146, o_Mo_styleTokens_147, o_Mo_styleTokens_148, o_Mo_styleTokens_149, o_Mo_styleTokens_150, o_Mo_styleTokens_151, o_Mo_styleTokens_152, o_Mo_styleTokens_153, o_Mo_styleTokens_154, o_Mo_styleTokens_155, o_Mo_styleTokens_156, o_Mo_styleTokens_157, o_Mo_styleTokens_158, o_Mo_styleTokens_159, o_Mo_styleTokens_160, o_Mo_styleTokens_161, o_Mo_styleTokens_162, o_Mo_styleTokens_163, o_Mo_styleTokens_164, o_Mo_styleTokens_165, o_Mo_styleTokens_166, o_Mo_styleTokens_167, o_Mo_styleTokens_168, o_Mo_styleTokens_169, o_Mo_styleTokens_170, o_Mo_styleTokens_171, o_Mo_styleTokens_172, o_Mo_styleTokens_173, o_Mo_styleTokens_174, o_Mo_styleTokens_175, o_Mo_styleTokens_176, o_Mo_styleTokens_177, o_Mo_styleTokens_178, o_Mo_styleTokens_179]) 5 4360 (List.forall_mem_cons.mpr ⟨oo_Mo_styleTokens_0, List.forall_mem_cons.mpr ⟨oo_Mo_styleTokens_1, List.forall_mem_cons.mpr ⟨oo_Mo_styleTokens_2, List.forall_mem_cons.mpr ⟨oo_Mo_styleTokens_3, List.forall_mem_cons.mpr ⟨oo_Mo_styleTokens_4, List.forall_mem_cons.mpr ⟨oo_Mo_styleTokens_5, List.forall_mem_cons.mpr ⟨oo_Mo_styleTokens_6, List.forall_mem_cons.mpr ⟨oo_Mo_styleTokens_7, List.forall_mem_cons.mpr ⟨oo_Mo_styleTokens_8, List.forall_mem_cons.mpr ⟨oo_Mo_styleTokens_9, List.forall_mem_cons.mpr ⟨oo_Mo_styleTokens_10, List.forall_mem_cons.mpr ⟨oo_Mo_styleTokens_11, List.forall_mem_cons.mpr ⟨oo_Mo_styleTokens_12, List.forall_mem_cons.mpr ⟨oo_Mo_styleTokens_13, List.forall_mem_cons.mpr ⟨oo_Mo_styleTokens_14, List.forall_mem_cons.mpr ⟨oo_Mo_styleTokens_15, List.forall_mem_cons.mpr ⟨oo_Mo_styleTokens_16, List.forall_mem_cons.mpr ⟨oo_Mo_styleTokens_17, List.forall_mem_cons.mpr ⟨oo_Mo_styleTokens_18, List.forall_mem_cons.mpr ⟨oo_Mo_styleTokens_19, List.forall_mem_cons.mpr ⟨oo_Mo_styleTokens_20, List.forall_mem_cons.mpr ⟨oo_Mo_styleTokens_21, List.forall_mem_cons.mpr ⟨oo_Mo_styleTokens_22, List.forall_mem_cons.mpr ⟨oo_Mo_styleTokens_23, List.forall_mem_cons.mpr ⟨oo_Mo_styleTokens_24, List.forall_mem_cons.mpr ⟨oo_Mo_styleTokens_25, List.forall_mem_cons.mpr ⟨oo_Mo_styleTokens_26, List.forall_mem_cons.mpr ⟨oo_Mo_styleTokens_27, List.forall_mem_cons.mpr ⟨oo_Mo_styleTokens_28, List.forall_mem_cons.mpr ⟨oo_Mo_styleTokens_29, List.forall_mem_cons.mpr ⟨oo_Mo_styleTokens_30, List.forall_mem_cons.mpr ⟨oo_Mo_styleTokens_31, List.forall_mem_cons.mpr ⟨oo_Mo_styleTokens_32, List.forall_mem_cons.mpr ⟨oo_Mo_styleTokens_33, List.forall_mem_cons.mpr ⟨oo_Mo_styleTokens_34, List.forall_mem_cons.mpr ⟨oo_Mo_styleTokens_35, List.forall_mem_cons.mpr ⟨oo_Mo_styleTokens_36, List.forall_mem_cons.mpr ⟨oo_Mo_styleTokens_37, List.forall_mem_cons.mpr ⟨oo_Mo_styleTokens_38, List.forall_mem_cons.mpr ⟨oo_Mo_styleTokens_39, List.forall_mem_cons.mpr ⟨oo_Mo_styleTokens_40, List.forall_mem_cons.mpr ⟨oo_Mo_styleTokens_41, List.forall_mem_cons.mpr ⟨oo_Mo_styleTokens_42, List.forall_mem_cons.mpr ⟨oo_Mo_styleTokens_43, List.forall_mem_cons.mpr ⟨oo_Mo_styleTokens_44, List.forall_mem_cons.mpr ⟨oo_Mo_styleTokens_45, List.forall_mem_cons.mpr ⟨oo_Mo_styleTokens_46, List.forall_mem_cons.mpr ⟨oo_Mo_styleTokens_47, List.forall_mem_cons.mpr ⟨oo_Mo_styleTokens_48, List.forall_mem_cons.mpr ⟨oo_Mo_styleTokens_49, List.forall_mem_cons.mpr ⟨oo_Mo_styleTokens_50, List.forall_mem_cons.mpr ⟨oo_Mo_styleTokens_51, List.forall_mem_cons.mpr ⟨oo_Mo_styleTokens_52, List.forall_mem_cons.mpr ⟨oo_Mo_styleTokens_53, List.forall_mem_cons.mpr ⟨oo_Mo_styleTokens_54, List.forall_mem_cons.mpr ⟨oo_Mo_styleTokens_55, List.forall_mem_cons.mpr ⟨oo_Mo_styleTokens_56, List.forall_mem_cons.mpr ⟨oo_Mo_styleTokens_57, List.forall_mem_cons.mpr ⟨oo_Mo_styleTokens_58, List.forall_mem_cons.mpr ⟨oo_Mo_styleTokens_59, List.forall_mem_cons.mpr ⟨oo_Mo_styleTokens_60, List.forall_mem_cons.mpr ⟨oo_Mo_styleTokens_61, List.forall_mem_cons.mpr ⟨oo_Mo_styleTokens_62, List.forall_mem_cons.mpr ⟨oo_Mo_styleTokens_63, List.forall_mem_cons.mpr ⟨oo_Mo_styleTokens_64, List.forall_mem_cons.mpr ⟨oo_Mo_styleTokens_65, List.forall_mem_cons.mpr ⟨oo_Mo_styleTokens_66, List.forall_mem_cons.mpr ⟨oo_Mo_styleTokens_67, List.forall_mem_cons.mpr ⟨oo_Mo_styleTokens_68, List.forall_mem_cons.mpr ⟨oo_Mo_styleTokens_69, List.forall_mem_cons.mpr ⟨oo_Mo_styleTokens_70, List.forall_mem_cons.mpr ⟨oo_Mo_styleTokens_71, List.forall_mem_cons.mpr ⟨oo_Mo_styleTokens_72, List.forall_mem_cons.mpr ⟨oo_Mo_styleTokens_73, List.forall_mem_cons.mpr ⟨oo_Mo_styleTokens_74, List.forall_mem_cons.mpr ⟨oo_Mo_styleTokens_75, List.forall_mem_cons.mpr ⟨oo_Mo_styleTokens_76, List.forall_mem_cons.mpr ⟨oo_Mo_styleTokens_77, List.forall_mem_cons.mpr ⟨oo_Mo_styleTokens_78, List.forall_mem_cons.mpr ⟨oo_Mo_styleTokens_79, List.forall_mem_cons.mpr ⟨oo_Mo_styleTokens_80, List.forall_mem_cons.mpr ⟨oo_Mo_styleTokens_81, List.forall_mem_cons.mpr ⟨oo_Mo_styleTokens_82, List.forall_mem_cons.mpr ⟨oo_Mo_styleTokens_83, List.forall_mem_cons.mpr ⟨oo_Mo_styleTokens_84, List.forall_mem_cons.mpr ⟨oo_Mo_styleTokens_85, List.forall_mem_cons.mpr ⟨oo_Mo_styleTokens_86, List.forall_mem_cons.mpr ⟨oo_Mo_styleTokens_87, List.forall_mem_cons.mpr ⟨oo_Mo_styleTokens_88, List.forall_mem_cons.mpr ⟨oo_Mo_styleTokens_89, List.forall_mem_cons.mpr ⟨oo_Mo_styleTokens_90, List.forall_mem_cons.mpr ⟨oo_Mo_styleTokens_91, List.forall_mem_cons.mpr ⟨oo_Mo_styleTokens_92, List.forall_mem_cons.mpr ⟨oo_Mo_styleTokens_93, List.forall_mem_cons.mpr ⟨oo_Mo_styleTokens_94, List.forall_mem_cons.mpr ⟨oo_Mo_styleTokens_95, List.forall_mem_cons.mpr ⟨oo_Mo_styleTokens_96, List.forall_mem_cons.mpr ⟨oo_Mo_styleTokens_97, List.forall_mem_cons.mpr ⟨oo_Mo_styleTokens_98, List.forall_mem_cons.mpr ⟨oo_Mo_styleTokens_99, List.forall_mem_cons.mpr ⟨oo_Mo_styleTokens_100, List.forall_mem_cons.mpr ⟨oo_Mo_styleTokens_101, List.forall_mem_cons.mpr ⟨oo_Mo_styleTokens_102, List.forall_mem_cons.mpr ⟨oo_Mo_styleTokens_103, List.forall_mem_cons.mpr ⟨oo_Mo_styleTokens_104, List.forall_mem_cons.mpr ⟨oo_Mo_styleTokens_105, List.forall_mem_cons.mpr ⟨oo_Mo_styleTokens_106, List.forall_mem_cons.mpr ⟨oo_Mo_styleTokens_107, List.forall_mem_cons.mpr ⟨oo_Mo_styleTokens_108, List.forall_mem_cons.mpr ⟨oo_Mo_styleTokens_109, List.forall_mem_cons.mpr ⟨oo_Mo_styleTokens_110, List.forall_mem_cons.mpr ⟨oo_Mo_styleTokens_111, List.forall_mem_cons.mpr ⟨oo_Mo_styleTokens_112, List.forall_mem_cons.mpr ⟨oo_Mo_styleTokens_113, List.forall_mem_cons.mpr ⟨oo_Mo_styleTokens_114, List.forall_mem_cons.mpr ⟨oo_Mo_styleTokens_115, List.forall_mem_cons.mpr ⟨oo_Mo_styleTokens_116, List.forall_mem_cons.mpr ⟨oo_Mo_styleTokens_117, List.forall_mem_cons.mpr ⟨oo_Mo_styleTokens_118, List.forall_mem_cons.mpr ⟨oo_Mo_styleTokens_119, List.forall_mem_cons.mpr ⟨oo_Mo_styleTokens_120, List.forall_mem_cons.mpr ⟨oo_Mo_styleTokens_121, List.forall_mem_cons.mpr ⟨oo_Mo_styleTokens_122, List.forall_mem_cons.mpr ⟨oo_Mo_styleTokens_123, List.forall_mem_cons.mpr ⟨oo_Mo_styleTokens_124, List.forall_mem_cons.mpr ⟨oo_Mo_styleTokens_125, List.forall_mem_cons.mpr ⟨oo_Mo_styleTokens_126, List.forall_mem_cons.mpr ⟨oo_Mo_styleTokens_127, List.forall_mem_cons.mpr ⟨oo_Mo_styleTokens_128, List.forall_mem_cons.mpr ⟨oo_Mo_styleTokens_129, List.forall_mem_cons.mpr ⟨oo_Mo_styleTokens_130, List.forall_mem_cons.mpr ⟨oo_Mo_styleTokens_131, List.forall_mem_cons.mpr ⟨oo_Mo_styleTokens_132, List.forall_mem_cons.mpr ⟨oo_Mo_styleTokens_133, List.forall_mem_cons.mpr ⟨oo_Mo_styleTokens_134, List.forall_mem_cons.mpr ⟨oo_Mo_styleTokens_135, List.forall_mem_cons.mpr ⟨oo_Mo_styleTokens_136, List.forall_mem_cons.mpr ⟨oo_Mo_styleTokens_137, List.forall_mem_cons.mpr ⟨oo_Mo_styleTokens_138, List.forall_mem_cons.mpr ⟨oo_Mo_styleTokens_139, List.forall_mem_cons.mpr ⟨oo_Mo_styleTokens_140, List.forall_mem_cons.mpr ⟨oo_Mo_styleTokens_141, List.forall_mem_cons.mpr ⟨oo_Mo_styleTokens_142, List.forall_mem_cons.mpr ⟨oo_Mo_styleTokens_143, List.forall_mem_cons.mpr ⟨oo_Mo_styleTokens_144, List.forall_mem_cons.mpr ⟨oo_Mo_styleTokens_145, List.forall_mem_cons.mpr ⟨oo_Mo_styleTokens_146, List.forall_mem_cons.mpr ⟨oo_Mo_styleTokens_147, List.forall_mem_cons.mpr ⟨oo_Mo_styleTokens_148, List.forall_mem_cons.mpr ⟨oo_Mo_styleTokens_149, List.forall_mem_cons.mpr ⟨oo_Mo_styleTokens_150, List.forall_mem_cons.mpr ⟨oo_Mo_styleTokens_151, List.forall_mem_cons.mpr ⟨oo_Mo_styleTokens_152, List.forall_mem_cons.mpr ⟨oo_Mo_styleTokens_153, List.forall_mem_cons.mpr ⟨oo_Mo_styleTokens_154, List.forall_mem_cons.mpr ⟨oo_Mo_styleTokens_155, List.forall_mem_cons.mpr ⟨oo_Mo_styleTokens_156, List.forall_mem_cons.mpr ⟨oo_Mo_styleTokens_157, List.forall_mem_cons.mpr ⟨oo_Mo_styleTokens_158, List.forall_mem_cons.mpr ⟨oo_Mo_styleTokens_159, List.forall_mem_cons.mpr ⟨oo_Mo_styleTokens_160, List.forall_mem_cons.mpr ⟨oo_Mo_styleTokens_161, List.forall_mem_cons.mpr ⟨oo_Mo_styleTokens_162, List.forall_mem_cons.mpr ⟨oo_Mo_styleTokens_163, List.forall_mem_cons.mpr ⟨oo_Mo_styleTokens_164, List.forall_mem_cons.mpr ⟨oo_Mo_styleTokens_165, List.forall_mem_cons.mpr ⟨oo_Mo_styleTokens_166, List.forall_mem_cons.mpr ⟨oo_Mo_styleTokens_167, List.forall_mem_cons.mpr ⟨oo_Mo_styleTokens_168, List.forall_mem_cons.mpr ⟨oo_Mo_styleTokens_169, List.forall_mem_cons.mpr ⟨oo_Mo_styleTokens_170, List.forall_mem_cons.mpr ⟨oo_Mo_styleTokens_171, List.forall_mem_cons.mpr ⟨oo_Mo_styleTokens_172, List.forall_mem_cons.mpr ⟨oo_Mo_styleTokens_173, List.forall_mem_cons.mpr ⟨oo_Mo_styleTokens_174, List.forall_mem_cons.mpr ⟨oo_Mo_styleTokens_175, List.forall_mem_cons.mpr ⟨oo_Mo_styleTokens_176, List.forall_mem_cons.mpr ⟨oo_Mo_styleTokens_177, List.forall_mem_cons.mpr ⟨oo_Mo_styleTokens_178, List.forall_mem_cons.mpr ⟨oo_Mo_styleTokens_179, List.forall_mem_nil _⟩⟩⟩⟩⟩⟩⟩⟩⟩⟩⟩⟩⟩⟩⟩⟩⟩⟩⟩⟩⟩⟩⟩⟩⟩⟩⟩⟩⟩⟩⟩⟩⟩⟩⟩⟩⟩⟩⟩⟩⟩⟩⟩⟩⟩⟩⟩⟩⟩⟩⟩⟩⟩⟩⟩⟩⟩⟩⟩⟩⟩⟩⟩⟩⟩⟩⟩⟩⟩⟩⟩⟩⟩⟩⟩⟩⟩⟩⟩⟩⟩⟩⟩⟩⟩⟩⟩⟩⟩⟩⟩⟩⟩⟩⟩⟩⟩⟩⟩⟩⟩⟩⟩⟩⟩⟩⟩⟩⟩⟩⟩⟩⟩⟩⟩⟩⟩⟩⟩⟩⟩⟩⟩⟩⟩⟩⟩⟩⟩⟩⟩⟩⟩⟩⟩⟩⟩⟩⟩⟩⟩⟩⟩⟩⟩⟩⟩⟩⟩⟩⟩⟩⟩⟩⟩⟩⟩⟩⟩⟩⟩⟩⟩⟩⟩⟩⟩⟩⟩⟩⟩⟩⟩⟩⟩⟩⟩⟩⟩⟩) (by decide +kernel) ⟨List.forall_mem_cons.mpr ⟨gf_Mo_342, List.forall_mem_cons.mpr ⟨gf_Mo_345, List.forall_mem_cons.mpr ⟨gf_Mo_348, List.forall_mem_cons.mpr ⟨gf_Mo_351, List.forall_mem_cons.mpr ⟨gf_Mo_422, List.forall_mem_cons.mpr ⟨gf_Mo_1160, List.forall_mem_nil _⟩⟩⟩⟩⟩⟩, List.forall_mem_cons.mpr ⟨pf_Mo_419, List.forall_mem_cons.mpr ⟨pf_Mo_422, List.forall_mem_cons.mpr ⟨pf_Mo_1160, List.forall_mem_nil _⟩⟩⟩, List.forall_mem_cons.mpr ⟨cl_static (y := y_Mo_in) h_Mo_in wm_2971 wm_9 wm_2969 wm_2970 ⟨by decide, by decide, by decide +kernel⟩ (by decide), List.forall_mem_cons.mpr ⟨cl_static (y := y_Mo_isDigit) h_Mo_isDigit wm_2992 wm_9 wm_2990 wm_2991 ⟨by decide, by decide, by decide +kernel⟩ (by decide), List.forall_mem_cons.mpr ⟨cl_virtual (y := y_Mo_byteAt) (ci := 13) rfl rfl ⟨_, _, rfl⟩ (by decide +kernel) h_Mo_byteAt wm_2986 wm_9 wm_2983 wm_2985 wv_12_12 ⟨by decide, by decide, by decide +kernel⟩ (by decide), List.forall_mem_nil _⟩⟩⟩, List.forall_mem_cons.mpr ⟨⟨kt_mk2 wm_3799, fun _ => Or.inr (Or.inl ⟨rfl, _, rfl, by decide, by decide⟩)⟩, List.forall_mem_cons.mpr ⟨⟨kt_mk2 wm_3800, fun _ => Or.inr (Or.inl ⟨rfl, _, rfl, by decide, by decide⟩)⟩, List.forall_mem_cons.mpr ⟨⟨kt_mk2 wm_3801, fun _ => Or.inr (Or.inl ⟨rfl, _, rfl, by decide, by decide⟩)⟩, List.forall_mem_nil _⟩⟩⟩, List.forall_mem_nil _, GG_pl⟩ (chk_mk (by decide +kernel) (List.forall_mem_cons.mpr ⟨g_Mo_styleTokens_0, List.forall_mem_cons.mpr ⟨g_Mo_styleTokens_1, List.forall_mem_cons.mpr ⟨g_Mo_styleTokens_2, List.forall_mem_cons.mpr ⟨g_Mo_styleTokens_3, List.forall_mem_cons.mpr ⟨g_Mo_styleTokens_4, List.forall_mem_cons.mpr ⟨g_Mo_styleTokens_5, List.forall_mem_nil _⟩⟩⟩⟩⟩⟩) g_Mo_styleTokens_s)
def o_Mo_product_at_f0_0 : or_T := (1, 2, [(0, (2, 0, 0, [150])), (1, (0, 0, 2009, []))], [(20, [0], [50, 2, 1, 158, 157, 160, 2, 12, 0, 7, 4, 3, 2, 0, 158, 0, 1, 2, 0, 157, 2, 7, 0, 3, 2, 0, 157, 0, 2010, 3, 14, 1, 10, 3, 0, 160, 5, 3, 2, 0, 157, 0, 1, 0, 0, 1, 10, 3, 0, 160, 5, 3, 2, 0, 157, 0, 1, 0, 4]), (20, [0, 1], [30, 0, 1, 1, 158, -1, 0, 0]), (20, [0, 1], [30, 0, -1, 1, 158, 1, 0, 0]), (20, [0], [30, 0, 1, 1, 159]), (20, [0], [30, 0, -1, 1, 159])], [], [(0, 0, 2009, [])], [(20, [0], [50, 2, 1, 158, 157, 160, 2, 12, 0, 7, 4, 3, 2, 0, 158, 0, 1, 2, 0, 157, 2, 7, 0, 3, 2, 0, 157, 0, 2010, 3, 14, 1, 10, 3, 0, 160, 5, 3, 2, 0, 157, 0, 1, 0, 0, 1, 10, 3, 0, 160, 5, 3, 2, 0, 157, 0, 1, 0, 4]), (20, [0, 2], [30, 0, 1, 1, 158, -1, 0, 0]), (20, [0, 2], [30, 0, -1, 1, 158, 1, 0, 0]), (20, [0], [30, 0, 1, 1, 159]), (20, [0], [30, 0, -1, 1, 159]), (23, [1, 2], [0, 1, -1])], [], [])
theorem oo_Mo_product_at_f0_0 {kA : Nat → ClassId} : or_ok kA GG o_Mo_product_at_f0_0 := by
  intro A ta ws vs hD hth hl hk hds hf
  have hl : vs.length = 2 := hl
  have hk : ∀ q ∈ ([(0, (2, 0, 0, [150])), (1, (0, 0, 2009, []))] : List (Nat × tv_T)), tv_ok ta q.2 (n_v vs q.1) := hk
  obtain ⟨t0, hk⟩ := List.forall_mem_cons.mp hk
  have t0 : tv_ok ta (2, 0, 0, [150]) (n_v vs 0) := t0
  have r0 : ta (v_ad (n_v vs 0)) = some 150 := tv_rg t0
  obtain ⟨t1, hk⟩ := List.forall_mem_cons.mp hk
  have t1 : tv_ok ta (0, 0, 2009, []) (n_v vs 1) := t1
  have k1 : 0 ≤ v_iv (n_v vs 1) ∧ v_iv (n_v vs 1) ≤ 2009 := tv_rng t1
  have hf : fc_ok [(20, [0], [50, 2, 1, 158, 157, 160, 2, 12, 0, 7, 4, 3, 2, 0, 158, 0, 1, 2, 0, 157, 2, 7, 0, 3, 2, 0, 157, 0, 2010, 3, 14, 1, 10, 3, 0, 160, 5, 3, 2, 0, 157, 0, 1, 0, 0, 1, 10, 3, 0, 160, 5, 3, 2, 0, 157, 0, 1, 0, 4]), (20, [0, 1], [30, 0, 1, 1, 158, -1, 0, 0]), (20, [0, 1], [30, 0, -1, 1, 158, 1, 0, 0]), (20, [0], [30, 0, 1, 1, 159]), (20, [0], [30, 0, -1, 1, 159])] ta ws vs := hf
  obtain ⟨f0, hf⟩ := fc_un (by decide) hf
  have f0 : ((w_fi ws (n_v vs 0) 158 + 1) ≤ w_fi ws (n_v vs 0) 157) ∧ ((w_fi ws (n_v vs 0) 157 ≤ 2010) ∧ ((w_ei ws (w_ar ws (n_v vs 0) 160) ((w_fi ws (n_v vs 0) 157 - 1)) = 0) ∨ (w_ei ws (w_ar ws (n_v vs 0) 160) ((w_fi ws (n_v vs 0) 157 - 1)) = 4))) := f0
  obtain ⟨f1, hf⟩ := fc_un (by decide) hf
  have f1 : 1 * w_fi ws (n_v vs 0) 158 + ((-1) * v_iv (n_v vs 1) + 0) ≤ 0 := f1
  obtain ⟨f2, hf⟩ := fc_un (by decide) hf
  have f2 : (-1) * w_fi ws (n_v vs 0) 158 + (1 * v_iv (n_v vs 1) + 0) ≤ 0 := f2
  obtain ⟨f3, hf⟩ := fc_un (by decide) hf
  have f3 : 1 * w_fi ws (n_v vs 0) 159 + 0 ≤ 0 := f3
  obtain ⟨f4, hf⟩ := fc_un (by decide) hf
  have f4 : (-1) * w_fi ws (n_v vs 0) 159 + 0 ≤ 0 := f4
  have cr_0_160 : ta (w_ar ws (n_v vs 0) 160) = some 259 := tv_rg (th_fd hD hth r0 (g := GG_150) rfl (k := 160) (t := (2, 0, 0, [259])) rfl rfl)
  have hK_0_160 : ∀ j : Int, 0 ≤ j → j < 2010 → 0 ≤ w_ei ws (w_ar ws (n_v vs 0) 160) j ∧ w_ei ws (w_ar ws (n_v vs 0) 160) j ≤ 4 := fun j h0 h1 => th_el hD hth cr_0_160 (kd := 0) (n := 2010) (m := 2010) (lo := 0) (hi := 4) (rs := []) (L := []) rfl (by decide) (j := j.toNat) (by omega)
  have kz_0_157 : 0 ≤ w_fi ws (n_v vs 0) 157 ∧ w_fi ws (n_v vs 0) 157 ≤ 2010 := tv_rng (th_fd hD hth r0 (g := GG_150) rfl (k := 157) (t := (0, 0, 2010, [])) rfl rfl)
  have kz_0_158 : 0 ≤ w_fi ws (n_v vs 0) 158 ∧ w_fi ws (n_v vs 0) 158 ≤ 2009 := tv_rng (th_fd hD hth r0 (g := GG_150) rfl (k := 158) (t := (0, 0, 2009, [])) rfl rfl)
  have kz_0_159 : 0 ≤ w_fi ws (n_v vs 0) 159 ∧ w_fi ws (n_v vs 0) 159 ≤ 13 := tv_rng (th_fd hD hth r0 (g := GG_150) rfl (k := 159) (t := (0, 0, 13, [])) rfl rfl)
  have kv : 0 ≤ w_fi ws (n_v vs 0) 158 ∧ w_fi ws (n_v vs 0) 158 ≤ 2009 := tv_rng (th_fd hD hth r0 (g := GG_150) rfl (k := 158) (t := (0, 0, 2009, [])) rfl rfl)
  obtain ⟨x, ex, hx⟩ := iv_ex (ta := ta) (lo := 0) (hi := 2009) (z := w_fi ws (n_v vs 0) 158) (by omega) (by omega) (by decide) (by decide)
  have ex2 : v_iv (Value.int x) = w_fi ws (n_v vs 0) 158 := ex
  have ex3 : 0 ≤ v_iv (Value.int x) ∧ v_iv (Value.int x) ≤ 2009 := tv_rng hx
  have e_0 : n_v (vs ++ [Value.int x]) 0 = n_v vs 0 := n_v_old (by rw [hl]; decide)
  have e_1 : n_v (vs ++ [Value.int x]) 1 = n_v vs 1 := n_v_old (by rw [hl]; decide)
  have e_2 : n_v (vs ++ [Value.int x]) 2 = Value.int x := n_v_new hl
  have nf0 : fc_1 (20, [0], [50, 2, 1, 158, 157, 160, 2, 12, 0, 7, 4, 3, 2, 0, 158, 0, 1, 2, 0, 157, 2, 7, 0, 3, 2, 0, 157, 0, 2010, 3, 14, 1, 10, 3, 0, 160, 5, 3, 2, 0, 157, 0, 1, 0, 0, 1, 10, 3, 0, 160, 5, 3, 2, 0, 157, 0, 1, 0, 4]) ws (vs ++ [Value.int x]) := by
    refine ⟨fun n hn => ?_, ?_⟩
    · have hn : n ∈ [0] := hn
      rw [List.length_append, hl]
      simp only [List.mem_cons, List.not_mem_nil, or_false] at hn
      show n < 2 + 1; omega
    · show ((w_fi ws (n_v (vs ++ [Value.int x]) 0) 158 + 1) ≤ w_fi ws (n_v (vs ++ [Value.int x]) 0) 157) ∧ ((w_fi ws (n_v (vs ++ [Value.int x]) 0) 157 ≤ 2010) ∧ ((w_ei ws (w_ar ws (n_v (vs ++ [Value.int x]) 0) 160) ((w_fi ws (n_v (vs ++ [Value.int x]) 0) 157 - 1)) = 0) ∨ (w_ei ws (w_ar ws (n_v (vs ++ [Value.int x]) 0) 160) ((w_fi ws (n_v (vs ++ [Value.int x]) 0) 157 - 1)) = 4)))
      rw [e_0]
      first | omega | grind
  have nf1 : fc_1 (20, [0, 2], [30, 0, 1, 1, 158, -1, 0, 0]) ws (vs ++ [Value.int x]) := by
    refine ⟨fun n hn => ?_, ?_⟩
    · have hn : n ∈ [0, 2] := hn
      rw [List.length_append, hl]
      simp only [List.mem_cons, List.not_mem_nil, or_false] at hn
      show n < 2 + 1; omega
    · show 1 * w_fi ws (n_v (vs ++ [Value.int x]) 0) 158 + ((-1) * v_iv (n_v (vs ++ [Value.int x]) 2) + 0) ≤ 0
      rw [e_0]
      rw [e_2]
      omega
  have nf2 : fc_1 (20, [0, 2], [30, 0, -1, 1, 158, 1, 0, 0]) ws (vs ++ [Value.int x]) := by
    refine ⟨fun n hn => ?_, ?_⟩
    · have hn : n ∈ [0, 2] := hn
      rw [List.length_append, hl]
      simp only [List.mem_cons, List.not_mem_nil, or_false] at hn
      show n < 2 + 1; omega
    · show (-1) * w_fi ws (n_v (vs ++ [Value.int x]) 0) 158 + (1 * v_iv (n_v (vs ++ [Value.int x]) 2) + 0) ≤ 0
      rw [e_0]
      rw [e_2]
      omega
  have nf3 : fc_1 (20, [0], [30, 0, 1, 1, 159]) ws (vs ++ [Value.int x]) := by
    refine ⟨fun n hn => ?_, ?_⟩
    · have hn : n ∈ [0] := hn
      rw [List.length_append, hl]
      simp only [List.mem_cons, List.not_mem_nil, or_false] at hn
      show n < 2 + 1; omega
    · show 1 * w_fi ws (n_v (vs ++ [Value.int x]) 0) 159 + 0 ≤ 0
      rw [e_0]
      omega
  have nf4 : fc_1 (20, [0], [30, 0, -1, 1, 159]) ws (vs ++ [Value.int x]) := by
    refine ⟨fun n hn => ?_, ?_⟩
    · have hn : n ∈ [0] := hn
      rw [List.length_append, hl]
      simp only [List.mem_cons, List.not_mem_nil, or_false] at hn
      show n < 2 + 1; omega
    · show (-1) * w_fi ws (n_v (vs ++ [Value.int x]) 0) 159 + 0 ≤ 0
      rw [e_0]
      omega
  have nf5 : fc_1 (23, [1, 2], [0, 1, -1]) ws (vs ++ [Value.int x]) := by
    refine ⟨fun n hn => ?_, ?_⟩
    · have hn : n ∈ [1, 2] := hn
      rw [List.length_append, hl]
      simp only [List.mem_cons, List.not_mem_nil, or_false] at hn
      show n < 2 + 1; omega
    · show 1 * v_iv (n_v (vs ++ [Value.int x]) 1) + ((-1) * v_iv (n_v (vs ++ [Value.int x]) 2) + 0) ≤ 0
      rw [e_1]
      rw [e_2]
      omega
  exact ⟨fun q hq => (by cases hq), [Value.int x], ag_one hx, List.forall_mem_cons.mpr ⟨⟨by decide, nf0⟩, List.forall_mem_cons.mpr ⟨⟨by decide, nf1⟩, List.forall_mem_cons.mpr ⟨⟨by decide, nf2⟩, List.forall_mem_cons.mpr ⟨⟨by decide, nf3⟩, List.forall_mem_cons.mpr ⟨⟨by decide, nf4⟩, List.forall_mem_cons.mpr ⟨⟨by decide, nf5⟩, (fun _ h => (by cases h))⟩⟩⟩⟩⟩⟩, (fun _ h => (by cases h))⟩
def o_Mo_product_at_f0_1 : or_T := (5, 4, [(0, (2, 0, 0, [150])), (1, (0, 0, 2009, [])), (2, (0, 0, 2009, []))], [(23, [1, 2], [0, 1, -1]), (20, [0], [50, 2, 1, 158, 157, 160, 2, 12, 0, 7, 4, 3, 2, 0, 158, 0, 1, 2, 0, 157, 2, 7, 0, 3, 2, 0, 157, 0, 2010, 3, 14, 1, 10, 3, 0, 160, 5, 3, 2, 0, 157, 0, 1, 0, 0, 1, 10, 3, 0, 160, 5, 3, 2, 0, 157, 0, 1, 0, 4]), (20, [2, 0], [30, 0, 1, 0, 0, -1, 1, 158]), (20, [0], [30, 0, 1, 1, 159]), (20, [0], [30, 0, -1, 1, 159]), (102, [2], [0, 13008, 13009, 13158, 13159]), (23, [1, 2], [0, 1, -1])], [], [(0, 0, 2010, [])], [(20, [0], [50, 2, 1, 158, 157, 160, 2, 12, 0, 7, 4, 3, 2, 0, 158, 0, 1, 2, 0, 157, 2, 7, 0, 3, 2, 0, 157, 0, 2010, 3, 14, 1, 10, 3, 0, 160, 5, 3, 2, 0, 157, 0, 1, 0, 0, 1, 10, 3, 0, 160, 5, 3, 2, 0, 157, 0, 1, 0, 4]), (20, [1, 0], [30, 0, 1, 0, 0, -1, 1, 158]), (20, [0], [30, 0, 1, 1, 159]), (20, [0], [30, 0, -1, 1, 159]), (24, [0, 0], []), (20, [4, 0], [30, 2010, 1, 0, 0, 1, 1, 158]), (20, [4, 0], [30, -2010, -1, 0, 0, -1, 1, 158])], [], [])
theorem oo_Mo_product_at_f0_1 {kA : Nat → ClassId} : or_ok kA GG o_Mo_product_at_f0_1 := by
  intro A ta ws vs hD hth hl hk hds hf
  have hl : vs.length = 4 := hl
  have hk : ∀ q ∈ ([(0, (2, 0, 0, [150])), (1, (0, 0, 2009, [])), (2, (0, 0, 2009, []))] : List (Nat × tv_T)), tv_ok ta q.2 (n_v vs q.1) := hk
  obtain ⟨t0, hk⟩ := List.forall_mem_cons.mp hk
  have t0 : tv_ok ta (2, 0, 0, [150]) (n_v vs 0) := t0
  have r0 : ta (v_ad (n_v vs 0)) = some 150 := tv_rg t0
  obtain ⟨t1, hk⟩ := List.forall_mem_cons.mp hk
  have t1 : tv_ok ta (0, 0, 2009, []) (n_v vs 1) := t1
  have k1 : 0 ≤ v_iv (n_v vs 1) ∧ v_iv (n_v vs 1) ≤ 2009 := tv_rng t1
  obtain ⟨t2, hk⟩ := List.forall_mem_cons.mp hk
  have t2 : tv_ok ta (0, 0, 2009, []) (n_v vs 2) := t2
  have k2 : 0 ≤ v_iv (n_v vs 2) ∧ v_iv (n_v vs 2) ≤ 2009 := tv_rng t2
  have hf : fc_ok [(23, [1, 2], [0, 1, -1]), (20, [0], [50, 2, 1, 158, 157, 160, 2, 12, 0, 7, 4, 3, 2, 0, 158, 0, 1, 2, 0, 157, 2, 7, 0, 3, 2, 0, 157, 0, 2010, 3, 14, 1, 10, 3, 0, 160, 5, 3, 2, 0, 157, 0, 1, 0, 0, 1, 10, 3, 0, 160, 5, 3, 2, 0, 157, 0, 1, 0, 4]), (20, [2, 0], [30, 0, 1, 0, 0, -1, 1, 158]), (20, [0], [30, 0, 1, 1, 159]), (20, [0], [30, 0, -1, 1, 159]), (102, [2], [0, 13008, 13009, 13158, 13159]), (23, [1, 2], [0, 1, -1])] ta ws vs := hf
  obtain ⟨f0, hf⟩ := fc_un (by decide) hf
  have f0 : 1 * v_iv (n_v vs 1) + ((-1) * v_iv (n_v vs 2) + 0) ≤ 0 := f0
  obtain ⟨f1, hf⟩ := fc_un (by decide) hf
  have f1 : ((w_fi ws (n_v vs 0) 158 + 1) ≤ w_fi ws (n_v vs 0) 157) ∧ ((w_fi ws (n_v vs 0) 157 ≤ 2010) ∧ ((w_ei ws (w_ar ws (n_v vs 0) 160) ((w_fi ws (n_v vs 0) 157 - 1)) = 0) ∨ (w_ei ws (w_ar ws (n_v vs 0) 160) ((w_fi ws (n_v vs 0) 157 - 1)) = 4))) := f1
  obtain ⟨f2, hf⟩ := fc_un (by decide) hf
  have f2 : 1 * v_iv (n_v vs 2) + ((-1) * w_fi ws (n_v vs 0) 158 + 0) ≤ 0 := f2
  obtain ⟨f3, hf⟩ := fc_un (by decide) hf
  have f3 : 1 * w_fi ws (n_v vs 0) 159 + 0 ≤ 0 := f3
  obtain ⟨f4, hf⟩ := fc_un (by decide) hf
  have f4 : (-1) * w_fi ws (n_v vs 0) 159 + 0 ≤ 0 := f4
  obtain ⟨ta1, w1, le1, ⟨_, s1⟩, hf⟩ := fc_us (by decide) hf
  obtain ⟨f6, hf⟩ := fc_un (by decide) hf
  have f6 : 1 * v_iv (n_v vs 1) + ((-1) * v_iv (n_v vs 2) + 0) ≤ 0 := f6
  have cr_0_160 : ta (w_ar ws (n_v vs 0) 160) = some 259 := tv_rg (th_fd hD hth r0 (g := GG_150) rfl (k := 160) (t := (2, 0, 0, [259])) rfl rfl)
  have hK_0_160 : ∀ j : Int, 0 ≤ j → j < 2010 → 0 ≤ w_ei ws (w_ar ws (n_v vs 0) 160) j ∧ w_ei ws (w_ar ws (n_v vs 0) 160) j ≤ 4 := fun j h0 h1 => th_el hD hth cr_0_160 (kd := 0) (n := 2010) (m := 2010) (lo := 0) (hi := 4) (rs := []) (L := []) rfl (by decide) (j := j.toNat) (by omega)
  have kz_0_157 : 0 ≤ w_fi ws (n_v vs 0) 157 ∧ w_fi ws (n_v vs 0) 157 ≤ 2010 := tv_rng (th_fd hD hth r0 (g := GG_150) rfl (k := 157) (t := (0, 0, 2010, [])) rfl rfl)
  have kz_0_158 : 0 ≤ w_fi ws (n_v vs 0) 158 ∧ w_fi ws (n_v vs 0) 158 ≤ 2009 := tv_rng (th_fd hD hth r0 (g := GG_150) rfl (k := 158) (t := (0, 0, 2009, [])) rfl rfl)
  have kz_0_159 : 0 ≤ w_fi ws (n_v vs 0) 159 ∧ w_fi ws (n_v vs 0) 159 ≤ 13 := tv_rng (th_fd hD hth r0 (g := GG_150) rfl (k := 159) (t := (0, 0, 13, [])) rfl rfl)
  have kb_0_158 : 0 ≤ w_fi ws (n_v vs 0) 158 ∧ w_fi ws (n_v vs 0) 158 ≤ 2009 := tv_rng (th_fd hD hth r0 (g := GG_150) rfl (k := 158) (t := (0, 0, 2009, [])) rfl rfl)
  obtain ⟨x, ex, hx⟩ := iv_ex (ta := ta) (lo := 0) (hi := 2010) (z := 2010 + ((-1) * w_fi ws (n_v vs 0) 158 + 0)) (by omega) (by omega) (by decide) (by decide)
  have ex2 : v_iv (Value.int x) = 2010 + ((-1) * w_fi ws (n_v vs 0) 158 + 0) := ex
  have ex3 : 0 ≤ v_iv (Value.int x) ∧ v_iv (Value.int x) ≤ 2010 := tv_rng hx
  have e_0 : n_v (vs ++ [Value.int x]) 0 = n_v vs 0 := n_v_old (by rw [hl]; decide)
  have e_1 : n_v (vs ++ [Value.int x]) 1 = n_v vs 1 := n_v_old (by rw [hl]; decide)
  have e_4 : n_v (vs ++ [Value.int x]) 4 = Value.int x := n_v_new hl
  have nf0 : fc_1 (20, [0], [50, 2, 1, 158, 157, 160, 2, 12, 0, 7, 4, 3, 2, 0, 158, 0, 1, 2, 0, 157, 2, 7, 0, 3, 2, 0, 157, 0, 2010, 3, 14, 1, 10, 3, 0, 160, 5, 3, 2, 0, 157, 0, 1, 0, 0, 1, 10, 3, 0, 160, 5, 3, 2, 0, 157, 0, 1, 0, 4]) ws (vs ++ [Value.int x]) := by
    refine ⟨fun n hn => ?_, ?_⟩
    · have hn : n ∈ [0] := hn
      rw [List.length_append, hl]
      simp only [List.mem_cons, List.not_mem_nil, or_false] at hn
      show n < 4 + 1; omega
    · show ((w_fi ws (n_v (vs ++ [Value.int x]) 0) 158 + 1) ≤ w_fi ws (n_v (vs ++ [Value.int x]) 0) 157) ∧ ((w_fi ws (n_v (vs ++ [Value.int x]) 0) 157 ≤ 2010) ∧ ((w_ei ws (w_ar ws (n_v (vs ++ [Value.int x]) 0) 160) ((w_fi ws (n_v (vs ++ [Value.int x]) 0) 157 - 1)) = 0) ∨ (w_ei ws (w_ar ws (n_v (vs ++ [Value.int x]) 0) 160) ((w_fi ws (n_v (vs ++ [Value.int x]) 0) 157 - 1)) = 4)))
      rw [e_0]
      first | omega | grind
  have nf1 : fc_1 (20, [1, 0], [30, 0, 1, 0, 0, -1, 1, 158]) ws (vs ++ [Value.int x]) := by
    refine ⟨fun n hn => ?_, ?_⟩
    · have hn : n ∈ [1, 0] := hn
      rw [List.length_append, hl]
      simp only [List.mem_cons, List.not_mem_nil, or_false] at hn
      show n < 4 + 1; omega
    · show 1 * v_iv (n_v (vs ++ [Value.int x]) 1) + ((-1) * w_fi ws (n_v (vs ++ [Value.int x]) 0) 158 + 0) ≤ 0
      rw [e_0]
      rw [e_1]
      omega
  have nf2 : fc_1 (20, [0], [30, 0, 1, 1, 159]) ws (vs ++ [Value.int x]) := by
    refine ⟨fun n hn => ?_, ?_⟩
    · have hn : n ∈ [0] := hn
      rw [List.length_append, hl]
      simp only [List.mem_cons, List.not_mem_nil, or_false] at hn
      show n < 4 + 1; omega
    · show 1 * w_fi ws (n_v (vs ++ [Value.int x]) 0) 159 + 0 ≤ 0
      rw [e_0]
      omega
  have nf3 : fc_1 (20, [0], [30, 0, -1, 1, 159]) ws (vs ++ [Value.int x]) := by
    refine ⟨fun n hn => ?_, ?_⟩
    · have hn : n ∈ [0] := hn
      rw [List.length_append, hl]
      simp only [List.mem_cons, List.not_mem_nil, or_false] at hn
      show n < 4 + 1; omega
    · show (-1) * w_fi ws (n_v (vs ++ [Value.int x]) 0) 159 + 0 ≤ 0
      rw [e_0]
      omega
  have nf4 : fc_1 (24, [0, 0], []) ws (vs ++ [Value.int x]) := by
    refine ⟨fun n hn => ?_, ?_⟩
    · have hn : n ∈ [0, 0] := hn
      rw [List.length_append, hl]
      simp only [List.mem_cons, List.not_mem_nil, or_false] at hn
      show n < 4 + 1; omega
    · show n_v (vs ++ [Value.int x]) 0 = n_v (vs ++ [Value.int x]) 0
      first | rfl | simp only [e_0]
  have nf5 : fc_1 (20, [4, 0], [30, 2010, 1, 0, 0, 1, 1, 158]) ws (vs ++ [Value.int x]) := by
    refine ⟨fun n hn => ?_, ?_⟩
    · have hn : n ∈ [4, 0] := hn
      rw [List.length_append, hl]
      simp only [List.mem_cons, List.not_mem_nil, or_false] at hn
      show n < 4 + 1; omega
    · show 1 * v_iv (n_v (vs ++ [Value.int x]) 4) + (1 * w_fi ws (n_v (vs ++ [Value.int x]) 0) 158 + 0) ≤ 2010
      rw [e_0]
      rw [e_4]
      omega
  have nf6 : fc_1 (20, [4, 0], [30, -2010, -1, 0, 0, -1, 1, 158]) ws (vs ++ [Value.int x]) := by
    refine ⟨fun n hn => ?_, ?_⟩
    · have hn : n ∈ [4, 0] := hn
      rw [List.length_append, hl]
      simp only [List.mem_cons, List.not_mem_nil, or_false] at hn
      show n < 4 + 1; omega
    · show (-1) * v_iv (n_v (vs ++ [Value.int x]) 4) + ((-1) * w_fi ws (n_v (vs ++ [Value.int x]) 0) 158 + 0) ≤ (-2010)
      rw [e_0]
      rw [e_4]
      omega
  exact ⟨fun q hq => (by cases hq), [Value.int x], ag_one hx, List.forall_mem_cons.mpr ⟨⟨by decide, nf0⟩, List.forall_mem_cons.mpr ⟨⟨by decide, nf1⟩, List.forall_mem_cons.mpr ⟨⟨by decide, nf2⟩, List.forall_mem_cons.mpr ⟨⟨by decide, nf3⟩, List.forall_mem_cons.mpr ⟨⟨by decide, nf4⟩, List.forall_mem_cons.mpr ⟨⟨by decide, nf5⟩, List.forall_mem_cons.mpr ⟨⟨by decide, nf6⟩, (fun _ h => (by cases h))⟩⟩⟩⟩⟩⟩⟩, (fun _ h => (by cases h))⟩
def o_Mo_product_at_f0_2 : or_T := (79, 10, [(0, (2, 0, 0, [150])), (1, (0, 0, 2009, [])), (2, (2, 0, 0, [150])), (5, (0, 0, 2010, [])), (7, (0, 0, 0, [])), (9, (0, 0, 0, []))], [(8, [9], [0]), (20, [9, 2], [50, 1, 1, 1158, 1160, 4, 6, 1, 2, 1, 0, 0, 1, 1, 6, 3, 1, 160, 2, 1, 158, 0, 3]), (8, [7], [0]), (20, [7, 2], [50, 1, 1, 1158, 1160, 4, 6, 1, 2, 1, 0, 0, 1, 1, 6, 3, 1, 160, 2, 1, 158, 0, 3]), (20, [2], [50, 2, 1, 158, 157, 160, 2, 12, 0, 7, 4, 3, 2, 0, 158, 0, 1, 2, 0, 157, 2, 7, 0, 3, 2, 0, 157, 0, 2010, 3, 14, 1, 10, 3, 0, 160, 5, 3, 2, 0, 157, 0, 1, 0, 0, 1, 10, 3, 0, 160, 5, 3, 2, 0, 157, 0, 1, 0, 4]), (20, [1, 2], [30, 0, 1, 0, 0, -1, 1, 158]), (20, [2], [30, 0, 1, 1, 159]), (20, [2], [30, 0, -1, 1, 159]), (24, [0, 2], []), (20, [5, 2], [30, 2010, 1, 0, 0, 1, 1, 158]), (20, [5, 2], [30, -2010, -1, 0, 0, -1, 1, 158])], [], [], [(20, [0], [50, 2, 1, 158, 157, 160, 2, 12, 0, 7, 4, 3, 2, 0, 158, 0, 1, 2, 0, 157, 2, 7, 0, 3, 2, 0, 157, 0, 2010, 3, 14, 1, 10, 3, 0, 160, 5, 3, 2, 0, 157, 0, 1, 0, 0, 1, 10, 3, 0, 160, 5, 3, 2, 0, 157, 0, 1, 0, 4]), (20, [1, 0], [30, 0, 1, 0, 0, -1, 1, 158]), (20, [0], [30, 0, 1, 1, 159]), (20, [0], [30, 0, -1, 1, 159])], [], [])
theorem oo_Mo_product_at_f0_2 {kA : Nat → ClassId} : or_ok kA GG o_Mo_product_at_f0_2 := by
  intro A ta ws vs hD hth hl hk hds hf
  have hl : vs.length = 10 := hl
  have hk : ∀ q ∈ ([(0, (2, 0, 0, [150])), (1, (0, 0, 2009, [])), (2, (2, 0, 0, [150])), (5, (0, 0, 2010, [])), (7, (0, 0, 0, [])), (9, (0, 0, 0, []))] : List (Nat × tv_T)), tv_ok ta q.2 (n_v vs q.1) := hk
  obtain ⟨t0, hk⟩ := List.forall_mem_cons.mp hk
  have t0 : tv_ok ta (2, 0, 0, [150]) (n_v vs 0) := t0
  have r0 : ta (v_ad (n_v vs 0)) = some 150 := tv_rg t0
  obtain ⟨t1, hk⟩ := List.forall_mem_cons.mp hk
  have t1 : tv_ok ta (0, 0, 2009, []) (n_v vs 1) := t1
  have k1 : 0 ≤ v_iv (n_v vs 1) ∧ v_iv (n_v vs 1) ≤ 2009 := tv_rng t1
  obtain ⟨t2, hk⟩ := List.forall_mem_cons.mp hk
  have t2 : tv_ok ta (2, 0, 0, [150]) (n_v vs 2) := t2
  have r2 : ta (v_ad (n_v vs 2)) = some 150 := tv_rg t2
  obtain ⟨t5, hk⟩ := List.forall_mem_cons.mp hk
  have t5 : tv_ok ta (0, 0, 2010, []) (n_v vs 5) := t5
  have k5 : 0 ≤ v_iv (n_v vs 5) ∧ v_iv (n_v vs 5) ≤ 2010 := tv_rng t5
  obtain ⟨t7, hk⟩ := List.forall_mem_cons.mp hk
  have t7 : tv_ok ta (0, 0, 0, []) (n_v vs 7) := t7
  have k7 : 0 ≤ v_iv (n_v vs 7) ∧ v_iv (n_v vs 7) ≤ 0 := tv_rng t7
  obtain ⟨t9, hk⟩ := List.forall_mem_cons.mp hk
  have t9 : tv_ok ta (0, 0, 0, []) (n_v vs 9) := t9
  have k9 : 0 ≤ v_iv (n_v vs 9) ∧ v_iv (n_v vs 9) ≤ 0 := tv_rng t9
  have hf : fc_ok [(8, [9], [0]), (20, [9, 2], [50, 1, 1, 1158, 1160, 4, 6, 1, 2, 1, 0, 0, 1, 1, 6, 3, 1, 160, 2, 1, 158, 0, 3]), (8, [7], [0]), (20, [7, 2], [50, 1, 1, 1158, 1160, 4, 6, 1, 2, 1, 0, 0, 1, 1, 6, 3, 1, 160, 2, 1, 158, 0, 3]), (20, [2], [50, 2, 1, 158, 157, 160, 2, 12, 0, 7, 4, 3, 2, 0, 158, 0, 1, 2, 0, 157, 2, 7, 0, 3, 2, 0, 157, 0, 2010, 3, 14, 1, 10, 3, 0, 160, 5, 3, 2, 0, 157, 0, 1, 0, 0, 1, 10, 3, 0, 160, 5, 3, 2, 0, 157, 0, 1, 0, 4]), (20, [1, 2], [30, 0, 1, 0, 0, -1, 1, 158]), (20, [2], [30, 0, 1, 1, 159]), (20, [2], [30, 0, -1, 1, 159]), (24, [0, 2], []), (20, [5, 2], [30, 2010, 1, 0, 0, 1, 1, 158]), (20, [5, 2], [30, -2010, -1, 0, 0, -1, 1, 158])] ta ws vs := hf
  obtain ⟨f0, hf⟩ := fc_un (by decide) hf
  have f0 : v_iv (n_v vs 9) = 0 := f0
  obtain ⟨f1, hf⟩ := fc_un (by decide) hf
  have f1 : (v_iv (n_v vs 9) = 1) → (w_ei ws (w_ar ws (n_v vs 2) 160) (w_fi ws (n_v vs 2) 158) = 3) := f1
  obtain ⟨f2, hf⟩ := fc_un (by decide) hf
  have f2 : v_iv (n_v vs 7) = 0 := f2
  obtain ⟨f3, hf⟩ := fc_un (by decide) hf
  have f3 : (v_iv (n_v vs 7) = 1) → (w_ei ws (w_ar ws (n_v vs 2) 160) (w_fi ws (n_v vs 2) 158) = 3) := f3
  obtain ⟨f4, hf⟩ := fc_un (by decide) hf
  have f4 : ((w_fi ws (n_v vs 2) 158 + 1) ≤ w_fi ws (n_v vs 2) 157) ∧ ((w_fi ws (n_v vs 2) 157 ≤ 2010) ∧ ((w_ei ws (w_ar ws (n_v vs 2) 160) ((w_fi ws (n_v vs 2) 157 - 1)) = 0) ∨ (w_ei ws (w_ar ws (n_v vs 2) 160) ((w_fi ws (n_v vs 2) 157 - 1)) = 4))) := f4
  obtain ⟨f5, hf⟩ := fc_un (by decide) hf
  have f5 : 1 * v_iv (n_v vs 1) + ((-1) * w_fi ws (n_v vs 2) 158 + 0) ≤ 0 := f5
  obtain ⟨f6, hf⟩ := fc_un (by decide) hf
  have f6 : 1 * w_fi ws (n_v vs 2) 159 + 0 ≤ 0 := f6
  obtain ⟨f7, hf⟩ := fc_un (by decide) hf
  have f7 : (-1) * w_fi ws (n_v vs 2) 159 + 0 ≤ 0 := f7
  obtain ⟨f8, hf⟩ := fc_un (by decide) hf
  have f8 : n_v vs 0 = n_v vs 2 := f8
  obtain ⟨f9, hf⟩ := fc_un (by decide) hf
  have f9 : 1 * v_iv (n_v vs 5) + (1 * w_fi ws (n_v vs 2) 158 + 0) ≤ 2010 := f9
  obtain ⟨f10, hf⟩ := fc_un (by decide) hf
  have f10 : (-1) * v_iv (n_v vs 5) + ((-1) * w_fi ws (n_v vs 2) 158 + 0) ≤ (-2010) := f10
  have q2 : n_v vs 2 = n_v vs 0 := f8.symm
  rw [q2] at f1
  rw [q2] at f3
  rw [q2] at f4
  rw [q2] at f5
  rw [q2] at f6
  rw [q2] at f7
  rw [q2] at f9
  rw [q2] at f10
  have cr_0_160 : ta (w_ar ws (n_v vs 0) 160) = some 259 := tv_rg (th_fd hD hth r0 (g := GG_150) rfl (k := 160) (t := (2, 0, 0, [259])) rfl rfl)
  have hK_0_160 : ∀ j : Int, 0 ≤ j → j < 2010 → 0 ≤ w_ei ws (w_ar ws (n_v vs 0) 160) j ∧ w_ei ws (w_ar ws (n_v vs 0) 160) j ≤ 4 := fun j h0 h1 => th_el hD hth cr_0_160 (kd := 0) (n := 2010) (m := 2010) (lo := 0) (hi := 4) (rs := []) (L := []) rfl (by decide) (j := j.toNat) (by omega)
  have kz_0_157 : 0 ≤ w_fi ws (n_v vs 0) 157 ∧ w_fi ws (n_v vs 0) 157 ≤ 2010 := tv_rng (th_fd hD hth r0 (g := GG_150) rfl (k := 157) (t := (0, 0, 2010, [])) rfl rfl)
  have kz_0_158 : 0 ≤ w_fi ws (n_v vs 0) 158 ∧ w_fi ws (n_v vs 0) 158 ≤ 2009 := tv_rng (th_fd hD hth r0 (g := GG_150) rfl (k := 158) (t := (0, 0, 2009, [])) rfl rfl)
  have kz_0_159 : 0 ≤ w_fi ws (n_v vs 0) 159 ∧ w_fi ws (n_v vs 0) 159 ≤ 13 := tv_rng (th_fd hD hth r0 (g := GG_150) rfl (k := 159) (t := (0, 0, 13, [])) rfl rfl)
  have nf0 : fc_1 (20, [0], [50, 2, 1, 158, 157, 160, 2, 12, 0, 7, 4, 3, 2, 0, 158, 0, 1, 2, 0, 157, 2, 7, 0, 3, 2, 0, 157, 0, 2010, 3, 14, 1, 10, 3, 0, 160, 5, 3, 2, 0, 157, 0, 1, 0, 0, 1, 10, 3, 0, 160, 5, 3, 2, 0, 157, 0, 1, 0, 4]) ws (vs) := by
    refine ⟨fun n hn => ?_, ?_⟩
    · have hn : n ∈ [0] := hn
      rw [hl]
      simp only [List.mem_cons, List.not_mem_nil, or_false] at hn
      show n < 10; omega
    · show ((w_fi ws (n_v vs 0) 158 + 1) ≤ w_fi ws (n_v vs 0) 157) ∧ ((w_fi ws (n_v vs 0) 157 ≤ 2010) ∧ ((w_ei ws (w_ar ws (n_v vs 0) 160) ((w_fi ws (n_v vs 0) 157 - 1)) = 0) ∨ (w_ei ws (w_ar ws (n_v vs 0) 160) ((w_fi ws (n_v vs 0) 157 - 1)) = 4)))
      first | omega | grind
  have nf1 : fc_1 (20, [1, 0], [30, 0, 1, 0, 0, -1, 1, 158]) ws (vs) := by
    refine ⟨fun n hn => ?_, ?_⟩
    · have hn : n ∈ [1, 0] := hn
      rw [hl]
      simp only [List.mem_cons, List.not_mem_nil, or_false] at hn
      show n < 10; omega
    · show 1 * v_iv (n_v vs 1) + ((-1) * w_fi ws (n_v vs 0) 158 + 0) ≤ 0
      omega
  have nf2 : fc_1 (20, [0], [30, 0, 1, 1, 159]) ws (vs) := by
    refine ⟨fun n hn => ?_, ?_⟩
    · have hn : n ∈ [0] := hn
      rw [hl]
      simp only [List.mem_cons, List.not_mem_nil, or_false] at hn
      show n < 10; omega
    · show 1 * w_fi ws (n_v vs 0) 159 + 0 ≤ 0
      omega
  have nf3 : fc_1 (20, [0], [30, 0, -1, 1, 159]) ws (vs) := by
    refine ⟨fun n hn => ?_, ?_⟩
    · have hn : n ∈ [0] := hn
      rw [hl]
      simp only [List.mem_cons, List.not_mem_nil, or_false] at hn
      show n < 10; omega
    · show (-1) * w_fi ws (n_v vs 0) 159 + 0 ≤ 0
      omega
  refine ⟨(fun _ h => (by cases h)), [], trivial, ?_, (fun _ h => (by cases h))⟩
  rw [List.append_nil]
  exact List.forall_mem_cons.mpr ⟨⟨by decide, nf0⟩, List.forall_mem_cons.mpr ⟨⟨by decide, nf1⟩, List.forall_mem_cons.mpr ⟨⟨by decide, nf2⟩, List.forall_mem_cons.mpr ⟨⟨by decide, nf3⟩, (fun _ h => (by cases h))⟩⟩⟩⟩
def o_Mo_product_at_f0_3 : or_T := (37, 14, [(0, (2, 0, 0, [150])), (1, (0, 0, 2009, [])), (2, (2, 0, 0, [150])), (4, (0, 0, 2009, [])), (5, (0, 0, 2010, [])), (7, (0, 0, 0, [])), (9, (0, 1, 1, [])), (11, (0, 0, 0, [])), (12, (0, 1, 1, [])), (13, (0, 1, 2010, []))], [(1, [13, 4, 12], []), (9, [4, 2], [158]), (20, [11, 2], [50, 1, 1, 1158, 1160, 4, 6, 1, 2, 1, 0, 0, 1, 1, 6, 3, 1, 160, 2, 1, 158, 0, 3]), (8, [9], [1]), (20, [9, 2], [50, 1, 1, 1158, 1160, 4, 6, 1, 2, 1, 0, 0, 1, 1, 6, 3, 1, 160, 2, 1, 158, 0, 3]), (8, [7], [0]), (20, [7, 2], [50, 1, 1, 1158, 1160, 4, 6, 1, 2, 1, 0, 0, 1, 1, 6, 3, 1, 160, 2, 1, 158, 0, 3]), (20, [2], [50, 2, 1, 158, 157, 160, 2, 12, 0, 7, 4, 3, 2, 0, 158, 0, 1, 2, 0, 157, 2, 7, 0, 3, 2, 0, 157, 0, 2010, 3, 14, 1, 10, 3, 0, 160, 5, 3, 2, 0, 157, 0, 1, 0, 0, 1, 10, 3, 0, 160, 5, 3, 2, 0, 157, 0, 1, 0, 4]), (20, [1, 2], [30, 0, 1, 0, 0, -1, 1, 158]), (20, [2], [30, 0, 1, 1, 159]), (20, [2], [30, 0, -1, 1, 159]), (24, [0, 2], []), (20, [5, 2], [30, 2010, 1, 0, 0, 1, 1, 158]), (20, [5, 2], [30, -2010, -1, 0, 0, -1, 1, 158])], [(13, (0, 1, 2009, []))], [], [], [], [(13, 4, 1, 1), (13, 1, -4294967296, 2010), (1, 4, -4294967296, 2009), (4, 1, -4294967296, 2009)])
theorem oo_Mo_product_at_f0_3 {kA : Nat → ClassId} : or_ok kA GG o_Mo_product_at_f0_3 := by
  intro A ta ws vs hD hth hl hk hds hf
  have hl : vs.length = 14 := hl
  have hk : ∀ q ∈ ([(0, (2, 0, 0, [150])), (1, (0, 0, 2009, [])), (2, (2, 0, 0, [150])), (4, (0, 0, 2009, [])), (5, (0, 0, 2010, [])), (7, (0, 0, 0, [])), (9, (0, 1, 1, [])), (11, (0, 0, 0, [])), (12, (0, 1, 1, [])), (13, (0, 1, 2010, []))] : List (Nat × tv_T)), tv_ok ta q.2 (n_v vs q.1) := hk
  obtain ⟨t0, hk⟩ := List.forall_mem_cons.mp hk
  have t0 : tv_ok ta (2, 0, 0, [150]) (n_v vs 0) := t0
  have r0 : ta (v_ad (n_v vs 0)) = some 150 := tv_rg t0
  obtain ⟨t1, hk⟩ := List.forall_mem_cons.mp hk
  have t1 : tv_ok ta (0, 0, 2009, []) (n_v vs 1) := t1
  have k1 : 0 ≤ v_iv (n_v vs 1) ∧ v_iv (n_v vs 1) ≤ 2009 := tv_rng t1
  obtain ⟨t2, hk⟩ := List.forall_mem_cons.mp hk
  have t2 : tv_ok ta (2, 0, 0, [150]) (n_v vs 2) := t2
  have r2 : ta (v_ad (n_v vs 2)) = some 150 := tv_rg t2
  obtain ⟨t4, hk⟩ := List.forall_mem_cons.mp hk
  have t4 : tv_ok ta (0, 0, 2009, []) (n_v vs 4) := t4
  have k4 : 0 ≤ v_iv (n_v vs 4) ∧ v_iv (n_v vs 4) ≤ 2009 := tv_rng t4
  obtain ⟨t5, hk⟩ := List.forall_mem_cons.mp hk
  have t5 : tv_ok ta (0, 0, 2010, []) (n_v vs 5) := t5
  have k5 : 0 ≤ v_iv (n_v vs 5) ∧ v_iv (n_v vs 5) ≤ 2010 := tv_rng t5
  obtain ⟨t7, hk⟩ := List.forall_mem_cons.mp hk
  have t7 : tv_ok ta (0, 0, 0, []) (n_v vs 7) := t7
  have k7 : 0 ≤ v_iv (n_v vs 7) ∧ v_iv (n_v vs 7) ≤ 0 := tv_rng t7
  obtain ⟨t9, hk⟩ := List.forall_mem_cons.mp hk
  have t9 : tv_ok ta (0, 1, 1, []) (n_v vs 9) := t9
  have k9 : 1 ≤ v_iv (n_v vs 9) ∧ v_iv (n_v vs 9) ≤ 1 := tv_rng t9
  obtain ⟨t11, hk⟩ := List.forall_mem_cons.mp hk
  have t11 : tv_ok ta (0, 0, 0, []) (n_v vs 11) := t11
  have k11 : 0 ≤ v_iv (n_v vs 11) ∧ v_iv (n_v vs 11) ≤ 0 := tv_rng t11
  obtain ⟨t12, hk⟩ := List.forall_mem_cons.mp hk
  have t12 : tv_ok ta (0, 1, 1, []) (n_v vs 12) := t12
  have k12 : 1 ≤ v_iv (n_v vs 12) ∧ v_iv (n_v vs 12) ≤ 1 := tv_rng t12
  obtain ⟨t13, hk⟩ := List.forall_mem_cons.mp hk
  have t13 : tv_ok ta (0, 1, 2010, []) (n_v vs 13) := t13
  have k13 : 1 ≤ v_iv (n_v vs 13) ∧ v_iv (n_v vs 13) ≤ 2010 := tv_rng t13
  have hds : ∀ q ∈ ([(13, 4, 1, 1), (13, 1, -4294967296, 2010), (1, 4, -4294967296, 2009), (4, 1, -4294967296, 2009)] : List of_T), n_iv vs q.2.1 + q.2.2.1 ≤ n_iv vs q.1 ∧ n_iv vs q.1 ≤ n_iv vs q.2.1 + q.2.2.2 := hds
  obtain ⟨d0, hds⟩ := List.forall_mem_cons.mp hds
  have d0 : v_iv (n_v vs 4) + 1 ≤ v_iv (n_v vs 13) ∧ v_iv (n_v vs 13) ≤ v_iv (n_v vs 4) + 1 := d0
  obtain ⟨d1, hds⟩ := List.forall_mem_cons.mp hds
  have d1 : v_iv (n_v vs 1) + (-4294967296) ≤ v_iv (n_v vs 13) ∧ v_iv (n_v vs 13) ≤ v_iv (n_v vs 1) + 2010 := d1
  obtain ⟨d2, hds⟩ := List.forall_mem_cons.mp hds
  have d2 : v_iv (n_v vs 4) + (-4294967296) ≤ v_iv (n_v vs 1) ∧ v_iv (n_v vs 1) ≤ v_iv (n_v vs 4) + 2009 := d2
  obtain ⟨d3, hds⟩ := List.forall_mem_cons.mp hds
  have d3 : v_iv (n_v vs 1) + (-4294967296) ≤ v_iv (n_v vs 4) ∧ v_iv (n_v vs 4) ≤ v_iv (n_v vs 1) + 2009 := d3
  have hf : fc_ok [(1, [13, 4, 12], []), (9, [4, 2], [158]), (20, [11, 2], [50, 1, 1, 1158, 1160, 4, 6, 1, 2, 1, 0, 0, 1, 1, 6, 3, 1, 160, 2, 1, 158, 0, 3]), (8, [9], [1]), (20, [9, 2], [50, 1, 1, 1158, 1160, 4, 6, 1, 2, 1, 0, 0, 1, 1, 6, 3, 1, 160, 2, 1, 158, 0, 3]), (8, [7], [0]), (20, [7, 2], [50, 1, 1, 1158, 1160, 4, 6, 1, 2, 1, 0, 0, 1, 1, 6, 3, 1, 160, 2, 1, 158, 0, 3]), (20, [2], [50, 2, 1, 158, 157, 160, 2, 12, 0, 7, 4, 3, 2, 0, 158, 0, 1, 2, 0, 157, 2, 7, 0, 3, 2, 0, 157, 0, 2010, 3, 14, 1, 10, 3, 0, 160, 5, 3, 2, 0, 157, 0, 1, 0, 0, 1, 10, 3, 0, 160, 5, 3, 2, 0, 157, 0, 1, 0, 4]), (20, [1, 2], [30, 0, 1, 0, 0, -1, 1, 158]), (20, [2], [30, 0, 1, 1, 159]), (20, [2], [30, 0, -1, 1, 159]), (24, [0, 2], []), (20, [5, 2], [30, 2010, 1, 0, 0, 1, 1, 158]), (20, [5, 2], [30, -2010, -1, 0, 0, -1, 1, 158])] ta ws vs := hf
  obtain ⟨f0, hf⟩ := fc_un (by decide) hf
  have f0 : v_iv (n_v vs 13) = v_iv (n_v vs 4) + v_iv (n_v vs 12) := f0
  obtain ⟨f1, hf⟩ := fc_un (by decide) hf
  have f1 : n_v vs 4 = w_fd ws (v_ad (n_v vs 2)) 158 := f1
  obtain ⟨f2, hf⟩ := fc_un (by decide) hf
  have f2 : (v_iv (n_v vs 11) = 1) → (w_ei ws (w_ar ws (n_v vs 2) 160) (w_fi ws (n_v vs 2) 158) = 3) := f2
  obtain ⟨f3, hf⟩ := fc_un (by decide) hf
  have f3 : v_iv (n_v vs 9) ≠ 0 := f3
  obtain ⟨f4, hf⟩ := fc_un (by decide) hf
  have f4 : (v_iv (n_v vs 9) = 1) → (w_ei ws (w_ar ws (n_v vs 2) 160) (w_fi ws (n_v vs 2) 158) = 3) := f4
  obtain ⟨f5, hf⟩ := fc_un (by decide) hf
  have f5 : v_iv (n_v vs 7) = 0 := f5
  obtain ⟨f6, hf⟩ := fc_un (by decide) hf
  have f6 : (v_iv (n_v vs 7) = 1) → (w_ei ws (w_ar ws (n_v vs 2) 160) (w_fi ws (n_v vs 2) 158) = 3) := f6
  obtain ⟨f7, hf⟩ := fc_un (by decide) hf
  have f7 : ((w_fi ws (n_v vs 2) 158 + 1) ≤ w_fi ws (n_v vs 2) 157) ∧ ((w_fi ws (n_v vs 2) 157 ≤ 2010) ∧ ((w_ei ws (w_ar ws (n_v vs 2) 160) ((w_fi ws (n_v vs 2) 157 - 1)) = 0) ∨ (w_ei ws (w_ar ws (n_v vs 2) 160) ((w_fi ws (n_v vs 2) 157 - 1)) = 4))) := f7
  obtain ⟨f8, hf⟩ := fc_un (by decide) hf
  have f8 : 1 * v_iv (n_v vs 1) + ((-1) * w_fi ws (n_v vs 2) 158 + 0) ≤ 0 := f8
  obtain ⟨f9, hf⟩ := fc_un (by decide) hf
  have f9 : 1 * w_fi ws (n_v vs 2) 159 + 0 ≤ 0 := f9
  obtain ⟨f10, hf⟩ := fc_un (by decide) hf
  have f10 : (-1) * w_fi ws (n_v vs 2) 159 + 0 ≤ 0 := f10
  obtain ⟨f11, hf⟩ := fc_un (by decide) hf
  have f11 : n_v vs 0 = n_v vs 2 := f11
  obtain ⟨f12, hf⟩ := fc_un (by decide) hf
  have f12 : 1 * v_iv (n_v vs 5) + (1 * w_fi ws (n_v vs 2) 158 + 0) ≤ 2010 := f12
  obtain ⟨f13, hf⟩ := fc_un (by decide) hf
  have f13 : (-1) * v_iv (n_v vs 5) + ((-1) * w_fi ws (n_v vs 2) 158 + 0) ≤ (-2010) := f13
  have q2 : n_v vs 2 = n_v vs 0 := f11.symm
  rw [q2] at f1
  rw [q2] at f2
  rw [q2] at f4
  rw [q2] at f6
  rw [q2] at f7
  rw [q2] at f8
  rw [q2] at f9
  rw [q2] at f10
  rw [q2] at f12
  rw [q2] at f13
  have cr_0_160 : ta (w_ar ws (n_v vs 0) 160) = some 259 := tv_rg (th_fd hD hth r0 (g := GG_150) rfl (k := 160) (t := (2, 0, 0, [259])) rfl rfl)
  have g1 : v_iv (n_v vs 4) = w_fi ws (n_v vs 0) 158 := congrArg v_iv f1
  have hK_0_160 : ∀ j : Int, 0 ≤ j → j < 2010 → 0 ≤ w_ei ws (w_ar ws (n_v vs 0) 160) j ∧ w_ei ws (w_ar ws (n_v vs 0) 160) j ≤ 4 := fun j h0 h1 => th_el hD hth cr_0_160 (kd := 0) (n := 2010) (m := 2010) (lo := 0) (hi := 4) (rs := []) (L := []) rfl (by decide) (j := j.toNat) (by omega)
  have kz_0_157 : 0 ≤ w_fi ws (n_v vs 0) 157 ∧ w_fi ws (n_v vs 0) 157 ≤ 2010 := tv_rng (th_fd hD hth r0 (g := GG_150) rfl (k := 157) (t := (0, 0, 2010, [])) rfl rfl)
  have kz_0_158 : 0 ≤ w_fi ws (n_v vs 0) 158 ∧ w_fi ws (n_v vs 0) 158 ≤ 2009 := tv_rng (th_fd hD hth r0 (g := GG_150) rfl (k := 158) (t := (0, 0, 2009, [])) rfl rfl)
  have kz_0_159 : 0 ≤ w_fi ws (n_v vs 0) 159 ∧ w_fi ws (n_v vs 0) 159 ≤ 13 := tv_rng (th_fd hD hth r0 (g := GG_150) rfl (k := 159) (t := (0, 0, 13, [])) rfl rfl)
  have rf13 : tv_ok ta (0, 1, 2009, []) (n_v vs 13) := tv_in t13 (by first | omega | grind) (by first | omega | grind)
  refine ⟨List.forall_mem_cons.mpr ⟨rf13, (fun _ h => (by cases h))⟩, [], trivial, ?_, (fun _ h => (by cases h))⟩
  rw [List.append_nil]
  exact (fun _ h => (by cases h))
def o_Mo_product_at_f0_4 : or_T := (41, 14, [(0, (2, 0, 0, [150])), (1, (0, 0, 2009, [])), (2, (2, 0, 0, [150])), (4, (0, 0, 2009, [])), (5, (0, 0, 2010, [])), (7, (0, 0, 0, [])), (9, (0, 1, 1, [])), (11, (0, 0, 0, [])), (12, (0, 1, 1, [])), (13, (0, 1, 2009, []))], [(20, [2], [30, 0, 1, 1, 159]), (20, [2], [30, 0, -1, 1, 159]), (24, [0, 2], []), (101, [2, 13], [158]), (1, [13, 4, 12], []), (9, [4, 2], [158]), (20, [11, 2], [50, 1, 1, 1158, 1160, 4, 6, 1, 2, 1, 0, 0, 1, 1, 6, 3, 1, 160, 2, 1, 158, 0, 3]), (8, [9], [1]), (20, [9, 2], [50, 1, 1, 1158, 1160, 4, 6, 1, 2, 1, 0, 0, 1, 1, 6, 3, 1, 160, 2, 1, 158, 0, 3]), (8, [7], [0]), (20, [7, 2], [50, 1, 1, 1158, 1160, 4, 6, 1, 2, 1, 0, 0, 1, 1, 6, 3, 1, 160, 2, 1, 158, 0, 3]), (20, [2], [50, 2, 1, 158, 157, 160, 2, 12, 0, 7, 4, 3, 2, 0, 158, 0, 1, 2, 0, 157, 2, 7, 0, 3, 2, 0, 157, 0, 2010, 3, 14, 1, 10, 3, 0, 160, 5, 3, 2, 0, 157, 0, 1, 0, 0, 1, 10, 3, 0, 160, 5, 3, 2, 0, 157, 0, 1, 0, 4]), (20, [1, 2], [30, 0, 1, 0, 0, -1, 1, 158]), (20, [2], [30, 0, 1, 1, 159]), (20, [2], [30, 0, -1, 1, 159]), (20, [5, 2], [30, 2010, 1, 0, 0, 1, 1, 158]), (20, [5, 2], [30, -2010, -1, 0, 0, -1, 1, 158])], [], [(0, 0, 2009, [])], [(20, [2], [50, 2, 1, 158, 157, 160, 2, 12, 0, 7, 4, 3, 2, 0, 158, 0, 1, 2, 0, 157, 2, 7, 0, 3, 2, 0, 157, 0, 2010, 3, 14, 1, 10, 3, 0, 160, 5, 3, 2, 0, 157, 0, 1, 0, 0, 1, 10, 3, 0, 160, 5, 3, 2, 0, 157, 0, 1, 0, 4]), (20, [2, 14], [30, 0, 1, 1, 158, -1, 0, 0]), (20, [2, 14], [30, 0, -1, 1, 158, 1, 0, 0]), (20, [2], [30, 0, 1, 1, 159]), (20, [2], [30, 0, -1, 1, 159]), (23, [1, 14], [0, 1, -1]), (23, [5, 14], [-2011, -1, -1])], [], [(13, 4, 1, 1), (13, 1, -4294967296, 2010), (1, 4, -4294967296, 2009), (4, 1, -4294967296, 2009)])
theorem oo_Mo_product_at_f0_4 {kA : Nat → ClassId} : or_ok kA GG o_Mo_product_at_f0_4 := by
  intro A ta ws vs hD hth hl hk hds hf
  have hl : vs.length = 14 := hl
  have hk : ∀ q ∈ ([(0, (2, 0, 0, [150])), (1, (0, 0, 2009, [])), (2, (2, 0, 0, [150])), (4, (0, 0, 2009, [])), (5, (0, 0, 2010, [])), (7, (0, 0, 0, [])), (9, (0, 1, 1, [])), (11, (0, 0, 0, [])), (12, (0, 1, 1, [])), (13, (0, 1, 2009, []))] : List (Nat × tv_T)), tv_ok ta q.2 (n_v vs q.1) := hk
  obtain ⟨t0, hk⟩ := List.forall_mem_cons.mp hk
  have t0 : tv_ok ta (2, 0, 0, [150]) (n_v vs 0) := t0
  have r0 : ta (v_ad (n_v vs 0)) = some 150 := tv_rg t0
  obtain ⟨t1, hk⟩ := List.forall_mem_cons.mp hk
  have t1 : tv_ok ta (0, 0, 2009, []) (n_v vs 1) := t1
  have k1 : 0 ≤ v_iv (n_v vs 1) ∧ v_iv (n_v vs 1) ≤ 2009 := tv_rng t1
  obtain ⟨t2, hk⟩ := List.forall_mem_cons.mp hk
  have t2 : tv_ok ta (2, 0, 0, [150]) (n_v vs 2) := t2
  have r2 : ta (v_ad (n_v vs 2)) = some 150 := tv_rg t2
  obtain ⟨t4, hk⟩ := List.forall_mem_cons.mp hk
  have t4 : tv_ok ta (0, 0, 2009, []) (n_v vs 4) := t4
  have k4 : 0 ≤ v_iv (n_v vs 4) ∧ v_iv (n_v vs 4) ≤ 2009 := tv_rng t4
  obtain ⟨t5, hk⟩ := List.forall_mem_cons.mp hk
  have t5 : tv_ok ta (0, 0, 2010, []) (n_v vs 5) := t5
  have k5 : 0 ≤ v_iv (n_v vs 5) ∧ v_iv (n_v vs 5) ≤ 2010 := tv_rng t5
  obtain ⟨t7, hk⟩ := List.forall_mem_cons.mp hk
  have t7 : tv_ok ta (0, 0, 0, []) (n_v vs 7) := t7
  have k7 : 0 ≤ v_iv (n_v vs 7) ∧ v_iv (n_v vs 7) ≤ 0 := tv_rng t7
  obtain ⟨t9, hk⟩ := List.forall_mem_cons.mp hk
  have t9 : tv_ok ta (0, 1, 1, []) (n_v vs 9) := t9
  have k9 : 1 ≤ v_iv (n_v vs 9) ∧ v_iv (n_v vs 9) ≤ 1 := tv_rng t9
  obtain ⟨t11, hk⟩ := List.forall_mem_cons.mp hk
  have t11 : tv_ok ta (0, 0, 0, []) (n_v vs 11) := t11
  have k11 : 0 ≤ v_iv (n_v vs 11) ∧ v_iv (n_v vs 11) ≤ 0 := tv_rng t11
  obtain ⟨t12, hk⟩ := List.forall_mem_cons.mp hk
  have t12 : tv_ok ta (0, 1, 1, []) (n_v vs 12) := t12
  have k12 : 1 ≤ v_iv (n_v vs 12) ∧ v_iv (n_v vs 12) ≤ 1 := tv_rng t12
  obtain ⟨t13, hk⟩ := List.forall_mem_cons.mp hk
  have t13 : tv_ok ta (0, 1, 2009, []) (n_v vs 13) := t13
  have k13 : 1 ≤ v_iv (n_v vs 13) ∧ v_iv (n_v vs 13) ≤ 2009 := tv_rng t13
  have hds : ∀ q ∈ ([(13, 4, 1, 1), (13, 1, -4294967296, 2010), (1, 4, -4294967296, 2009), (4, 1, -4294967296, 2009)] : List of_T), n_iv vs q.2.1 + q.2.2.1 ≤ n_iv vs q.1 ∧ n_iv vs q.1 ≤ n_iv vs q.2.1 + q.2.2.2 := hds
  obtain ⟨d0, hds⟩ := List.forall_mem_cons.mp hds
  have d0 : v_iv (n_v vs 4) + 1 ≤ v_iv (n_v vs 13) ∧ v_iv (n_v vs 13) ≤ v_iv (n_v vs 4) + 1 := d0
  obtain ⟨d1, hds⟩ := List.forall_mem_cons.mp hds
  have d1 : v_iv (n_v vs 1) + (-4294967296) ≤ v_iv (n_v vs 13) ∧ v_iv (n_v vs 13) ≤ v_iv (n_v vs 1) + 2010 := d1
  obtain ⟨d2, hds⟩ := List.forall_mem_cons.mp hds
  have d2 : v_iv (n_v vs 4) + (-4294967296) ≤ v_iv (n_v vs 1) ∧ v_iv (n_v vs 1) ≤ v_iv (n_v vs 4) + 2009 := d2
  obtain ⟨d3, hds⟩ := List.forall_mem_cons.mp hds
  have d3 : v_iv (n_v vs 1) + (-4294967296) ≤ v_iv (n_v vs 4) ∧ v_iv (n_v vs 4) ≤ v_iv (n_v vs 1) + 2009 := d3
  have hf : fc_ok [(20, [2], [30, 0, 1, 1, 159]), (20, [2], [30, 0, -1, 1, 159]), (24, [0, 2], []), (101, [2, 13], [158]), (1, [13, 4, 12], []), (9, [4, 2], [158]), (20, [11, 2], [50, 1, 1, 1158, 1160, 4, 6, 1, 2, 1, 0, 0, 1, 1, 6, 3, 1, 160, 2, 1, 158, 0, 3]), (8, [9], [1]), (20, [9, 2], [50, 1, 1, 1158, 1160, 4, 6, 1, 2, 1, 0, 0, 1, 1, 6, 3, 1, 160, 2, 1, 158, 0, 3]), (8, [7], [0]), (20, [7, 2], [50, 1, 1, 1158, 1160, 4, 6, 1, 2, 1, 0, 0, 1, 1, 6, 3, 1, 160, 2, 1, 158, 0, 3]), (20, [2], [50, 2, 1, 158, 157, 160, 2, 12, 0, 7, 4, 3, 2, 0, 158, 0, 1, 2, 0, 157, 2, 7, 0, 3, 2, 0, 157, 0, 2010, 3, 14, 1, 10, 3, 0, 160, 5, 3, 2, 0, 157, 0, 1, 0, 0, 1, 10, 3, 0, 160, 5, 3, 2, 0, 157, 0, 1, 0, 4]), (20, [1, 2], [30, 0, 1, 0, 0, -1, 1, 158]), (20, [2], [30, 0, 1, 1, 159]), (20, [2], [30, 0, -1, 1, 159]), (20, [5, 2], [30, 2010, 1, 0, 0, 1, 1, 158]), (20, [5, 2], [30, -2010, -1, 0, 0, -1, 1, 158])] ta ws vs := hf
  obtain ⟨f0, hf⟩ := fc_un (by decide) hf
  have f0 : 1 * w_fi ws (n_v vs 2) 159 + 0 ≤ 0 := f0
  obtain ⟨f1, hf⟩ := fc_un (by decide) hf
  have f1 : (-1) * w_fi ws (n_v vs 2) 159 + 0 ≤ 0 := f1
  obtain ⟨f2, hf⟩ := fc_un (by decide) hf
  have f2 : n_v vs 0 = n_v vs 2 := f2
  obtain ⟨ta1, w1, le1, ⟨_, s1⟩, hf⟩ := fc_us (by decide) hf
  have s1 : (∀ b j, w_el ws b j = w_el w1 b j) ∧ ∀ b j, w_fd ws b j = if b = v_ad (n_v vs 2) ∧ j = 158 then n_v vs 13 else w_fd w1 b j := s1
  obtain ⟨f4, hf⟩ := fc_un (by decide) hf
  have f4 : v_iv (n_v vs 13) = v_iv (n_v vs 4) + v_iv (n_v vs 12) := f4
  obtain ⟨f5, hf⟩ := fc_un (by decide) hf
  have f5 : n_v vs 4 = w_fd w1 (v_ad (n_v vs 2)) 158 := f5
  obtain ⟨f6, hf⟩ := fc_un (by decide) hf
  have f6 : (v_iv (n_v vs 11) = 1) → (w_ei w1 (w_ar w1 (n_v vs 2) 160) (w_fi w1 (n_v vs 2) 158) = 3) := f6
  obtain ⟨f7, hf⟩ := fc_un (by decide) hf
  have f7 : v_iv (n_v vs 9) ≠ 0 := f7
  obtain ⟨f8, hf⟩ := fc_un (by decide) hf
  have f8 : (v_iv (n_v vs 9) = 1) → (w_ei w1 (w_ar w1 (n_v vs 2) 160) (w_fi w1 (n_v vs 2) 158) = 3) := f8
  obtain ⟨f9, hf⟩ := fc_un (by decide) hf
  have f9 : v_iv (n_v vs 7) = 0 := f9
  obtain ⟨f10, hf⟩ := fc_un (by decide) hf
  have f10 : (v_iv (n_v vs 7) = 1) → (w_ei w1 (w_ar w1 (n_v vs 2) 160) (w_fi w1 (n_v vs 2) 158) = 3) := f10
  obtain ⟨f11, hf⟩ := fc_un (by decide) hf
  have f11 : ((w_fi w1 (n_v vs 2) 158 + 1) ≤ w_fi w1 (n_v vs 2) 157) ∧ ((w_fi w1 (n_v vs 2) 157 ≤ 2010) ∧ ((w_ei w1 (w_ar w1 (n_v vs 2) 160) ((w_fi w1 (n_v vs 2) 157 - 1)) = 0) ∨ (w_ei w1 (w_ar w1 (n_v vs 2) 160) ((w_fi w1 (n_v vs 2) 157 - 1)) = 4))) := f11
  obtain ⟨f12, hf⟩ := fc_un (by decide) hf
  have f12 : 1 * v_iv (n_v vs 1) + ((-1) * w_fi w1 (n_v vs 2) 158 + 0) ≤ 0 := f12
  obtain ⟨f13, hf⟩ := fc_un (by decide) hf
  have f13 : 1 * w_fi w1 (n_v vs 2) 159 + 0 ≤ 0 := f13
  obtain ⟨f14, hf⟩ := fc_un (by decide) hf
  have f14 : (-1) * w_fi w1 (n_v vs 2) 159 + 0 ≤ 0 := f14
  obtain ⟨f15, hf⟩ := fc_un (by decide) hf
  have f15 : 1 * v_iv (n_v vs 5) + (1 * w_fi w1 (n_v vs 2) 158 + 0) ≤ 2010 := f15
  obtain ⟨f16, hf⟩ := fc_un (by decide) hf
  have f16 : (-1) * v_iv (n_v vs 5) + ((-1) * w_fi w1 (n_v vs 2) 158 + 0) ≤ (-2010) := f16
  have q2 : n_v vs 2 = n_v vs 0 := f2.symm
  rw [q2] at f0
  rw [q2] at f1
  rw [q2] at s1
  rw [q2] at f5
  rw [q2] at f6
  rw [q2] at f8
  rw [q2] at f10
  rw [q2] at f11
  rw [q2] at f12
  rw [q2] at f13
  rw [q2] at f14
  rw [q2] at f15
  rw [q2] at f16
  have ar_0_160_1 : w_ar w1 (n_v vs 0) 160 = w_ar ws (n_v vs 0) 160 := by show v_ad (w_fd w1 _ _) = v_ad (w_fd ws _ _); rw [s1.2, if_neg (fun e => absurd e.2 (by decide))]
  have cr_0_160 : ta (w_ar ws (n_v vs 0) 160) = some 259 := tv_rg (th_fd hD hth r0 (g := GG_150) rfl (k := 160) (t := (2, 0, 0, [259])) rfl rfl)
  have g5 : v_iv (n_v vs 4) = w_fi w1 (n_v vs 0) 158 := congrArg v_iv f5
  rw [ar_0_160_1] at f6
  rw [ar_0_160_1] at f8
  rw [ar_0_160_1] at f10
  rw [ar_0_160_1] at f11
  have fe_0_157_1 : w_fi ws (n_v vs 0) 157 = w_fi w1 (n_v vs 0) 157 := by show v_iv (w_fd _ _ _) = v_iv (w_fd _ _ _); rw [s1.2, if_neg (fun e => absurd e.2 (by decide))]
  have fe_0_158_1 : w_fi ws (n_v vs 0) 158 = v_iv (n_v vs 13) := by show v_iv (w_fd _ _ _) = _; rw [s1.2, if_pos ⟨rfl, rfl⟩]
  have fe_0_159_1 : w_fi ws (n_v vs 0) 159 = w_fi w1 (n_v vs 0) 159 := by show v_iv (w_fd _ _ _) = v_iv (w_fd _ _ _); rw [s1.2, if_neg (fun e => absurd e.2 (by decide))]
  have hE_0_160_1 : ∀ j : Int, w_ei ws (w_ar ws (n_v vs 0) 160) j = w_ei w1 (w_ar ws (n_v vs 0) 160) j := fun j => s1.1 _ _
  have hK_0_160 : ∀ j : Int, 0 ≤ j → j < 2010 → 0 ≤ w_ei ws (w_ar ws (n_v vs 0) 160) j ∧ w_ei ws (w_ar ws (n_v vs 0) 160) j ≤ 4 := fun j h0 h1 => th_el hD hth cr_0_160 (kd := 0) (n := 2010) (m := 2010) (lo := 0) (hi := 4) (rs := []) (L := []) rfl (by decide) (j := j.toNat) (by omega)
  have kz_0_157 : 0 ≤ w_fi ws (n_v vs 0) 157 ∧ w_fi ws (n_v vs 0) 157 ≤ 2010 := tv_rng (th_fd hD hth r0 (g := GG_150) rfl (k := 157) (t := (0, 0, 2010, [])) rfl rfl)
  have kz_0_158 : 0 ≤ w_fi ws (n_v vs 0) 158 ∧ w_fi ws (n_v vs 0) 158 ≤ 2009 := tv_rng (th_fd hD hth r0 (g := GG_150) rfl (k := 158) (t := (0, 0, 2009, [])) rfl rfl)
  have kz_0_159 : 0 ≤ w_fi ws (n_v vs 0) 159 ∧ w_fi ws (n_v vs 0) 159 ≤ 13 := tv_rng (th_fd hD hth r0 (g := GG_150) rfl (k := 159) (t := (0, 0, 13, [])) rfl rfl)
  have kv : 0 ≤ w_fi ws (n_v vs 0) 158 ∧ w_fi ws (n_v vs 0) 158 ≤ 2009 := tv_rng (th_fd hD hth r0 (g := GG_150) rfl (k := 158) (t := (0, 0, 2009, [])) rfl rfl)
  obtain ⟨x, ex, hx⟩ := iv_ex (ta := ta) (lo := 0) (hi := 2009) (z := w_fi ws (n_v vs 0) 158) (by omega) (by omega) (by decide) (by decide)
  have ex2 : v_iv (Value.int x) = w_fi ws (n_v vs 0) 158 := ex
  have ex3 : 0 ≤ v_iv (Value.int x) ∧ v_iv (Value.int x) ≤ 2009 := tv_rng hx
  have e_1 : n_v (vs ++ [Value.int x]) 1 = n_v vs 1 := n_v_old (by rw [hl]; decide)
  have e_2 : n_v (vs ++ [Value.int x]) 2 = n_v vs 2 := n_v_old (by rw [hl]; decide)
  have e_5 : n_v (vs ++ [Value.int x]) 5 = n_v vs 5 := n_v_old (by rw [hl]; decide)
  have e_14 : n_v (vs ++ [Value.int x]) 14 = Value.int x := n_v_new hl
  have nf0 : fc_1 (20, [2], [50, 2, 1, 158, 157, 160, 2, 12, 0, 7, 4, 3, 2, 0, 158, 0, 1, 2, 0, 157, 2, 7, 0, 3, 2, 0, 157, 0, 2010, 3, 14, 1, 10, 3, 0, 160, 5, 3, 2, 0, 157, 0, 1, 0, 0, 1, 10, 3, 0, 160, 5, 3, 2, 0, 157, 0, 1, 0, 4]) ws (vs ++ [Value.int x]) := by
    refine ⟨fun n hn => ?_, ?_⟩
    · have hn : n ∈ [2] := hn
      rw [List.length_append, hl]
      simp only [List.mem_cons, List.not_mem_nil, or_false] at hn
      show n < 14 + 1; omega
    · show ((w_fi ws (n_v (vs ++ [Value.int x]) 2) 158 + 1) ≤ w_fi ws (n_v (vs ++ [Value.int x]) 2) 157) ∧ ((w_fi ws (n_v (vs ++ [Value.int x]) 2) 157 ≤ 2010) ∧ ((w_ei ws (w_ar ws (n_v (vs ++ [Value.int x]) 2) 160) ((w_fi ws (n_v (vs ++ [Value.int x]) 2) 157 - 1)) = 0) ∨ (w_ei ws (w_ar ws (n_v (vs ++ [Value.int x]) 2) 160) ((w_fi ws (n_v (vs ++ [Value.int x]) 2) 157 - 1)) = 4)))
      rw [e_2]
      rw [q2]
      first | omega | grind
  have nf1 : fc_1 (20, [2, 14], [30, 0, 1, 1, 158, -1, 0, 0]) ws (vs ++ [Value.int x]) := by
    refine ⟨fun n hn => ?_, ?_⟩
    · have hn : n ∈ [2, 14] := hn
      rw [List.length_append, hl]
      simp only [List.mem_cons, List.not_mem_nil, or_false] at hn
      show n < 14 + 1; omega
    · show 1 * w_fi ws (n_v (vs ++ [Value.int x]) 2) 158 + ((-1) * v_iv (n_v (vs ++ [Value.int x]) 14) + 0) ≤ 0
      rw [e_2]
      rw [e_14]
      rw [q2]
      omega
  have nf2 : fc_1 (20, [2, 14], [30, 0, -1, 1, 158, 1, 0, 0]) ws (vs ++ [Value.int x]) := by
    refine ⟨fun n hn => ?_, ?_⟩
    · have hn : n ∈ [2, 14] := hn
      rw [List.length_append, hl]
      simp only [List.mem_cons, List.not_mem_nil, or_false] at hn
      show n < 14 + 1; omega
    · show (-1) * w_fi ws (n_v (vs ++ [Value.int x]) 2) 158 + (1 * v_iv (n_v (vs ++ [Value.int x]) 14) + 0) ≤ 0
      rw [e_2]
      rw [e_14]
      rw [q2]
      omega
  have nf3 : fc_1 (20, [2], [30, 0, 1, 1, 159]) ws (vs ++ [Value.int x]) := by
    refine ⟨fun n hn => ?_, ?_⟩
    · have hn : n ∈ [2] := hn
      rw [List.length_append, hl]
      simp only [List.mem_cons, List.not_mem_nil, or_false] at hn
      show n < 14 + 1; omega
    · show 1 * w_fi ws (n_v (vs ++ [Value.int x]) 2) 159 + 0 ≤ 0
      rw [e_2]
      rw [q2]
      omega
  have nf4 : fc_1 (20, [2], [30, 0, -1, 1, 159]) ws (vs ++ [Value.int x]) := by
    refine ⟨fun n hn => ?_, ?_⟩
    · have hn : n ∈ [2] := hn
      rw [List.length_append, hl]
      simp only [List.mem_cons, List.not_mem_nil, or_false] at hn
      show n < 14 + 1; omega
    · show (-1) * w_fi ws (n_v (vs ++ [Value.int x]) 2) 159 + 0 ≤ 0
      rw [e_2]
      rw [q2]
      omega
  have nf5 : fc_1 (23, [1, 14], [0, 1, -1]) ws (vs ++ [Value.int x]) := by
    refine ⟨fun n hn => ?_, ?_⟩
    · have hn : n ∈ [1, 14] := hn
      rw [List.length_append, hl]
      simp only [List.mem_cons, List.not_mem_nil, or_false] at hn
      show n < 14 + 1; omega
    · show 1 * v_iv (n_v (vs ++ [Value.int x]) 1) + ((-1) * v_iv (n_v (vs ++ [Value.int x]) 14) + 0) ≤ 0
      rw [e_1]
      rw [e_14]
      omega
  have nf6 : fc_1 (23, [5, 14], [-2011, -1, -1]) ws (vs ++ [Value.int x]) := by
    refine ⟨fun n hn => ?_, ?_⟩
    · have hn : n ∈ [5, 14] := hn
      rw [List.length_append, hl]
      simp only [List.mem_cons, List.not_mem_nil, or_false] at hn
      show n < 14 + 1; omega
    · show (-1) * v_iv (n_v (vs ++ [Value.int x]) 5) + ((-1) * v_iv (n_v (vs ++ [Value.int x]) 14) + 0) ≤ (-2011)
      rw [e_5]
      rw [e_14]
      omega
  exact ⟨fun q hq => (by cases hq), [Value.int x], ag_one hx, List.forall_mem_cons.mpr ⟨⟨by decide, nf0⟩, List.forall_mem_cons.mpr ⟨⟨by decide, nf1⟩, List.forall_mem_cons.mpr ⟨⟨by decide, nf2⟩, List.forall_mem_cons.mpr ⟨⟨by decide, nf3⟩, List.forall_mem_cons.mpr ⟨⟨by decide, nf4⟩, List.forall_mem_cons.mpr ⟨⟨by decide, nf5⟩, List.forall_mem_cons.mpr ⟨⟨by decide, nf6⟩, (fun _ h => (by cases h))⟩⟩⟩⟩⟩⟩⟩, (fun _ h => (by cases h))⟩
def o_Mo_product_at_f0_5 : or_T := (68, 17, [(0, (2, 0, 0, [150])), (1, (0, 0, 2009, [])), (2, (2, 0, 0, [150])), (4, (0, 0, 2009, [])), (5, (0, 0, 2010, [])), (12, (0, 1, 1, [])), (13, (0, 1, 2009, [])), (14, (0, 0, 2009, []))], [(7, [15, 16], [1]), (23, [1, 14], [0, 1, -1]), (23, [5, 14], [-2011, -1, -1]), (24, [0, 2], []), (20, [2], [50, 2, 1, 158, 157, 160, 2, 12, 0, 7, 4, 3, 2, 0, 158, 0, 1, 2, 0, 157, 2, 7, 0, 3, 2, 0, 157, 0, 2010, 3, 14, 1, 10, 3, 0, 160, 5, 3, 2, 0, 157, 0, 1, 0, 0, 1, 10, 3, 0, 160, 5, 3, 2, 0, 157, 0, 1, 0, 4]), (20, [14, 2], [30, 0, 1, 0, 0, -1, 1, 158]), (20, [2], [30, 0, 1, 1, 159]), (20, [2], [30, 0, -1, 1, 159]), (102, [14], [0, 13008, 13009, 13158, 13159]), (23, [1, 14], [0, 1, -1]), (23, [5, 14], [-2011, -1, -1]), (101, [2, 13], [158]), (1, [13, 4, 12], [])], [], [], [(8, [15], [1])], [], [(13, 4, 1, 1), (13, 1, -4294967296, 2010), (1, 4, -4294967296, 2009), (4, 1, -4294967296, 2009)])
theorem oo_Mo_product_at_f0_5 {kA : Nat → ClassId} : or_ok kA GG o_Mo_product_at_f0_5 := by
  intro A ta ws vs hD hth hl hk hds hf
  have hl : vs.length = 17 := hl
  have hk : ∀ q ∈ ([(0, (2, 0, 0, [150])), (1, (0, 0, 2009, [])), (2, (2, 0, 0, [150])), (4, (0, 0, 2009, [])), (5, (0, 0, 2010, [])), (12, (0, 1, 1, [])), (13, (0, 1, 2009, [])), (14, (0, 0, 2009, []))] : List (Nat × tv_T)), tv_ok ta q.2 (n_v vs q.1) := hk
  obtain ⟨t0, hk⟩ := List.forall_mem_cons.mp hk
  have t0 : tv_ok ta (2, 0, 0, [150]) (n_v vs 0) := t0
  have r0 : ta (v_ad (n_v vs 0)) = some 150 := tv_rg t0
  obtain ⟨t1, hk⟩ := List.forall_mem_cons.mp hk
  have t1 : tv_ok ta (0, 0, 2009, []) (n_v vs 1) := t1
  have k1 : 0 ≤ v_iv (n_v vs 1) ∧ v_iv (n_v vs 1) ≤ 2009 := tv_rng t1
  obtain ⟨t2, hk⟩ := List.forall_mem_cons.mp hk
  have t2 : tv_ok ta (2, 0, 0, [150]) (n_v vs 2) := t2
  have r2 : ta (v_ad (n_v vs 2)) = some 150 := tv_rg t2
  obtain ⟨t4, hk⟩ := List.forall_mem_cons.mp hk
  have t4 : tv_ok ta (0, 0, 2009, []) (n_v vs 4) := t4
  have k4 : 0 ≤ v_iv (n_v vs 4) ∧ v_iv (n_v vs 4) ≤ 2009 := tv_rng t4
  obtain ⟨t5, hk⟩ := List.forall_mem_cons.mp hk
  have t5 : tv_ok ta (0, 0, 2010, []) (n_v vs 5) := t5
  have k5 : 0 ≤ v_iv (n_v vs 5) ∧ v_iv (n_v vs 5) ≤ 2010 := tv_rng t5
  obtain ⟨t12, hk⟩ := List.forall_mem_cons.mp hk
  have t12 : tv_ok ta (0, 1, 1, []) (n_v vs 12) := t12
  have k12 : 1 ≤ v_iv (n_v vs 12) ∧ v_iv (n_v vs 12) ≤ 1 := tv_rng t12
  obtain ⟨t13, hk⟩ := List.forall_mem_cons.mp hk
  have t13 : tv_ok ta (0, 1, 2009, []) (n_v vs 13) := t13
  have k13 : 1 ≤ v_iv (n_v vs 13) ∧ v_iv (n_v vs 13) ≤ 2009 := tv_rng t13
  obtain ⟨t14, hk⟩ := List.forall_mem_cons.mp hk
  have t14 : tv_ok ta (0, 0, 2009, []) (n_v vs 14) := t14
  have k14 : 0 ≤ v_iv (n_v vs 14) ∧ v_iv (n_v vs 14) ≤ 2009 := tv_rng t14
  have hds : ∀ q ∈ ([(13, 4, 1, 1), (13, 1, -4294967296, 2010), (1, 4, -4294967296, 2009), (4, 1, -4294967296, 2009)] : List of_T), n_iv vs q.2.1 + q.2.2.1 ≤ n_iv vs q.1 ∧ n_iv vs q.1 ≤ n_iv vs q.2.1 + q.2.2.2 := hds
  obtain ⟨d0, hds⟩ := List.forall_mem_cons.mp hds
  have d0 : v_iv (n_v vs 4) + 1 ≤ v_iv (n_v vs 13) ∧ v_iv (n_v vs 13) ≤ v_iv (n_v vs 4) + 1 := d0
  obtain ⟨d1, hds⟩ := List.forall_mem_cons.mp hds
  have d1 : v_iv (n_v vs 1) + (-4294967296) ≤ v_iv (n_v vs 13) ∧ v_iv (n_v vs 13) ≤ v_iv (n_v vs 1) + 2010 := d1
  obtain ⟨d2, hds⟩ := List.forall_mem_cons.mp hds
  have d2 : v_iv (n_v vs 4) + (-4294967296) ≤ v_iv (n_v vs 1) ∧ v_iv (n_v vs 1) ≤ v_iv (n_v vs 4) + 2009 := d2
  obtain ⟨d3, hds⟩ := List.forall_mem_cons.mp hds
  have d3 : v_iv (n_v vs 1) + (-4294967296) ≤ v_iv (n_v vs 4) ∧ v_iv (n_v vs 4) ≤ v_iv (n_v vs 1) + 2009 := d3
  have hf : fc_ok [(7, [15, 16], [1]), (23, [1, 14], [0, 1, -1]), (23, [5, 14], [-2011, -1, -1]), (24, [0, 2], []), (20, [2], [50, 2, 1, 158, 157, 160, 2, 12, 0, 7, 4, 3, 2, 0, 158, 0, 1, 2, 0, 157, 2, 7, 0, 3, 2, 0, 157, 0, 2010, 3, 14, 1, 10, 3, 0, 160, 5, 3, 2, 0, 157, 0, 1, 0, 0, 1, 10, 3, 0, 160, 5, 3, 2, 0, 157, 0, 1, 0, 4]), (20, [14, 2], [30, 0, 1, 0, 0, -1, 1, 158]), (20, [2], [30, 0, 1, 1, 159]), (20, [2], [30, 0, -1, 1, 159]), (102, [14], [0, 13008, 13009, 13158, 13159]), (23, [1, 14], [0, 1, -1]), (23, [5, 14], [-2011, -1, -1]), (101, [2, 13], [158]), (1, [13, 4, 12], [])] ta ws vs := hf
  obtain ⟨f0, hf⟩ := fc_un (by decide) hf
  have f0 : v_iv (n_v vs 15) ≠ v_iv (n_v vs 16) := f0
  obtain ⟨f1, hf⟩ := fc_un (by decide) hf
  have f1 : 1 * v_iv (n_v vs 1) + ((-1) * v_iv (n_v vs 14) + 0) ≤ 0 := f1
  obtain ⟨f2, hf⟩ := fc_un (by decide) hf
  have f2 : (-1) * v_iv (n_v vs 5) + ((-1) * v_iv (n_v vs 14) + 0) ≤ (-2011) := f2
  obtain ⟨f3, hf⟩ := fc_un (by decide) hf
  have f3 : n_v vs 0 = n_v vs 2 := f3
  obtain ⟨f4, hf⟩ := fc_un (by decide) hf
  have f4 : ((w_fi ws (n_v vs 2) 158 + 1) ≤ w_fi ws (n_v vs 2) 157) ∧ ((w_fi ws (n_v vs 2) 157 ≤ 2010) ∧ ((w_ei ws (w_ar ws (n_v vs 2) 160) ((w_fi ws (n_v vs 2) 157 - 1)) = 0) ∨ (w_ei ws (w_ar ws (n_v vs 2) 160) ((w_fi ws (n_v vs 2) 157 - 1)) = 4))) := f4
  obtain ⟨f5, hf⟩ := fc_un (by decide) hf
  have f5 : 1 * v_iv (n_v vs 14) + ((-1) * w_fi ws (n_v vs 2) 158 + 0) ≤ 0 := f5
  obtain ⟨f6, hf⟩ := fc_un (by decide) hf
  have f6 : 1 * w_fi ws (n_v vs 2) 159 + 0 ≤ 0 := f6
  obtain ⟨f7, hf⟩ := fc_un (by decide) hf
  have f7 : (-1) * w_fi ws (n_v vs 2) 159 + 0 ≤ 0 := f7
  obtain ⟨ta1, w1, le1, ⟨_, s1⟩, hf⟩ := fc_us (by decide) hf
  obtain ⟨f9, hf⟩ := fc_un (by decide) hf
  have f9 : 1 * v_iv (n_v vs 1) + ((-1) * v_iv (n_v vs 14) + 0) ≤ 0 := f9
  obtain ⟨f10, hf⟩ := fc_un (by decide) hf
  have f10 : (-1) * v_iv (n_v vs 5) + ((-1) * v_iv (n_v vs 14) + 0) ≤ (-2011) := f10
  obtain ⟨ta2, w2, le2, ⟨_, s2⟩, hf⟩ := fc_us (by decide) hf
  have s2 : (∀ b j, w_el w1 b j = w_el w2 b j) ∧ ∀ b j, w_fd w1 b j = if b = v_ad (n_v vs 2) ∧ j = 158 then n_v vs 13 else w_fd w2 b j := s2
  obtain ⟨f12, hf⟩ := fc_un (by decide) hf
  have f12 : v_iv (n_v vs 13) = v_iv (n_v vs 4) + v_iv (n_v vs 12) := f12
  have q2 : n_v vs 2 = n_v vs 0 := f3.symm
  rw [q2] at f4
  rw [q2] at f5
  rw [q2] at f6
  rw [q2] at f7
  rw [q2] at s2
  have cr_0_160 : ta (w_ar ws (n_v vs 0) 160) = some 259 := tv_rg (th_fd hD hth r0 (g := GG_150) rfl (k := 160) (t := (2, 0, 0, [259])) rfl rfl)
  have hK_0_160 : ∀ j : Int, 0 ≤ j → j < 2010 → 0 ≤ w_ei ws (w_ar ws (n_v vs 0) 160) j ∧ w_ei ws (w_ar ws (n_v vs 0) 160) j ≤ 4 := fun j h0 h1 => th_el hD hth cr_0_160 (kd := 0) (n := 2010) (m := 2010) (lo := 0) (hi := 4) (rs := []) (L := []) rfl (by decide) (j := j.toNat) (by omega)
  have kz_0_157 : 0 ≤ w_fi ws (n_v vs 0) 157 ∧ w_fi ws (n_v vs 0) 157 ≤ 2010 := tv_rng (th_fd hD hth r0 (g := GG_150) rfl (k := 157) (t := (0, 0, 2010, [])) rfl rfl)
  have kz_0_158 : 0 ≤ w_fi ws (n_v vs 0) 158 ∧ w_fi ws (n_v vs 0) 158 ≤ 2009 := tv_rng (th_fd hD hth r0 (g := GG_150) rfl (k := 158) (t := (0, 0, 2009, [])) rfl rfl)
  have kz_0_159 : 0 ≤ w_fi ws (n_v vs 0) 159 ∧ w_fi ws (n_v vs 0) 159 ≤ 13 := tv_rng (th_fd hD hth r0 (g := GG_150) rfl (k := 159) (t := (0, 0, 13, [])) rfl rfl)
  have nf0 : fc_1 (8, [15], [1]) ws (vs) := by
    refine ⟨fun n hn => ?_, ?_⟩
    · have hn : n ∈ [15] := hn
      rw [hl]
      simp only [List.mem_cons, List.not_mem_nil, or_false] at hn
      show n < 17; omega
    · show v_iv (n_v vs 15) ≠ 0
      omega
  refine ⟨(fun _ h => (by cases h)), [], trivial, ?_, (fun _ h => (by cases h))⟩
  rw [List.append_nil]
  exact List.forall_mem_cons.mpr ⟨⟨by decide, nf0⟩, (fun _ h => (by cases h))⟩
def o_Mo_product_at_f0_6 : or_T := (74, 18, [(0, (2, 0, 0, [150])), (1, (0, 0, 2009, [])), (2, (2, 0, 0, [150])), (4, (0, 0, 2009, [])), (5, (0, 0, 2010, [])), (12, (0, 1, 1, [])), (13, (0, 1, 2009, [])), (14, (0, 0, 2009, []))], [(23, [1, 14], [0, 1, -1]), (23, [5, 14], [-2011, -1, -1]), (24, [0, 2], []), (20, [2], [50, 2, 1, 158, 157, 160, 2, 12, 0, 7, 4, 3, 2, 0, 158, 0, 1, 2, 0, 157, 2, 7, 0, 3, 2, 0, 157, 0, 2010, 3, 14, 1, 10, 3, 0, 160, 5, 3, 2, 0, 157, 0, 1, 0, 0, 1, 10, 3, 0, 160, 5, 3, 2, 0, 157, 0, 1, 0, 4]), (20, [14, 2], [30, 0, 1, 0, 0, -1, 1, 158]), (20, [2], [30, 0, 1, 1, 159]), (20, [2], [30, 0, -1, 1, 159]), (102, [14], [0, 13008, 13009, 13158, 13159]), (23, [1, 14], [0, 1, -1]), (23, [5, 14], [-2011, -1, -1]), (101, [2, 13], [158]), (1, [13, 4, 12], [])], [], [(0, 0, 2010, [])], [(20, [2], [50, 2, 1, 158, 157, 160, 2, 12, 0, 7, 4, 3, 2, 0, 158, 0, 1, 2, 0, 157, 2, 7, 0, 3, 2, 0, 157, 0, 2010, 3, 14, 1, 10, 3, 0, 160, 5, 3, 2, 0, 157, 0, 1, 0, 0, 1, 10, 3, 0, 160, 5, 3, 2, 0, 157, 0, 1, 0, 4]), (20, [1, 2], [30, 0, 1, 0, 0, -1, 1, 158]), (20, [2], [30, 0, 1, 1, 159]), (20, [2], [30, 0, -1, 1, 159]), (20, [18, 2], [30, -2011, -1, 0, 0, -1, 1, 158]), (24, [0, 2], [])], [(18, 5, 0, 0)], [(13, 4, 1, 1), (13, 1, -4294967296, 2010), (1, 4, -4294967296, 2009), (4, 1, -4294967296, 2009)])
theorem oo_Mo_product_at_f0_6 {kA : Nat → ClassId} : or_ok kA GG o_Mo_product_at_f0_6 := by
  intro A ta ws vs hD hth hl hk hds hf
  have hl : vs.length = 18 := hl
  have hk : ∀ q ∈ ([(0, (2, 0, 0, [150])), (1, (0, 0, 2009, [])), (2, (2, 0, 0, [150])), (4, (0, 0, 2009, [])), (5, (0, 0, 2010, [])), (12, (0, 1, 1, [])), (13, (0, 1, 2009, [])), (14, (0, 0, 2009, []))] : List (Nat × tv_T)), tv_ok ta q.2 (n_v vs q.1) := hk
  obtain ⟨t0, hk⟩ := List.forall_mem_cons.mp hk
  have t0 : tv_ok ta (2, 0, 0, [150]) (n_v vs 0) := t0
  have r0 : ta (v_ad (n_v vs 0)) = some 150 := tv_rg t0
  obtain ⟨t1, hk⟩ := List.forall_mem_cons.mp hk
  have t1 : tv_ok ta (0, 0, 2009, []) (n_v vs 1) := t1
  have k1 : 0 ≤ v_iv (n_v vs 1) ∧ v_iv (n_v vs 1) ≤ 2009 := tv_rng t1
  obtain ⟨t2, hk⟩ := List.forall_mem_cons.mp hk
  have t2 : tv_ok ta (2, 0, 0, [150]) (n_v vs 2) := t2
  have r2 : ta (v_ad (n_v vs 2)) = some 150 := tv_rg t2
  obtain ⟨t4, hk⟩ := List.forall_mem_cons.mp hk
  have t4 : tv_ok ta (0, 0, 2009, []) (n_v vs 4) := t4
  have k4 : 0 ≤ v_iv (n_v vs 4) ∧ v_iv (n_v vs 4) ≤ 2009 := tv_rng t4
  obtain ⟨t5, hk⟩ := List.forall_mem_cons.mp hk
  have t5 : tv_ok ta (0, 0, 2010, []) (n_v vs 5) := t5
  have k5 : 0 ≤ v_iv (n_v vs 5) ∧ v_iv (n_v vs 5) ≤ 2010 := tv_rng t5
  obtain ⟨t12, hk⟩ := List.forall_mem_cons.mp hk
  have t12 : tv_ok ta (0, 1, 1, []) (n_v vs 12) := t12
  have k12 : 1 ≤ v_iv (n_v vs 12) ∧ v_iv (n_v vs 12) ≤ 1 := tv_rng t12
  obtain ⟨t13, hk⟩ := List.forall_mem_cons.mp hk
  have t13 : tv_ok ta (0, 1, 2009, []) (n_v vs 13) := t13
  have k13 : 1 ≤ v_iv (n_v vs 13) ∧ v_iv (n_v vs 13) ≤ 2009 := tv_rng t13
  obtain ⟨t14, hk⟩ := List.forall_mem_cons.mp hk
  have t14 : tv_ok ta (0, 0, 2009, []) (n_v vs 14) := t14
  have k14 : 0 ≤ v_iv (n_v vs 14) ∧ v_iv (n_v vs 14) ≤ 2009 := tv_rng t14
  have hds : ∀ q ∈ ([(13, 4, 1, 1), (13, 1, -4294967296, 2010), (1, 4, -4294967296, 2009), (4, 1, -4294967296, 2009)] : List of_T), n_iv vs q.2.1 + q.2.2.1 ≤ n_iv vs q.1 ∧ n_iv vs q.1 ≤ n_iv vs q.2.1 + q.2.2.2 := hds
  obtain ⟨d0, hds⟩ := List.forall_mem_cons.mp hds
  have d0 : v_iv (n_v vs 4) + 1 ≤ v_iv (n_v vs 13) ∧ v_iv (n_v vs 13) ≤ v_iv (n_v vs 4) + 1 := d0
  obtain ⟨d1, hds⟩ := List.forall_mem_cons.mp hds
  have d1 : v_iv (n_v vs 1) + (-4294967296) ≤ v_iv (n_v vs 13) ∧ v_iv (n_v vs 13) ≤ v_iv (n_v vs 1) + 2010 := d1
  obtain ⟨d2, hds⟩ := List.forall_mem_cons.mp hds
  have d2 : v_iv (n_v vs 4) + (-4294967296) ≤ v_iv (n_v vs 1) ∧ v_iv (n_v vs 1) ≤ v_iv (n_v vs 4) + 2009 := d2
  obtain ⟨d3, hds⟩ := List.forall_mem_cons.mp hds
  have d3 : v_iv (n_v vs 1) + (-4294967296) ≤ v_iv (n_v vs 4) ∧ v_iv (n_v vs 4) ≤ v_iv (n_v vs 1) + 2009 := d3
  have hf : fc_ok [(23, [1, 14], [0, 1, -1]), (23, [5, 14], [-2011, -1, -1]), (24, [0, 2], []), (20, [2], [50, 2, 1, 158, 157, 160, 2, 12, 0, 7, 4, 3, 2, 0, 158, 0, 1, 2, 0, 157, 2, 7, 0, 3, 2, 0, 157, 0, 2010, 3, 14, 1, 10, 3, 0, 160, 5, 3, 2, 0, 157, 0, 1, 0, 0, 1, 10, 3, 0, 160, 5, 3, 2, 0, 157, 0, 1, 0, 4]), (20, [14, 2], [30, 0, 1, 0, 0, -1, 1, 158]), (20, [2], [30, 0, 1, 1, 159]), (20, [2], [30, 0, -1, 1, 159]), (102, [14], [0, 13008, 13009, 13158, 13159]), (23, [1, 14], [0, 1, -1]), (23, [5, 14], [-2011, -1, -1]), (101, [2, 13], [158]), (1, [13, 4, 12], [])] ta ws vs := hf
  obtain ⟨f0, hf⟩ := fc_un (by decide) hf
  have f0 : 1 * v_iv (n_v vs 1) + ((-1) * v_iv (n_v vs 14) + 0) ≤ 0 := f0
  obtain ⟨f1, hf⟩ := fc_un (by decide) hf
  have f1 : (-1) * v_iv (n_v vs 5) + ((-1) * v_iv (n_v vs 14) + 0) ≤ (-2011) := f1
  obtain ⟨f2, hf⟩ := fc_un (by decide) hf
  have f2 : n_v vs 0 = n_v vs 2 := f2
  obtain ⟨f3, hf⟩ := fc_un (by decide) hf
  have f3 : ((w_fi ws (n_v vs 2) 158 + 1) ≤ w_fi ws (n_v vs 2) 157) ∧ ((w_fi ws (n_v vs 2) 157 ≤ 2010) ∧ ((w_ei ws (w_ar ws (n_v vs 2) 160) ((w_fi ws (n_v vs 2) 157 - 1)) = 0) ∨ (w_ei ws (w_ar ws (n_v vs 2) 160) ((w_fi ws (n_v vs 2) 157 - 1)) = 4))) := f3
  obtain ⟨f4, hf⟩ := fc_un (by decide) hf
  have f4 : 1 * v_iv (n_v vs 14) + ((-1) * w_fi ws (n_v vs 2) 158 + 0) ≤ 0 := f4
  obtain ⟨f5, hf⟩ := fc_un (by decide) hf
  have f5 : 1 * w_fi ws (n_v vs 2) 159 + 0 ≤ 0 := f5
  obtain ⟨f6, hf⟩ := fc_un (by decide) hf
  have f6 : (-1) * w_fi ws (n_v vs 2) 159 + 0 ≤ 0 := f6
  obtain ⟨ta1, w1, le1, ⟨_, s1⟩, hf⟩ := fc_us (by decide) hf
  obtain ⟨f8, hf⟩ := fc_un (by decide) hf
  have f8 : 1 * v_iv (n_v vs 1) + ((-1) * v_iv (n_v vs 14) + 0) ≤ 0 := f8
  obtain ⟨f9, hf⟩ := fc_un (by decide) hf
  have f9 : (-1) * v_iv (n_v vs 5) + ((-1) * v_iv (n_v vs 14) + 0) ≤ (-2011) := f9
  obtain ⟨ta2, w2, le2, ⟨_, s2⟩, hf⟩ := fc_us (by decide) hf
  have s2 : (∀ b j, w_el w1 b j = w_el w2 b j) ∧ ∀ b j, w_fd w1 b j = if b = v_ad (n_v vs 2) ∧ j = 158 then n_v vs 13 else w_fd w2 b j := s2
  obtain ⟨f11, hf⟩ := fc_un (by decide) hf
  have f11 : v_iv (n_v vs 13) = v_iv (n_v vs 4) + v_iv (n_v vs 12) := f11
  have q2 : n_v vs 2 = n_v vs 0 := f2.symm
  rw [q2] at f3
  rw [q2] at f4
  rw [q2] at f5
  rw [q2] at f6
  rw [q2] at s2
  have cr_0_160 : ta (w_ar ws (n_v vs 0) 160) = some 259 := tv_rg (th_fd hD hth r0 (g := GG_150) rfl (k := 160) (t := (2, 0, 0, [259])) rfl rfl)
  have hK_0_160 : ∀ j : Int, 0 ≤ j → j < 2010 → 0 ≤ w_ei ws (w_ar ws (n_v vs 0) 160) j ∧ w_ei ws (w_ar ws (n_v vs 0) 160) j ≤ 4 := fun j h0 h1 => th_el hD hth cr_0_160 (kd := 0) (n := 2010) (m := 2010) (lo := 0) (hi := 4) (rs := []) (L := []) rfl (by decide) (j := j.toNat) (by omega)
  have kz_0_157 : 0 ≤ w_fi ws (n_v vs 0) 157 ∧ w_fi ws (n_v vs 0) 157 ≤ 2010 := tv_rng (th_fd hD hth r0 (g := GG_150) rfl (k := 157) (t := (0, 0, 2010, [])) rfl rfl)
  have kz_0_158 : 0 ≤ w_fi ws (n_v vs 0) 158 ∧ w_fi ws (n_v vs 0) 158 ≤ 2009 := tv_rng (th_fd hD hth r0 (g := GG_150) rfl (k := 158) (t := (0, 0, 2009, [])) rfl rfl)
  have kz_0_159 : 0 ≤ w_fi ws (n_v vs 0) 159 ∧ w_fi ws (n_v vs 0) 159 ≤ 13 := tv_rng (th_fd hD hth r0 (g := GG_150) rfl (k := 159) (t := (0, 0, 13, [])) rfl rfl)
  obtain ⟨x, ex, hx⟩ := iv_ex (ta := ta) (lo := 0) (hi := 2010) (z := 0 + (1 * v_iv (n_v vs 5) + 0)) (by omega) (by omega) (by decide) (by decide)
  have ex2 : v_iv (Value.int x) = 0 + (1 * v_iv (n_v vs 5) + 0) := ex
  have ex3 : 0 ≤ v_iv (Value.int x) ∧ v_iv (Value.int x) ≤ 2010 := tv_rng hx
  have e_0 : n_v (vs ++ [Value.int x]) 0 = n_v vs 0 := n_v_old (by rw [hl]; decide)
  have e_1 : n_v (vs ++ [Value.int x]) 1 = n_v vs 1 := n_v_old (by rw [hl]; decide)
  have e_2 : n_v (vs ++ [Value.int x]) 2 = n_v vs 2 := n_v_old (by rw [hl]; decide)
  have e_18 : n_v (vs ++ [Value.int x]) 18 = Value.int x := n_v_new hl
  have nf0 : fc_1 (20, [2], [50, 2, 1, 158, 157, 160, 2, 12, 0, 7, 4, 3, 2, 0, 158, 0, 1, 2, 0, 157, 2, 7, 0, 3, 2, 0, 157, 0, 2010, 3, 14, 1, 10, 3, 0, 160, 5, 3, 2, 0, 157, 0, 1, 0, 0, 1, 10, 3, 0, 160, 5, 3, 2, 0, 157, 0, 1, 0, 4]) ws (vs ++ [Value.int x]) := by
    refine ⟨fun n hn => ?_, ?_⟩
    · have hn : n ∈ [2] := hn
      rw [List.length_append, hl]
      simp only [List.mem_cons, List.not_mem_nil, or_false] at hn
      show n < 18 + 1; omega
    · show ((w_fi ws (n_v (vs ++ [Value.int x]) 2) 158 + 1) ≤ w_fi ws (n_v (vs ++ [Value.int x]) 2) 157) ∧ ((w_fi ws (n_v (vs ++ [Value.int x]) 2) 157 ≤ 2010) ∧ ((w_ei ws (w_ar ws (n_v (vs ++ [Value.int x]) 2) 160) ((w_fi ws (n_v (vs ++ [Value.int x]) 2) 157 - 1)) = 0) ∨ (w_ei ws (w_ar ws (n_v (vs ++ [Value.int x]) 2) 160) ((w_fi ws (n_v (vs ++ [Value.int x]) 2) 157 - 1)) = 4)))
      rw [e_2]
      rw [q2]
      first | omega | grind
  have nf1 : fc_1 (20, [1, 2], [30, 0, 1, 0, 0, -1, 1, 158]) ws (vs ++ [Value.int x]) := by
    refine ⟨fun n hn => ?_, ?_⟩
    · have hn : n ∈ [1, 2] := hn
      rw [List.length_append, hl]
      simp only [List.mem_cons, List.not_mem_nil, or_false] at hn
      show n < 18 + 1; omega
    · show 1 * v_iv (n_v (vs ++ [Value.int x]) 1) + ((-1) * w_fi ws (n_v (vs ++ [Value.int x]) 2) 158 + 0) ≤ 0
      rw [e_1]
      rw [e_2]
      rw [q2]
      omega
  have nf2 : fc_1 (20, [2], [30, 0, 1, 1, 159]) ws (vs ++ [Value.int x]) := by
    refine ⟨fun n hn => ?_, ?_⟩
    · have hn : n ∈ [2] := hn
      rw [List.length_append, hl]
      simp only [List.mem_cons, List.not_mem_nil, or_false] at hn
      show n < 18 + 1; omega
    · show 1 * w_fi ws (n_v (vs ++ [Value.int x]) 2) 159 + 0 ≤ 0
      rw [e_2]
      rw [q2]
      omega
  have nf3 : fc_1 (20, [2], [30, 0, -1, 1, 159]) ws (vs ++ [Value.int x]) := by
    refine ⟨fun n hn => ?_, ?_⟩
    · have hn : n ∈ [2] := hn
      rw [List.length_append, hl]
      simp only [List.mem_cons, List.not_mem_nil, or_false] at hn
      show n < 18 + 1; omega
    · show (-1) * w_fi ws (n_v (vs ++ [Value.int x]) 2) 159 + 0 ≤ 0
      rw [e_2]
      rw [q2]
      omega
  have nf4 : fc_1 (20, [18, 2], [30, -2011, -1, 0, 0, -1, 1, 158]) ws (vs ++ [Value.int x]) := by
    refine ⟨fun n hn => ?_, ?_⟩
    · have hn : n ∈ [18, 2] := hn
      rw [List.length_append, hl]
      simp only [List.mem_cons, List.not_mem_nil, or_false] at hn
      show n < 18 + 1; omega
    · show (-1) * v_iv (n_v (vs ++ [Value.int x]) 18) + ((-1) * w_fi ws (n_v (vs ++ [Value.int x]) 2) 158 + 0) ≤ (-2011)
      rw [e_2]
      rw [e_18]
      rw [q2]
      omega
  have nf5 : fc_1 (24, [0, 2], []) ws (vs ++ [Value.int x]) := by
    refine ⟨fun n hn => ?_, ?_⟩
    · have hn : n ∈ [0, 2] := hn
      rw [List.length_append, hl]
      simp only [List.mem_cons, List.not_mem_nil, or_false] at hn
      show n < 18 + 1; omega
    · show n_v (vs ++ [Value.int x]) 0 = n_v (vs ++ [Value.int x]) 2
      first | rfl | simp only [e_0, e_2, q2]
  obtain ⟨x0, e0, _, _⟩ := tv_int t5 rfl
  have e1 : v_iv (n_v vs 5) = x0.toInt := by rw [e0]; rfl
  have ho : sy_ofs (vs ++ [Value.int x]) (18, 5, 0, 0) := by
    refine ⟨x, x0, by rw [List.getElem?_append_right (by rw [hl]; decide), hl]; rfl, ?_, ?_, ?_⟩
    · rw [List.getElem?_append_left (by rw [hl]; decide)]; exact n_v_some (by rw [hl]; decide) e0
    · show x0.toInt + 0 ≤ x.toInt; omega
    · show x.toInt ≤ x0.toInt + 0; omega
  exact ⟨fun q hq => (by cases hq), [Value.int x], ag_one hx, List.forall_mem_cons.mpr ⟨⟨by decide, nf0⟩, List.forall_mem_cons.mpr ⟨⟨by decide, nf1⟩, List.forall_mem_cons.mpr ⟨⟨by decide, nf2⟩, List.forall_mem_cons.mpr ⟨⟨by decide, nf3⟩, List.forall_mem_cons.mpr ⟨⟨by decide, nf4⟩, List.forall_mem_cons.mpr ⟨⟨by decide, nf5⟩, (fun _ h => (by cases h))⟩⟩⟩⟩⟩⟩, List.forall_mem_cons.mpr ⟨ho, (fun _ h => (by cases h))⟩⟩
def o_Mo_product_at_f0_7 : or_T := (37, 14, [(0, (2, 0, 0, [150])), (1, (0, 0, 2009, [])), (2, (2, 0, 0, [150])), (4, (0, 0, 2009, [])), (5, (0, 0, 2010, [])), (7, (0, 0, 0, [])), (9, (0, 1, 1, [])), (11, (0, 1, 1, [])), (12, (0, 1, 1, [])), (13, (0, 1, 2010, []))], [(1, [13, 4, 12], []), (9, [4, 2], [158]), (20, [11, 2], [50, 1, 1, 1158, 1160, 4, 6, 1, 2, 1, 0, 0, 1, 1, 6, 3, 1, 160, 2, 1, 158, 0, 3]), (8, [9], [1]), (20, [9, 2], [50, 1, 1, 1158, 1160, 4, 6, 1, 2, 1, 0, 0, 1, 1, 6, 3, 1, 160, 2, 1, 158, 0, 3]), (8, [7], [0]), (20, [7, 2], [50, 1, 1, 1158, 1160, 4, 6, 1, 2, 1, 0, 0, 1, 1, 6, 3, 1, 160, 2, 1, 158, 0, 3]), (20, [2], [50, 2, 1, 158, 157, 160, 2, 12, 0, 7, 4, 3, 2, 0, 158, 0, 1, 2, 0, 157, 2, 7, 0, 3, 2, 0, 157, 0, 2010, 3, 14, 1, 10, 3, 0, 160, 5, 3, 2, 0, 157, 0, 1, 0, 0, 1, 10, 3, 0, 160, 5, 3, 2, 0, 157, 0, 1, 0, 4]), (20, [1, 2], [30, 0, 1, 0, 0, -1, 1, 158]), (20, [2], [30, 0, 1, 1, 159]), (20, [2], [30, 0, -1, 1, 159]), (24, [0, 2], []), (20, [5, 2], [30, 2010, 1, 0, 0, 1, 1, 158]), (20, [5, 2], [30, -2010, -1, 0, 0, -1, 1, 158])], [(13, (0, 1, 2009, []))], [], [], [], [(13, 4, 1, 1), (13, 1, -4294967296, 2010), (1, 4, -4294967296, 2009), (4, 1, -4294967296, 2009)])
theorem oo_Mo_product_at_f0_7 {kA : Nat → ClassId} : or_ok kA GG o_Mo_product_at_f0_7 := by
  intro A ta ws vs hD hth hl hk hds hf
  have hl : vs.length = 14 := hl
  have hk : ∀ q ∈ ([(0, (2, 0, 0, [150])), (1, (0, 0, 2009, [])), (2, (2, 0, 0, [150])), (4, (0, 0, 2009, [])), (5, (0, 0, 2010, [])), (7, (0, 0, 0, [])), (9, (0, 1, 1, [])), (11, (0, 1, 1, [])), (12, (0, 1, 1, [])), (13, (0, 1, 2010, []))] : List (Nat × tv_T)), tv_ok ta q.2 (n_v vs q.1) := hk
  obtain ⟨t0, hk⟩ := List.forall_mem_cons.mp hk
  have t0 : tv_ok ta (2, 0, 0, [150]) (n_v vs 0) := t0
  have r0 : ta (v_ad (n_v vs 0)) = some 150 := tv_rg t0
  obtain ⟨t1, hk⟩ := List.forall_mem_cons.mp hk
  have t1 : tv_ok ta (0, 0, 2009, []) (n_v vs 1) := t1
  have k1 : 0 ≤ v_iv (n_v vs 1) ∧ v_iv (n_v vs 1) ≤ 2009 := tv_rng t1
  obtain ⟨t2, hk⟩ := List.forall_mem_cons.mp hk
  have t2 : tv_ok ta (2, 0, 0, [150]) (n_v vs 2) := t2
  have r2 : ta (v_ad (n_v vs 2)) = some 150 := tv_rg t2
  obtain ⟨t4, hk⟩ := List.forall_mem_cons.mp hk
  have t4 : tv_ok ta (0, 0, 2009, []) (n_v vs 4) := t4
  have k4 : 0 ≤ v_iv (n_v vs 4) ∧ v_iv (n_v vs 4) ≤ 2009 := tv_rng t4
  obtain ⟨t5, hk⟩ := List.forall_mem_cons.mp hk
  have t5 : tv_ok ta (0, 0, 2010, []) (n_v vs 5) := t5
  have k5 : 0 ≤ v_iv (n_v vs 5) ∧ v_iv (n_v vs 5) ≤ 2010 := tv_rng t5
  obtain ⟨t7, hk⟩ := List.forall_mem_cons.mp hk
  have t7 : tv_ok ta (0, 0, 0, []) (n_v vs 7) := t7
  have k7 : 0 ≤ v_iv (n_v vs 7) ∧ v_iv (n_v vs 7) ≤ 0 := tv_rng t7
  obtain ⟨t9, hk⟩ := List.forall_mem_cons.mp hk
  have t9 : tv_ok ta (0, 1, 1, []) (n_v vs 9) := t9
  have k9 : 1 ≤ v_iv (n_v vs 9) ∧ v_iv (n_v vs 9) ≤ 1 := tv_rng t9
  obtain ⟨t11, hk⟩ := List.forall_mem_cons.mp hk
  have t11 : tv_ok ta (0, 1, 1, []) (n_v vs 11) := t11
  have k11 : 1 ≤ v_iv (n_v vs 11) ∧ v_iv (n_v vs 11) ≤ 1 := tv_rng t11
  obtain ⟨t12, hk⟩ := List.forall_mem_cons.mp hk
  have t12 : tv_ok ta (0, 1, 1, []) (n_v vs 12) := t12
  have k12 : 1 ≤ v_iv (n_v vs 12) ∧ v_iv (n_v vs 12) ≤ 1 := tv_rng t12
  obtain ⟨t13, hk⟩ := List.forall_mem_cons.mp hk
  have t13 : tv_ok ta (0, 1, 2010, []) (n_v vs 13) := t13
  have k13 : 1 ≤ v_iv (n_v vs 13) ∧ v_iv (n_v vs 13) ≤ 2010 := tv_rng t13
  have hds : ∀ q ∈ ([(13, 4, 1, 1), (13, 1, -4294967296, 2010), (1, 4, -4294967296, 2009), (4, 1, -4294967296, 2009)] : List of_T), n_iv vs q.2.1 + q.2.2.1 ≤ n_iv vs q.1 ∧ n_iv vs q.1 ≤ n_iv vs q.2.1 + q.2.2.2 := hds
  obtain ⟨d0, hds⟩ := List.forall_mem_cons.mp hds
  have d0 : v_iv (n_v vs 4) + 1 ≤ v_iv (n_v vs 13) ∧ v_iv (n_v vs 13) ≤ v_iv (n_v vs 4) + 1 := d0
  obtain ⟨d1, hds⟩ := List.forall_mem_cons.mp hds
  have d1 : v_iv (n_v vs 1) + (-4294967296) ≤ v_iv (n_v vs 13) ∧ v_iv (n_v vs 13) ≤ v_iv (n_v vs 1) + 2010 := d1
  obtain ⟨d2, hds⟩ := List.forall_mem_cons.mp hds
  have d2 : v_iv (n_v vs 4) + (-4294967296) ≤ v_iv (n_v vs 1) ∧ v_iv (n_v vs 1) ≤ v_iv (n_v vs 4) + 2009 := d2
  obtain ⟨d3, hds⟩ := List.forall_mem_cons.mp hds
  have d3 : v_iv (n_v vs 1) + (-4294967296) ≤ v_iv (n_v vs 4) ∧ v_iv (n_v vs 4) ≤ v_iv (n_v vs 1) + 2009 := d3
  have hf : fc_ok [(1, [13, 4, 12], []), (9, [4, 2], [158]), (20, [11, 2], [50, 1, 1, 1158, 1160, 4, 6, 1, 2, 1, 0, 0, 1, 1, 6, 3, 1, 160, 2, 1, 158, 0, 3]), (8, [9], [1]), (20, [9, 2], [50, 1, 1, 1158, 1160, 4, 6, 1, 2, 1, 0, 0, 1, 1, 6, 3, 1, 160, 2, 1, 158, 0, 3]), (8, [7], [0]), (20, [7, 2], [50, 1, 1, 1158, 1160, 4, 6, 1, 2, 1, 0, 0, 1, 1, 6, 3, 1, 160, 2, 1, 158, 0, 3]), (20, [2], [50, 2, 1, 158, 157, 160, 2, 12, 0, 7, 4, 3, 2, 0, 158, 0, 1, 2, 0, 157, 2, 7, 0, 3, 2, 0, 157, 0, 2010, 3, 14, 1, 10, 3, 0, 160, 5, 3, 2, 0, 157, 0, 1, 0, 0, 1, 10, 3, 0, 160, 5, 3, 2, 0, 157, 0, 1, 0, 4]), (20, [1, 2], [30, 0, 1, 0, 0, -1, 1, 158]), (20, [2], [30, 0, 1, 1, 159]), (20, [2], [30, 0, -1, 1, 159]), (24, [0, 2], []), (20, [5, 2], [30, 2010, 1, 0, 0, 1, 1, 158]), (20, [5, 2], [30, -2010, -1, 0, 0, -1, 1, 158])] ta ws vs := hf
  obtain ⟨f0, hf⟩ := fc_un (by decide) hf
  have f0 : v_iv (n_v vs 13) = v_iv (n_v vs 4) + v_iv (n_v vs 12) := f0
  obtain ⟨f1, hf⟩ := fc_un (by decide) hf
  have f1 : n_v vs 4 = w_fd ws (v_ad (n_v vs 2)) 158 := f1
  obtain ⟨f2, hf⟩ := fc_un (by decide) hf
  have f2 : (v_iv (n_v vs 11) = 1) → (w_ei ws (w_ar ws (n_v vs 2) 160) (w_fi ws (n_v vs 2) 158) = 3) := f2
  obtain ⟨f3, hf⟩ := fc_un (by decide) hf
  have f3 : v_iv (n_v vs 9) ≠ 0 := f3
  obtain ⟨f4, hf⟩ := fc_un (by decide) hf
  have f4 : (v_iv (n_v vs 9) = 1) → (w_ei ws (w_ar ws (n_v vs 2) 160) (w_fi ws (n_v vs 2) 158) = 3) := f4
  obtain ⟨f5, hf⟩ := fc_un (by decide) hf
  have f5 : v_iv (n_v vs 7) = 0 := f5
  obtain ⟨f6, hf⟩ := fc_un (by decide) hf
  have f6 : (v_iv (n_v vs 7) = 1) → (w_ei ws (w_ar ws (n_v vs 2) 160) (w_fi ws (n_v vs 2) 158) = 3) := f6
  obtain ⟨f7, hf⟩ := fc_un (by decide) hf
  have f7 : ((w_fi ws (n_v vs 2) 158 + 1) ≤ w_fi ws (n_v vs 2) 157) ∧ ((w_fi ws (n_v vs 2) 157 ≤ 2010) ∧ ((w_ei ws (w_ar ws (n_v vs 2) 160) ((w_fi ws (n_v vs 2) 157 - 1)) = 0) ∨ (w_ei ws (w_ar ws (n_v vs 2) 160) ((w_fi ws (n_v vs 2) 157 - 1)) = 4))) := f7
  obtain ⟨f8, hf⟩ := fc_un (by decide) hf
  have f8 : 1 * v_iv (n_v vs 1) + ((-1) * w_fi ws (n_v vs 2) 158 + 0) ≤ 0 := f8
  obtain ⟨f9, hf⟩ := fc_un (by decide) hf
  have f9 : 1 * w_fi ws (n_v vs 2) 159 + 0 ≤ 0 := f9
  obtain ⟨f10, hf⟩ := fc_un (by decide) hf
  have f10 : (-1) * w_fi ws (n_v vs 2) 159 + 0 ≤ 0 := f10
  obtain ⟨f11, hf⟩ := fc_un (by decide) hf
  have f11 : n_v vs 0 = n_v vs 2 := f11
  obtain ⟨f12, hf⟩ := fc_un (by decide) hf
  have f12 : 1 * v_iv (n_v vs 5) + (1 * w_fi ws (n_v vs 2) 158 + 0) ≤ 2010 := f12
  obtain ⟨f13, hf⟩ := fc_un (by decide) hf
  have f13 : (-1) * v_iv (n_v vs 5) + ((-1) * w_fi ws (n_v vs 2) 158 + 0) ≤ (-2010) := f13
  have q2 : n_v vs 2 = n_v vs 0 := f11.symm
  rw [q2] at f1
  rw [q2] at f2
  rw [q2] at f4
  rw [q2] at f6
  rw [q2] at f7
  rw [q2] at f8
  rw [q2] at f9
  rw [q2] at f10
  rw [q2] at f12
  rw [q2] at f13
  have cr_0_160 : ta (w_ar ws (n_v vs 0) 160) = some 259 := tv_rg (th_fd hD hth r0 (g := GG_150) rfl (k := 160) (t := (2, 0, 0, [259])) rfl rfl)
  have g1 : v_iv (n_v vs 4) = w_fi ws (n_v vs 0) 158 := congrArg v_iv f1
  have hK_0_160 : ∀ j : Int, 0 ≤ j → j < 2010 → 0 ≤ w_ei ws (w_ar ws (n_v vs 0) 160) j ∧ w_ei ws (w_ar ws (n_v vs 0) 160) j ≤ 4 := fun j h0 h1 => th_el hD hth cr_0_160 (kd := 0) (n := 2010) (m := 2010) (lo := 0) (hi := 4) (rs := []) (L := []) rfl (by decide) (j := j.toNat) (by omega)
  have kz_0_157 : 0 ≤ w_fi ws (n_v vs 0) 157 ∧ w_fi ws (n_v vs 0) 157 ≤ 2010 := tv_rng (th_fd hD hth r0 (g := GG_150) rfl (k := 157) (t := (0, 0, 2010, [])) rfl rfl)
  have kz_0_158 : 0 ≤ w_fi ws (n_v vs 0) 158 ∧ w_fi ws (n_v vs 0) 158 ≤ 2009 := tv_rng (th_fd hD hth r0 (g := GG_150) rfl (k := 158) (t := (0, 0, 2009, [])) rfl rfl)
  have kz_0_159 : 0 ≤ w_fi ws (n_v vs 0) 159 ∧ w_fi ws (n_v vs 0) 159 ≤ 13 := tv_rng (th_fd hD hth r0 (g := GG_150) rfl (k := 159) (t := (0, 0, 13, [])) rfl rfl)
  have rf13 : tv_ok ta (0, 1, 2009, []) (n_v vs 13) := tv_in t13 (by first | omega | grind) (by first | omega | grind)
  refine ⟨List.forall_mem_cons.mpr ⟨rf13, (fun _ h => (by cases h))⟩, [], trivial, ?_, (fun _ h => (by cases h))⟩
  rw [List.append_nil]
  exact (fun _ h => (by cases h))
def o_Mo_product_at_f0_8 : or_T := (41, 14, [(0, (2, 0, 0, [150])), (1, (0, 0, 2009, [])), (2, (2, 0, 0, [150])), (4, (0, 0, 2009, [])), (5, (0, 0, 2010, [])), (7, (0, 0, 0, [])), (9, (0, 1, 1, [])), (11, (0, 1, 1, [])), (12, (0, 1, 1, [])), (13, (0, 1, 2009, []))], [(20, [2], [30, 0, 1, 1, 159]), (20, [2], [30, 0, -1, 1, 159]), (24, [0, 2], []), (101, [2, 13], [158]), (1, [13, 4, 12], []), (9, [4, 2], [158]), (20, [11, 2], [50, 1, 1, 1158, 1160, 4, 6, 1, 2, 1, 0, 0, 1, 1, 6, 3, 1, 160, 2, 1, 158, 0, 3]), (8, [9], [1]), (20, [9, 2], [50, 1, 1, 1158, 1160, 4, 6, 1, 2, 1, 0, 0, 1, 1, 6, 3, 1, 160, 2, 1, 158, 0, 3]), (8, [7], [0]), (20, [7, 2], [50, 1, 1, 1158, 1160, 4, 6, 1, 2, 1, 0, 0, 1, 1, 6, 3, 1, 160, 2, 1, 158, 0, 3]), (20, [2], [50, 2, 1, 158, 157, 160, 2, 12, 0, 7, 4, 3, 2, 0, 158, 0, 1, 2, 0, 157, 2, 7, 0, 3, 2, 0, 157, 0, 2010, 3, 14, 1, 10, 3, 0, 160, 5, 3, 2, 0, 157, 0, 1, 0, 0, 1, 10, 3, 0, 160, 5, 3, 2, 0, 157, 0, 1, 0, 4]), (20, [1, 2], [30, 0, 1, 0, 0, -1, 1, 158]), (20, [2], [30, 0, 1, 1, 159]), (20, [2], [30, 0, -1, 1, 159]), (20, [5, 2], [30, 2010, 1, 0, 0, 1, 1, 158]), (20, [5, 2], [30, -2010, -1, 0, 0, -1, 1, 158])], [], [(0, 0, 2009, [])], [(20, [2], [50, 2, 1, 158, 157, 160, 2, 12, 0, 7, 4, 3, 2, 0, 158, 0, 1, 2, 0, 157, 2, 7, 0, 3, 2, 0, 157, 0, 2010, 3, 14, 1, 10, 3, 0, 160, 5, 3, 2, 0, 157, 0, 1, 0, 0, 1, 10, 3, 0, 160, 5, 3, 2, 0, 157, 0, 1, 0, 4]), (20, [2, 14], [30, 0, 1, 1, 158, -1, 0, 0]), (20, [2, 14], [30, 0, -1, 1, 158, 1, 0, 0]), (20, [2], [30, 0, 1, 1, 159]), (20, [2], [30, 0, -1, 1, 159]), (23, [1, 14], [0, 1, -1]), (23, [5, 14], [-2011, -1, -1])], [], [(13, 4, 1, 1), (13, 1, -4294967296, 2010), (1, 4, -4294967296, 2009), (4, 1, -4294967296, 2009)])
theorem oo_Mo_product_at_f0_8 {kA : Nat → ClassId} : or_ok kA GG o_Mo_product_at_f0_8 := by
  intro A ta ws vs hD hth hl hk hds hf
  have hl : vs.length = 14 := hl
  have hk : ∀ q ∈ ([(0, (2, 0, 0, [150])), (1, (0, 0, 2009, [])), (2, (2, 0, 0, [150])), (4, (0, 0, 2009, [])), (5, (0, 0, 2010, [])), (7, (0, 0, 0, [])), (9, (0, 1, 1, [])), (11, (0, 1, 1, [])), (12, (0, 1, 1, [])), (13, (0, 1, 2009, []))] : List (Nat × tv_T)), tv_ok ta q.2 (n_v vs q.1) := hk
  obtain ⟨t0, hk⟩ := List.forall_mem_cons.mp hk
  have t0 : tv_ok ta (2, 0, 0, [150]) (n_v vs 0) := t0
  have r0 : ta (v_ad (n_v vs 0)) = some 150 := tv_rg t0
  obtain ⟨t1, hk⟩ := List.forall_mem_cons.mp hk
  have t1 : tv_ok ta (0, 0, 2009, []) (n_v vs 1) := t1
  have k1 : 0 ≤ v_iv (n_v vs 1) ∧ v_iv (n_v vs 1) ≤ 2009 := tv_rng t1
  obtain ⟨t2, hk⟩ := List.forall_mem_cons.mp hk
  have t2 : tv_ok ta (2, 0, 0, [150]) (n_v vs 2) := t2
  have r2 : ta (v_ad (n_v vs 2)) = some 150 := tv_rg t2
  obtain ⟨t4, hk⟩ := List.forall_mem_cons.mp hk
  have t4 : tv_ok ta (0, 0, 2009, []) (n_v vs 4) := t4
  have k4 : 0 ≤ v_iv (n_v vs 4) ∧ v_iv (n_v vs 4) ≤ 2009 := tv_rng t4
  obtain ⟨t5, hk⟩ := List.forall_mem_cons.mp hk
  have t5 : tv_ok ta (0, 0, 2010, []) (n_v vs 5) := t5
  have k5 : 0 ≤ v_iv (n_v vs 5) ∧ v_iv (n_v vs 5) ≤ 2010 := tv_rng t5
  obtain ⟨t7, hk⟩ := List.forall_mem_cons.mp hk
  have t7 : tv_ok ta (0, 0, 0, []) (n_v vs 7) := t7
  have k7 : 0 ≤ v_iv (n_v vs 7) ∧ v_iv (n_v vs 7) ≤ 0 := tv_rng t7
  obtain ⟨t9, hk⟩ := List.forall_mem_cons.mp hk
  have t9 : tv_ok ta (0, 1, 1, []) (n_v vs 9) := t9
  have k9 : 1 ≤ v_iv (n_v vs 9) ∧ v_iv (n_v vs 9) ≤ 1 := tv_rng t9
  obtain ⟨t11, hk⟩ := List.forall_mem_cons.mp hk
  have t11 : tv_ok ta (0, 1, 1, []) (n_v vs 11) := t11
  have k11 : 1 ≤ v_iv (n_v vs 11) ∧ v_iv (n_v vs 11) ≤ 1 := tv_rng t11
  obtain ⟨t12, hk⟩ := List.forall_mem_cons.mp hk
  have t12 : tv_ok ta (0, 1, 1, []) (n_v vs 12) := t12
  have k12 : 1 ≤ v_iv (n_v vs 12) ∧ v_iv (n_v vs 12) ≤ 1 := tv_rng t12
  obtain ⟨t13, hk⟩ := List.forall_mem_cons.mp hk
  have t13 : tv_ok ta (0, 1, 2009, []) (n_v vs 13) := t13
  have k13 : 1 ≤ v_iv (n_v vs 13) ∧ v_iv (n_v vs 13) ≤ 2009 := tv_rng t13
  have hds : ∀ q ∈ ([(13, 4, 1, 1), (13, 1, -4294967296, 2010), (1, 4, -4294967296, 2009), (4, 1, -4294967296, 2009)] : List of_T), n_iv vs q.2.1 + q.2.2.1 ≤ n_iv vs q.1 ∧ n_iv vs q.1 ≤ n_iv vs q.2.1 + q.2.2.2 := hds
  obtain ⟨d0, hds⟩ := List.forall_mem_cons.mp hds
  have d0 : v_iv (n_v vs 4) + 1 ≤ v_iv (n_v vs 13) ∧ v_iv (n_v vs 13) ≤ v_iv (n_v vs 4) + 1 := d0
  obtain ⟨d1, hds⟩ := List.forall_mem_cons.mp hds
  have d1 : v_iv (n_v vs 1) + (-4294967296) ≤ v_iv (n_v vs 13) ∧ v_iv (n_v vs 13) ≤ v_iv (n_v vs 1) + 2010 := d1
  obtain ⟨d2, hds⟩ := List.forall_mem_cons.mp hds
  have d2 : v_iv (n_v vs 4) + (-4294967296) ≤ v_iv (n_v vs 1) ∧ v_iv (n_v vs 1) ≤ v_iv (n_v vs 4) + 2009 := d2
  obtain ⟨d3, hds⟩ := List.forall_mem_cons.mp hds
  have d3 : v_iv (n_v vs 1) + (-4294967296) ≤ v_iv (n_v vs 4) ∧ v_iv (n_v vs 4) ≤ v_iv (n_v vs 1) + 2009 := d3
  have hf : fc_ok [(20, [2], [30, 0, 1, 1, 159]), (20, [2], [30, 0, -1, 1, 159]), (24, [0, 2], []), (101, [2, 13], [158]), (1, [13, 4, 12], []), (9, [4, 2], [158]), (20, [11, 2], [50, 1, 1, 1158, 1160, 4, 6, 1, 2, 1, 0, 0, 1, 1, 6, 3, 1, 160, 2, 1, 158, 0, 3]), (8, [9], [1]), (20, [9, 2], [50, 1, 1, 1158, 1160, 4, 6, 1, 2, 1, 0, 0, 1, 1, 6, 3, 1, 160, 2, 1, 158, 0, 3]), (8, [7], [0]), (20, [7, 2], [50, 1, 1, 1158, 1160, 4, 6, 1, 2, 1, 0, 0, 1, 1, 6, 3, 1, 160, 2, 1, 158, 0, 3]), (20, [2], [50, 2, 1, 158, 157, 160, 2, 12, 0, 7, 4, 3, 2, 0, 158, 0, 1, 2, 0, 157, 2, 7, 0, 3, 2, 0, 157, 0, 2010, 3, 14, 1, 10, 3, 0, 160, 5, 3, 2, 0, 157, 0, 1, 0, 0, 1, 10, 3, 0, 160, 5, 3, 2, 0, 157, 0, 1, 0, 4]), (20, [1, 2], [30, 0, 1, 0, 0, -1, 1, 158]), (20, [2], [30, 0, 1, 1, 159]), (20, [2], [30, 0, -1, 1, 159]), (20, [5, 2], [30, 2010, 1, 0, 0, 1, 1, 158]), (20, [5, 2], [30, -2010, -1, 0, 0, -1, 1, 158])] ta ws vs := hf
  obtain ⟨f0, hf⟩ := fc_un (by decide) hf
  have f0 : 1 * w_fi ws (n_v vs 2) 159 + 0 ≤ 0 := f0
  obtain ⟨f1, hf⟩ := fc_un (by decide) hf
  have f1 : (-1) * w_fi ws (n_v vs 2) 159 + 0 ≤ 0 := f1
  obtain ⟨f2, hf⟩ := fc_un (by decide) hf
  have f2 : n_v vs 0 = n_v vs 2 := f2
  obtain ⟨ta1, w1, le1, ⟨_, s1⟩, hf⟩ := fc_us (by decide) hf
  have s1 : (∀ b j, w_el ws b j = w_el w1 b j) ∧ ∀ b j, w_fd ws b j = if b = v_ad (n_v vs 2) ∧ j = 158 then n_v vs 13 else w_fd w1 b j := s1
  obtain ⟨f4, hf⟩ := fc_un (by decide) hf
  have f4 : v_iv (n_v vs 13) = v_iv (n_v vs 4) + v_iv (n_v vs 12) := f4
  obtain ⟨f5, hf⟩ := fc_un (by decide) hf
  have f5 : n_v vs 4 = w_fd w1 (v_ad (n_v vs 2)) 158 := f5
  obtain ⟨f6, hf⟩ := fc_un (by decide) hf
  have f6 : (v_iv (n_v vs 11) = 1) → (w_ei w1 (w_ar w1 (n_v vs 2) 160) (w_fi w1 (n_v vs 2) 158) = 3) := f6
  obtain ⟨f7, hf⟩ := fc_un (by decide) hf
  have f7 : v_iv (n_v vs 9) ≠ 0 := f7
  obtain ⟨f8, hf⟩ := fc_un (by decide) hf
  have f8 : (v_iv (n_v vs 9) = 1) → (w_ei w1 (w_ar w1 (n_v vs 2) 160) (w_fi w1 (n_v vs 2) 158) = 3) := f8
  obtain ⟨f9, hf⟩ := fc_un (by decide) hf
  have f9 : v_iv (n_v vs 7) = 0 := f9
  obtain ⟨f10, hf⟩ := fc_un (by decide) hf
  have f10 : (v_iv (n_v vs 7) = 1) → (w_ei w1 (w_ar w1 (n_v vs 2) 160) (w_fi w1 (n_v vs 2) 158) = 3) := f10
  obtain ⟨f11, hf⟩ := fc_un (by decide) hf
  have f11 : ((w_fi w1 (n_v vs 2) 158 + 1) ≤ w_fi w1 (n_v vs 2) 157) ∧ ((w_fi w1 (n_v vs 2) 157 ≤ 2010) ∧ ((w_ei w1 (w_ar w1 (n_v vs 2) 160) ((w_fi w1 (n_v vs 2) 157 - 1)) = 0) ∨ (w_ei w1 (w_ar w1 (n_v vs 2) 160) ((w_fi w1 (n_v vs 2) 157 - 1)) = 4))) := f11
  obtain ⟨f12, hf⟩ := fc_un (by decide) hf
  have f12 : 1 * v_iv (n_v vs 1) + ((-1) * w_fi w1 (n_v vs 2) 158 + 0) ≤ 0 := f12
  obtain ⟨f13, hf⟩ := fc_un (by decide) hf
  have f13 : 1 * w_fi w1 (n_v vs 2) 159 + 0 ≤ 0 := f13
  obtain ⟨f14, hf⟩ := fc_un (by decide) hf
  have f14 : (-1) * w_fi w1 (n_v vs 2) 159 + 0 ≤ 0 := f14
  obtain ⟨f15, hf⟩ := fc_un (by decide) hf
  have f15 : 1 * v_iv (n_v vs 5) + (1 * w_fi w1 (n_v vs 2) 158 + 0) ≤ 2010 := f15
  obtain ⟨f16, hf⟩ := fc_un (by decide) hf
  have f16 : (-1) * v_iv (n_v vs 5) + ((-1) * w_fi w1 (n_v vs 2) 158 + 0) ≤ (-2010) := f16
  have q2 : n_v vs 2 = n_v vs 0 := f2.symm
  rw [q2] at f0
  rw [q2] at f1
  rw [q2] at s1
  rw [q2] at f5
  rw [q2] at f6
  rw [q2] at f8
  rw [q2] at f10
  rw [q2] at f11
  rw [q2] at f12
  rw [q2] at f13
  rw [q2] at f14
  rw [q2] at f15
  rw [q2] at f16
  have ar_0_160_1 : w_ar w1 (n_v vs 0) 160 = w_ar ws (n_v vs 0) 160 := by show v_ad (w_fd w1 _ _) = v_ad (w_fd ws _ _); rw [s1.2, if_neg (fun e => absurd e.2 (by decide))]
  have cr_0_160 : ta (w_ar ws (n_v vs 0) 160) = some 259 := tv_rg (th_fd hD hth r0 (g := GG_150) rfl (k := 160) (t := (2, 0, 0, [259])) rfl rfl)
  have g5 : v_iv (n_v vs 4) = w_fi w1 (n_v vs 0) 158 := congrArg v_iv f5
  rw [ar_0_160_1] at f6
  rw [ar_0_160_1] at f8
  rw [ar_0_160_1] at f10
  rw [ar_0_160_1] at f11
  have fe_0_157_1 : w_fi ws (n_v vs 0) 157 = w_fi w1 (n_v vs 0) 157 := by show v_iv (w_fd _ _ _) = v_iv (w_fd _ _ _); rw [s1.2, if_neg (fun e => absurd e.2 (by decide))]
  have fe_0_158_1 : w_fi ws (n_v vs 0) 158 = v_iv (n_v vs 13) := by show v_iv (w_fd _ _ _) = _; rw [s1.2, if_pos ⟨rfl, rfl⟩]
  have fe_0_159_1 : w_fi ws (n_v vs 0) 159 = w_fi w1 (n_v vs 0) 159 := by show v_iv (w_fd _ _ _) = v_iv (w_fd _ _ _); rw [s1.2, if_neg (fun e => absurd e.2 (by decide))]
  have hE_0_160_1 : ∀ j : Int, w_ei ws (w_ar ws (n_v vs 0) 160) j = w_ei w1 (w_ar ws (n_v vs 0) 160) j := fun j => s1.1 _ _
  have hK_0_160 : ∀ j : Int, 0 ≤ j → j < 2010 → 0 ≤ w_ei ws (w_ar ws (n_v vs 0) 160) j ∧ w_ei ws (w_ar ws (n_v vs 0) 160) j ≤ 4 := fun j h0 h1 => th_el hD hth cr_0_160 (kd := 0) (n := 2010) (m := 2010) (lo := 0) (hi := 4) (rs := []) (L := []) rfl (by decide) (j := j.toNat) (by omega)
  have kz_0_157 : 0 ≤ w_fi ws (n_v vs 0) 157 ∧ w_fi ws (n_v vs 0) 157 ≤ 2010 := tv_rng (th_fd hD hth r0 (g := GG_150) rfl (k := 157) (t := (0, 0, 2010, [])) rfl rfl)
  have kz_0_158 : 0 ≤ w_fi ws (n_v vs 0) 158 ∧ w_fi ws (n_v vs 0) 158 ≤ 2009 := tv_rng (th_fd hD hth r0 (g := GG_150) rfl (k := 158) (t := (0, 0, 2009, [])) rfl rfl)
  have kz_0_159 : 0 ≤ w_fi ws (n_v vs 0) 159 ∧ w_fi ws (n_v vs 0) 159 ≤ 13 := tv_rng (th_fd hD hth r0 (g := GG_150) rfl (k := 159) (t := (0, 0, 13, [])) rfl rfl)
  have kv : 0 ≤ w_fi ws (n_v vs 0) 158 ∧ w_fi ws (n_v vs 0) 158 ≤ 2009 := tv_rng (th_fd hD hth r0 (g := GG_150) rfl (k := 158) (t := (0, 0, 2009, [])) rfl rfl)
  obtain ⟨x, ex, hx⟩ := iv_ex (ta := ta) (lo := 0) (hi := 2009) (z := w_fi ws (n_v vs 0) 158) (by omega) (by omega) (by decide) (by decide)
  have ex2 : v_iv (Value.int x) = w_fi ws (n_v vs 0) 158 := ex
  have ex3 : 0 ≤ v_iv (Value.int x) ∧ v_iv (Value.int x) ≤ 2009 := tv_rng hx
  have e_1 : n_v (vs ++ [Value.int x]) 1 = n_v vs 1 := n_v_old (by rw [hl]; decide)
  have e_2 : n_v (vs ++ [Value.int x]) 2 = n_v vs 2 := n_v_old (by rw [hl]; decide)
  have e_5 : n_v (vs ++ [Value.int x]) 5 = n_v vs 5 := n_v_old (by rw [hl]; decide)
  have e_14 : n_v (vs ++ [Value.int x]) 14 = Value.int x := n_v_new hl
  have nf0 : fc_1 (20, [2], [50, 2, 1, 158, 157, 160, 2, 12, 0, 7, 4, 3, 2, 0, 158, 0, 1, 2, 0, 157, 2, 7, 0, 3, 2, 0, 157, 0, 2010, 3, 14, 1, 10, 3, 0, 160, 5, 3, 2, 0, 157, 0, 1, 0, 0, 1, 10, 3, 0, 160, 5, 3, 2, 0, 157, 0, 1, 0, 4]) ws (vs ++ [Value.int x]) := by
    refine ⟨fun n hn => ?_, ?_⟩
    · have hn : n ∈ [2] := hn
      rw [List.length_append, hl]
      simp only [List.mem_cons, List.not_mem_nil, or_false] at hn
      show n < 14 + 1; omega
    · show ((w_fi ws (n_v (vs ++ [Value.int x]) 2) 158 + 1) ≤ w_fi ws (n_v (vs ++ [Value.int x]) 2) 157) ∧ ((w_fi ws (n_v (vs ++ [Value.int x]) 2) 157 ≤ 2010) ∧ ((w_ei ws (w_ar ws (n_v (vs ++ [Value.int x]) 2) 160) ((w_fi ws (n_v (vs ++ [Value.int x]) 2) 157 - 1)) = 0) ∨ (w_ei ws (w_ar ws (n_v (vs ++ [Value.int x]) 2) 160) ((w_fi ws (n_v (vs ++ [Value.int x]) 2) 157 - 1)) = 4)))
      rw [e_2]
      rw [q2]
      first | omega | grind
  have nf1 : fc_1 (20, [2, 14], [30, 0, 1, 1, 158, -1, 0, 0]) ws (vs ++ [Value.int x]) := by
    refine ⟨fun n hn => ?_, ?_⟩
    · have hn : n ∈ [2, 14] := hn
      rw [List.length_append, hl]
      simp only [List.mem_cons, List.not_mem_nil, or_false] at hn
      show n < 14 + 1; omega
    · show 1 * w_fi ws (n_v (vs ++ [Value.int x]) 2) 158 + ((-1) * v_iv (n_v (vs ++ [Value.int x]) 14) + 0) ≤ 0
      rw [e_2]
      rw [e_14]
      rw [q2]
      omega
  have nf2 : fc_1 (20, [2, 14], [30, 0, -1, 1, 158, 1, 0, 0]) ws (vs ++ [Value.int x]) := by
    refine ⟨fun n hn => ?_, ?_⟩
    · have hn : n ∈ [2, 14] := hn
      rw [List.length_append, hl]
      simp only [List.mem_cons, List.not_mem_nil, or_false] at hn
      show n < 14 + 1; omega
    · show (-1) * w_fi ws (n_v (vs ++ [Value.int x]) 2) 158 + (1 * v_iv (n_v (vs ++ [Value.int x]) 14) + 0) ≤ 0
      rw [e_2]
      rw [e_14]
      rw [q2]
      omega
  have nf3 : fc_1 (20, [2], [30, 0, 1, 1, 159]) ws (vs ++ [Value.int x]) := by
    refine ⟨fun n hn => ?_, ?_⟩
    · have hn : n ∈ [2] := hn
      rw [List.length_append, hl]
      simp only [List.mem_cons, List.not_mem_nil, or_false] at hn
      show n < 14 + 1; omega
    · show 1 * w_fi ws (n_v (vs ++ [Value.int x]) 2) 159 + 0 ≤ 0
      rw [e_2]
      rw [q2]
      omega
  have nf4 : fc_1 (20, [2], [30, 0, -1, 1, 159]) ws (vs ++ [Value.int x]) := by
    refine ⟨fun n hn => ?_, ?_⟩
    · have hn : n ∈ [2] := hn
      rw [List.length_append, hl]
      simp only [List.mem_cons, List.not_mem_nil, or_false] at hn
      show n < 14 + 1; omega
    · show (-1) * w_fi ws (n_v (vs ++ [Value.int x]) 2) 159 + 0 ≤ 0
      rw [e_2]
      rw [q2]
      omega
  have nf5 : fc_1 (23, [1, 14], [0, 1, -1]) ws (vs ++ [Value.int x]) := by
    refine ⟨fun n hn => ?_, ?_⟩
    · have hn : n ∈ [1, 14] := hn
      rw [List.length_append, hl]
      simp only [List.mem_cons, List.not_mem_nil, or_false] at hn
      show n < 14 + 1; omega
    · show 1 * v_iv (n_v (vs ++ [Value.int x]) 1) + ((-1) * v_iv (n_v (vs ++ [Value.int x]) 14) + 0) ≤ 0
      rw [e_1]
      rw [e_14]
      omega
  have nf6 : fc_1 (23, [5, 14], [-2011, -1, -1]) ws (vs ++ [Value.int x]) := by
    refine ⟨fun n hn => ?_, ?_⟩
    · have hn : n ∈ [5, 14] := hn
      rw [List.length_append, hl]
      simp only [List.mem_cons, List.not_mem_nil, or_false] at hn
      show n < 14 + 1; omega
    · show (-1) * v_iv (n_v (vs ++ [Value.int x]) 5) + ((-1) * v_iv (n_v (vs ++ [Value.int x]) 14) + 0) ≤ (-2011)
      rw [e_5]
      rw [e_14]
      omega
  exact ⟨fun q hq => (by cases hq), [Value.int x], ag_one hx, List.forall_mem_cons.mpr ⟨⟨by decide, nf0⟩, List.forall_mem_cons.mpr ⟨⟨by decide, nf1⟩, List.forall_mem_cons.mpr ⟨⟨by decide, nf2⟩, List.forall_mem_cons.mpr ⟨⟨by decide, nf3⟩, List.forall_mem_cons.mpr ⟨⟨by decide, nf4⟩, List.forall_mem_cons.mpr ⟨⟨by decide, nf5⟩, List.forall_mem_cons.mpr ⟨⟨by decide, nf6⟩, (fun _ h => (by cases h))⟩⟩⟩⟩⟩⟩⟩, (fun _ h => (by cases h))⟩
def o_Mo_product_at_f0_9 : or_T := (74, 17, [(0, (2, 0, 0, [150])), (1, (0, 0, 2009, [])), (2, (2, 0, 0, [150])), (4, (0, 0, 2009, [])), (5, (0, 0, 2010, [])), (12, (0, 1, 1, [])), (13, (0, 1, 2009, [])), (14, (0, 0, 2009, []))], [(23, [1, 14], [0, 1, -1]), (23, [5, 14], [-2011, -1, -1]), (24, [0, 2], []), (20, [2], [50, 2, 1, 158, 157, 160, 2, 12, 0, 7, 4, 3, 2, 0, 158, 0, 1, 2, 0, 157, 2, 7, 0, 3, 2, 0, 157, 0, 2010, 3, 14, 1, 10, 3, 0, 160, 5, 3, 2, 0, 157, 0, 1, 0, 0, 1, 10, 3, 0, 160, 5, 3, 2, 0, 157, 0, 1, 0, 4]), (20, [14, 2], [30, 0, 1, 0, 0, -1, 1, 158]), (20, [2], [30, 0, 1, 1, 159]), (20, [2], [30, 0, -1, 1, 159]), (102, [14], [0, 13008, 13009, 13158, 13159]), (23, [1, 14], [0, 1, -1]), (23, [5, 14], [-2011, -1, -1]), (101, [2, 13], [158]), (1, [13, 4, 12], [])], [], [(0, 0, 2010, [])], [(20, [2], [50, 2, 1, 158, 157, 160, 2, 12, 0, 7, 4, 3, 2, 0, 158, 0, 1, 2, 0, 157, 2, 7, 0, 3, 2, 0, 157, 0, 2010, 3, 14, 1, 10, 3, 0, 160, 5, 3, 2, 0, 157, 0, 1, 0, 0, 1, 10, 3, 0, 160, 5, 3, 2, 0, 157, 0, 1, 0, 4]), (20, [1, 2], [30, 0, 1, 0, 0, -1, 1, 158]), (20, [2], [30, 0, 1, 1, 159]), (20, [2], [30, 0, -1, 1, 159]), (20, [17, 2], [30, -2011, -1, 0, 0, -1, 1, 158]), (24, [0, 2], [])], [(17, 5, 0, 0)], [(13, 4, 1, 1), (13, 1, -4294967296, 2010), (1, 4, -4294967296, 2009), (4, 1, -4294967296, 2009)])
theorem oo_Mo_product_at_f0_9 {kA : Nat → ClassId} : or_ok kA GG o_Mo_product_at_f0_9 := by
  intro A ta ws vs hD hth hl hk hds hf
  have hl : vs.length = 17 := hl
  have hk : ∀ q ∈ ([(0, (2, 0, 0, [150])), (1, (0, 0, 2009, [])), (2, (2, 0, 0, [150])), (4, (0, 0, 2009, [])), (5, (0, 0, 2010, [])), (12, (0, 1, 1, [])), (13, (0, 1, 2009, [])), (14, (0, 0, 2009, []))] : List (Nat × tv_T)), tv_ok ta q.2 (n_v vs q.1) := hk
  obtain ⟨t0, hk⟩ := List.forall_mem_cons.mp hk
  have t0 : tv_ok ta (2, 0, 0, [150]) (n_v vs 0) := t0
  have r0 : ta (v_ad (n_v vs 0)) = some 150 := tv_rg t0
  obtain ⟨t1, hk⟩ := List.forall_mem_cons.mp hk
  have t1 : tv_ok ta (0, 0, 2009, []) (n_v vs 1) := t1
  have k1 : 0 ≤ v_iv (n_v vs 1) ∧ v_iv (n_v vs 1) ≤ 2009 := tv_rng t1
  obtain ⟨t2, hk⟩ := List.forall_mem_cons.mp hk
  have t2 : tv_ok ta (2, 0, 0, [150]) (n_v vs 2) := t2
  have r2 : ta (v_ad (n_v vs 2)) = some 150 := tv_rg t2
  obtain ⟨t4, hk⟩ := List.forall_mem_cons.mp hk
  have t4 : tv_ok ta (0, 0, 2009, []) (n_v vs 4) := t4
  have k4 : 0 ≤ v_iv (n_v vs 4) ∧ v_iv (n_v vs 4) ≤ 2009 := tv_rng t4
  obtain ⟨t5, hk⟩ := List.forall_mem_cons.mp hk
  have t5 : tv_ok ta (0, 0, 2010, []) (n_v vs 5) := t5
  have k5 : 0 ≤ v_iv (n_v vs 5) ∧ v_iv (n_v vs 5) ≤ 2010 := tv_rng t5
  obtain ⟨t12, hk⟩ := List.forall_mem_cons.mp hk
  have t12 : tv_ok ta (0, 1, 1, []) (n_v vs 12) := t12
  have k12 : 1 ≤ v_iv (n_v vs 12) ∧ v_iv (n_v vs 12) ≤ 1 := tv_rng t12
  obtain ⟨t13, hk⟩ := List.forall_mem_cons.mp hk
  have t13 : tv_ok ta (0, 1, 2009, []) (n_v vs 13) := t13
  have k13 : 1 ≤ v_iv (n_v vs 13) ∧ v_iv (n_v vs 13) ≤ 2009 := tv_rng t13
  obtain ⟨t14, hk⟩ := List.forall_mem_cons.mp hk
  have t14 : tv_ok ta (0, 0, 2009, []) (n_v vs 14) := t14
  have k14 : 0 ≤ v_iv (n_v vs 14) ∧ v_iv (n_v vs 14) ≤ 2009 := tv_rng t14
  have hds : ∀ q ∈ ([(13, 4, 1, 1), (13, 1, -4294967296, 2010), (1, 4, -4294967296, 2009), (4, 1, -4294967296, 2009)] : List of_T), n_iv vs q.2.1 + q.2.2.1 ≤ n_iv vs q.1 ∧ n_iv vs q.1 ≤ n_iv vs q.2.1 + q.2.2.2 := hds
  obtain ⟨d0, hds⟩ := List.forall_mem_cons.mp hds
  have d0 : v_iv (n_v vs 4) + 1 ≤ v_iv (n_v vs 13) ∧ v_iv (n_v vs 13) ≤ v_iv (n_v vs 4) + 1 := d0
  obtain ⟨d1, hds⟩ := List.forall_mem_cons.mp hds
  have d1 : v_iv (n_v vs 1) + (-4294967296) ≤ v_iv (n_v vs 13) ∧ v_iv (n_v vs 13) ≤ v_iv (n_v vs 1) + 2010 := d1
  obtain ⟨d2, hds⟩ := List.forall_mem_cons.mp hds
  have d2 : v_iv (n_v vs 4) + (-4294967296) ≤ v_iv (n_v vs 1) ∧ v_iv (n_v vs 1) ≤ v_iv (n_v vs 4) + 2009 := d2
  obtain ⟨d3, hds⟩ := List.forall_mem_cons.mp hds
  have d3 : v_iv (n_v vs 1) + (-4294967296) ≤ v_iv (n_v vs 4) ∧ v_iv (n_v vs 4) ≤ v_iv (n_v vs 1) + 2009 := d3
  have hf : fc_ok [(23, [1, 14], [0, 1, -1]), (23, [5, 14], [-2011, -1, -1]), (24, [0, 2], []), (20, [2], [50, 2, 1, 158, 157, 160, 2, 12, 0, 7, 4, 3, 2, 0, 158, 0, 1, 2, 0, 157, 2, 7, 0, 3, 2, 0, 157, 0, 2010, 3, 14, 1, 10, 3, 0, 160, 5, 3, 2, 0, 157, 0, 1, 0, 0, 1, 10, 3, 0, 160, 5, 3, 2, 0, 157, 0, 1, 0, 4]), (20, [14, 2], [30, 0, 1, 0, 0, -1, 1, 158]), (20, [2], [30, 0, 1, 1, 159]), (20, [2], [30, 0, -1, 1, 159]), (102, [14], [0, 13008, 13009, 13158, 13159]), (23, [1, 14], [0, 1, -1]), (23, [5, 14], [-2011, -1, -1]), (101, [2, 13], [158]), (1, [13, 4, 12], [])] ta ws vs := hf
  obtain ⟨f0, hf⟩ := fc_un (by decide) hf
  have f0 : 1 * v_iv (n_v vs 1) + ((-1) * v_iv (n_v vs 14) + 0) ≤ 0 := f0
  obtain ⟨f1, hf⟩ := fc_un (by decide) hf
  have f1 : (-1) * v_iv (n_v vs 5) + ((-1) * v_iv (n_v vs 14) + 0) ≤ (-2011) := f1
  obtain ⟨f2, hf⟩ := fc_un (by decide) hf
  have f2 : n_v vs 0 = n_v vs 2 := f2
  obtain ⟨f3, hf⟩ := fc_un (by decide) hf
  have f3 : ((w_fi ws (n_v vs 2) 158 + 1) ≤ w_fi ws (n_v vs 2) 157) ∧ ((w_fi ws (n_v vs 2) 157 ≤ 2010) ∧ ((w_ei ws (w_ar ws (n_v vs 2) 160) ((w_fi ws (n_v vs 2) 157 - 1)) = 0) ∨ (w_ei ws (w_ar ws (n_v vs 2) 160) ((w_fi ws (n_v vs 2) 157 - 1)) = 4))) := f3
  obtain ⟨f4, hf⟩ := fc_un (by decide) hf
  have f4 : 1 * v_iv (n_v vs 14) + ((-1) * w_fi ws (n_v vs 2) 158 + 0) ≤ 0 := f4
  obtain ⟨f5, hf⟩ := fc_un (by decide) hf
  have f5 : 1 * w_fi ws (n_v vs 2) 159 + 0 ≤ 0 := f5
  obtain ⟨f6, hf⟩ := fc_un (by decide) hf
  have f6 : (-1) * w_fi ws (n_v vs 2) 159 + 0 ≤ 0 := f6
  obtain ⟨ta1, w1, le1, ⟨_, s1⟩, hf⟩ := fc_us (by decide) hf
  obtain ⟨f8, hf⟩ := fc_un (by decide) hf
  have f8 : 1 * v_iv (n_v vs 1) + ((-1) * v_iv (n_v vs 14) + 0) ≤ 0 := f8
  obtain ⟨f9, hf⟩ := fc_un (by decide) hf
  have f9 : (-1) * v_iv (n_v vs 5) + ((-1) * v_iv (n_v vs 14) + 0) ≤ (-2011) := f9
  obtain ⟨ta2, w2, le2, ⟨_, s2⟩, hf⟩ := fc_us (by decide) hf
  have s2 : (∀ b j, w_el w1 b j = w_el w2 b j) ∧ ∀ b j, w_fd w1 b j = if b = v_ad (n_v vs 2) ∧ j = 158 then n_v vs 13 else w_fd w2 b j := s2
  obtain ⟨f11, hf⟩ := fc_un (by decide) hf
  have f11 : v_iv (n_v vs 13) = v_iv (n_v vs 4) + v_iv (n_v vs 12) := f11
  have q2 : n_v vs 2 = n_v vs 0 := f2.symm
  rw [q2] at f3
  rw [q2] at f4
  rw [q2] at f5
  rw [q2] at f6
  rw [q2] at s2
  have cr_0_160 : ta (w_ar ws (n_v vs 0) 160) = some 259 := tv_rg (th_fd hD hth r0 (g := GG_150) rfl (k := 160) (t := (2, 0, 0, [259])) rfl rfl)
  have hK_0_160 : ∀ j : Int, 0 ≤ j → j < 2010 → 0 ≤ w_ei ws (w_ar ws (n_v vs 0) 160) j ∧ w_ei ws (w_ar ws (n_v vs 0) 160) j ≤ 4 := fun j h0 h1 => th_el hD hth cr_0_160 (kd := 0) (n := 2010) (m := 2010) (lo := 0) (hi := 4) (rs := []) (L := []) rfl (by decide) (j := j.toNat) (by omega)
  have kz_0_157 : 0 ≤ w_fi ws (n_v vs 0) 157 ∧ w_fi ws (n_v vs 0) 157 ≤ 2010 := tv_rng (th_fd hD hth r0 (g := GG_150) rfl (k := 157) (t := (0, 0, 2010, [])) rfl rfl)
  have kz_0_158 : 0 ≤ w_fi ws (n_v vs 0) 158 ∧ w_fi ws (n_v vs 0) 158 ≤ 2009 := tv_rng (th_fd hD hth r0 (g := GG_150) rfl (k := 158) (t := (0, 0, 2009, [])) rfl rfl)
  have kz_0_159 : 0 ≤ w_fi ws (n_v vs 0) 159 ∧ w_fi ws (n_v vs 0) 159 ≤ 13 := tv_rng (th_fd hD hth r0 (g := GG_150) rfl (k := 159) (t := (0, 0, 13, [])) rfl rfl)
  obtain ⟨x, ex, hx⟩ := iv_ex (ta := ta) (lo := 0) (hi := 2010) (z := 0 + (1 * v_iv (n_v vs 5) + 0)) (by omega) (by omega) (by decide) (by decide)
  have ex2 : v_iv (Value.int x) = 0 + (1 * v_iv (n_v vs 5) + 0) := ex
  have ex3 : 0 ≤ v_iv (Value.int x) ∧ v_iv (Value.int x) ≤ 2010 := tv_rng hx
  have e_0 : n_v (vs ++ [Value.int x]) 0 = n_v vs 0 := n_v_old (by rw [hl]; decide)
  have e_1 : n_v (vs ++ [Value.int x]) 1 = n_v vs 1 := n_v_old (by rw [hl]; decide)
  have e_2 : n_v (vs ++ [Value.int x]) 2 = n_v vs 2 := n_v_old (by rw [hl]; decide)
  have e_17 : n_v (vs ++ [Value.int x]) 17 = Value.int x := n_v_new hl
  have nf0 : fc_1 (20, [2], [50, 2, 1, 158, 157, 160, 2, 12, 0, 7, 4, 3, 2, 0, 158, 0, 1, 2, 0, 157, 2, 7, 0, 3, 2, 0, 157, 0, 2010, 3, 14, 1, 10, 3, 0, 160, 5, 3, 2, 0, 157, 0, 1, 0, 0, 1, 10, 3, 0, 160, 5, 3, 2, 0, 157, 0, 1, 0, 4]) ws (vs ++ [Value.int x]) := by
    refine ⟨fun n hn => ?_, ?_⟩
    · have hn : n ∈ [2] := hn
      rw [List.length_append, hl]
      simp only [List.mem_cons, List.not_mem_nil, or_false] at hn
      show n < 17 + 1; omega
    · show ((w_fi ws (n_v (vs ++ [Value.int x]) 2) 158 + 1) ≤ w_fi ws (n_v (vs ++ [Value.int x]) 2) 157) ∧ ((w_fi ws (n_v (vs ++ [Value.int x]) 2) 157 ≤ 2010) ∧ ((w_ei ws (w_ar ws (n_v (vs ++ [Value.int x]) 2) 160) ((w_fi ws (n_v (vs ++ [Value.int x]) 2) 157 - 1)) = 0) ∨ (w_ei ws (w_ar ws (n_v (vs ++ [Value.int x]) 2) 160) ((w_fi ws (n_v (vs ++ [Value.int x]) 2) 157 - 1)) = 4)))
      rw [e_2]
      rw [q2]
      first | omega | grind
  have nf1 : fc_1 (20, [1, 2], [30, 0, 1, 0, 0, -1, 1, 158]) ws (vs ++ [Value.int x]) := by
    refine ⟨fun n hn => ?_, ?_⟩
    · have hn : n ∈ [1, 2] := hn
      rw [List.length_append, hl]
      simp only [List.mem_cons, List.not_mem_nil, or_false] at hn
      show n < 17 + 1; omega
    · show 1 * v_iv (n_v (vs ++ [Value.int x]) 1) + ((-1) * w_fi ws (n_v (vs ++ [Value.int x]) 2) 158 + 0) ≤ 0
      rw [e_1]
      rw [e_2]
      rw [q2]
      omega
  have nf2 : fc_1 (20, [2], [30, 0, 1, 1, 159]) ws (vs ++ [Value.int x]) := by
    refine ⟨fun n hn => ?_, ?_⟩
    · have hn : n ∈ [2] := hn
      rw [List.length_append, hl]
      simp only [List.mem_cons, List.not_mem_nil, or_false] at hn
      show n < 17 + 1; omega
    · show 1 * w_fi ws (n_v (vs ++ [Value.int x]) 2) 159 + 0 ≤ 0
      rw [e_2]
      rw [q2]
      omega
  have nf3 : fc_1 (20, [2], [30, 0, -1, 1, 159]) ws (vs ++ [Value.int x]) := by
    refine ⟨fun n hn => ?_, ?_⟩
    · have hn : n ∈ [2] := hn
      rw [List.length_append, hl]
      simp only [List.mem_cons, List.not_mem_nil, or_false] at hn
      show n < 17 + 1; omega
    · show (-1) * w_fi ws (n_v (vs ++ [Value.int x]) 2) 159 + 0 ≤ 0
      rw [e_2]
      rw [q2]
      omega
  have nf4 : fc_1 (20, [17, 2], [30, -2011, -1, 0, 0, -1, 1, 158]) ws (vs ++ [Value.int x]) := by
    refine ⟨fun n hn => ?_, ?_⟩
    · have hn : n ∈ [17, 2] := hn
      rw [List.length_append, hl]
      simp only [List.mem_cons, List.not_mem_nil, or_false] at hn
      show n < 17 + 1; omega
    · show (-1) * v_iv (n_v (vs ++ [Value.int x]) 17) + ((-1) * w_fi ws (n_v (vs ++ [Value.int x]) 2) 158 + 0) ≤ (-2011)
      rw [e_2]
      rw [e_17]
      rw [q2]
      omega
  have nf5 : fc_1 (24, [0, 2], []) ws (vs ++ [Value.int x]) := by
    refine ⟨fun n hn => ?_, ?_⟩
    · have hn : n ∈ [0, 2] := hn
      rw [List.length_append, hl]
      simp only [List.mem_cons, List.not_mem_nil, or_false] at hn
      show n < 17 + 1; omega
    · show n_v (vs ++ [Value.int x]) 0 = n_v (vs ++ [Value.int x]) 2
      first | rfl | simp only [e_0, e_2, q2]
  obtain ⟨x0, e0, _, _⟩ := tv_int t5 rfl
  have e1 : v_iv (n_v vs 5) = x0.toInt := by rw [e0]; rfl
  have ho : sy_ofs (vs ++ [Value.int x]) (17, 5, 0, 0) := by
    refine ⟨x, x0, by rw [List.getElem?_append_right (by rw [hl]; decide), hl]; rfl, ?_, ?_, ?_⟩
    · rw [List.getElem?_append_left (by rw [hl]; decide)]; exact n_v_some (by rw [hl]; decide) e0
    · show x0.toInt + 0 ≤ x.toInt; omega
    · show x.toInt ≤ x0.toInt + 0; omega
  exact ⟨fun q hq => (by cases hq), [Value.int x], ag_one hx, List.forall_mem_cons.mpr ⟨⟨by decide, nf0⟩, List.forall_mem_cons.mpr ⟨⟨by decide, nf1⟩, List.forall_mem_cons.mpr ⟨⟨by decide, nf2⟩, List.forall_mem_cons.mpr ⟨⟨by decide, nf3⟩, List.forall_mem_cons.mpr ⟨⟨by decide, nf4⟩, List.forall_mem_cons.mpr ⟨⟨by decide, nf5⟩, (fun _ h => (by cases h))⟩⟩⟩⟩⟩⟩, List.forall_mem_cons.mpr ⟨ho, (fun _ h => (by cases h))⟩⟩
def o_Mo_product_at_f0_10 : or_T := (37, 12, [(0, (2, 0, 0, [150])), (1, (0, 0, 2009, [])), (2, (2, 0, 0, [150])), (4, (0, 0, 2009, [])), (5, (0, 0, 2010, [])), (7, (0, 1, 1, [])), (9, (0, 0, 0, [])), (10, (0, 1, 1, [])), (11, (0, 1, 2010, []))], [(1, [11, 4, 10], []), (9, [4, 2], [158]), (20, [9, 2], [50, 1, 1, 1158, 1160, 4, 6, 1, 2, 1, 0, 0, 1, 1, 6, 3, 1, 160, 2, 1, 158, 0, 3]), (8, [7], [1]), (20, [7, 2], [50, 1, 1, 1158, 1160, 4, 6, 1, 2, 1, 0, 0, 1, 1, 6, 3, 1, 160, 2, 1, 158, 0, 3]), (20, [2], [50, 2, 1, 158, 157, 160, 2, 12, 0, 7, 4, 3, 2, 0, 158, 0, 1, 2, 0, 157, 2, 7, 0, 3, 2, 0, 157, 0, 2010, 3, 14, 1, 10, 3, 0, 160, 5, 3, 2, 0, 157, 0, 1, 0, 0, 1, 10, 3, 0, 160, 5, 3, 2, 0, 157, 0, 1, 0, 4]), (20, [1, 2], [30, 0, 1, 0, 0, -1, 1, 158]), (20, [2], [30, 0, 1, 1, 159]), (20, [2], [30, 0, -1, 1, 159]), (24, [0, 2], []), (20, [5, 2], [30, 2010, 1, 0, 0, 1, 1, 158]), (20, [5, 2], [30, -2010, -1, 0, 0, -1, 1, 158])], [(11, (0, 1, 2009, []))], [], [], [], [(11, 4, 1, 1), (11, 1, -4294967296, 2010), (1, 4, -4294967296, 2009), (4, 1, -4294967296, 2009)])
theorem oo_Mo_product_at_f0_10 {kA : Nat → ClassId} : or_ok kA GG o_Mo_product_at_f0_10 := by
  intro A ta ws vs hD hth hl hk hds hf
  have hl : vs.length = 12 := hl
  have hk : ∀ q ∈ ([(0, (2, 0, 0, [150])), (1, (0, 0, 2009, [])), (2, (2, 0, 0, [150])), (4, (0, 0, 2009, [])), (5, (0, 0, 2010, [])), (7, (0, 1, 1, [])), (9, (0, 0, 0, [])), (10, (0, 1, 1, [])), (11, (0, 1, 2010, []))] : List (Nat × tv_T)), tv_ok ta q.2 (n_v vs q.1) := hk
  obtain ⟨t0, hk⟩ := List.forall_mem_cons.mp hk
  have t0 : tv_ok ta (2, 0, 0, [150]) (n_v vs 0) := t0
  have r0 : ta (v_ad (n_v vs 0)) = some 150 := tv_rg t0
  obtain ⟨t1, hk⟩ := List.forall_mem_cons.mp hk
  have t1 : tv_ok ta (0, 0, 2009, []) (n_v vs 1) := t1
  have k1 : 0 ≤ v_iv (n_v vs 1) ∧ v_iv (n_v vs 1) ≤ 2009 := tv_rng t1
  obtain ⟨t2, hk⟩ := List.forall_mem_cons.mp hk
  have t2 : tv_ok ta (2, 0, 0, [150]) (n_v vs 2) := t2
  have r2 : ta (v_ad (n_v vs 2)) = some 150 := tv_rg t2
  obtain ⟨t4, hk⟩ := List.forall_mem_cons.mp hk
  have t4 : tv_ok ta (0, 0, 2009, []) (n_v vs 4) := t4
  have k4 : 0 ≤ v_iv (n_v vs 4) ∧ v_iv (n_v vs 4) ≤ 2009 := tv_rng t4
  obtain ⟨t5, hk⟩ := List.forall_mem_cons.mp hk
  have t5 : tv_ok ta (0, 0, 2010, []) (n_v vs 5) := t5
  have k5 : 0 ≤ v_iv (n_v vs 5) ∧ v_iv (n_v vs 5) ≤ 2010 := tv_rng t5
  obtain ⟨t7, hk⟩ := List.forall_mem_cons.mp hk
  have t7 : tv_ok ta (0, 1, 1, []) (n_v vs 7) := t7
  have k7 : 1 ≤ v_iv (n_v vs 7) ∧ v_iv (n_v vs 7) ≤ 1 := tv_rng t7
  obtain ⟨t9, hk⟩ := List.forall_mem_cons.mp hk
  have t9 : tv_ok ta (0, 0, 0, []) (n_v vs 9) := t9
  have k9 : 0 ≤ v_iv (n_v vs 9) ∧ v_iv (n_v vs 9) ≤ 0 := tv_rng t9
  obtain ⟨t10, hk⟩ := List.forall_mem_cons.mp hk
  have t10 : tv_ok ta (0, 1, 1, []) (n_v vs 10) := t10
  have k10 : 1 ≤ v_iv (n_v vs 10) ∧ v_iv (n_v vs 10) ≤ 1 := tv_rng t10
  obtain ⟨t11, hk⟩ := List.forall_mem_cons.mp hk
  have t11 : tv_ok ta (0, 1, 2010, []) (n_v vs 11) := t11
  have k11 : 1 ≤ v_iv (n_v vs 11) ∧ v_iv (n_v vs 11) ≤ 2010 := tv_rng t11
  have hds : ∀ q ∈ ([(11, 4, 1, 1), (11, 1, -4294967296, 2010), (1, 4, -4294967296, 2009), (4, 1, -4294967296, 2009)] : List of_T), n_iv vs q.2.1 + q.2.2.1 ≤ n_iv vs q.1 ∧ n_iv vs q.1 ≤ n_iv vs q.2.1 + q.2.2.2 := hds
  obtain ⟨d0, hds⟩ := List.forall_mem_cons.mp hds
  have d0 : v_iv (n_v vs 4) + 1 ≤ v_iv (n_v vs 11) ∧ v_iv (n_v vs 11) ≤ v_iv (n_v vs 4) + 1 := d0
  obtain ⟨d1, hds⟩ := List.forall_mem_cons.mp hds
  have d1 : v_iv (n_v vs 1) + (-4294967296) ≤ v_iv (n_v vs 11) ∧ v_iv (n_v vs 11) ≤ v_iv (n_v vs 1) + 2010 := d1
  obtain ⟨d2, hds⟩ := List.forall_mem_cons.mp hds
  have d2 : v_iv (n_v vs 4) + (-4294967296) ≤ v_iv (n_v vs 1) ∧ v_iv (n_v vs 1) ≤ v_iv (n_v vs 4) + 2009 := d2
  obtain ⟨d3, hds⟩ := List.forall_mem_cons.mp hds
  have d3 : v_iv (n_v vs 1) + (-4294967296) ≤ v_iv (n_v vs 4) ∧ v_iv (n_v vs 4) ≤ v_iv (n_v vs 1) + 2009 := d3
  have hf : fc_ok [(1, [11, 4, 10], []), (9, [4, 2], [158]), (20, [9, 2], [50, 1, 1, 1158, 1160, 4, 6, 1, 2, 1, 0, 0, 1, 1, 6, 3, 1, 160, 2, 1, 158, 0, 3]), (8, [7], [1]), (20, [7, 2], [50, 1, 1, 1158, 1160, 4, 6, 1, 2, 1, 0, 0, 1, 1, 6, 3, 1, 160, 2, 1, 158, 0, 3]), (20, [2], [50, 2, 1, 158, 157, 160, 2, 12, 0, 7, 4, 3, 2, 0, 158, 0, 1, 2, 0, 157, 2, 7, 0, 3, 2, 0, 157, 0, 2010, 3, 14, 1, 10, 3, 0, 160, 5, 3, 2, 0, 157, 0, 1, 0, 0, 1, 10, 3, 0, 160, 5, 3, 2, 0, 157, 0, 1, 0, 4]), (20, [1, 2], [30, 0, 1, 0, 0, -1, 1, 158]), (20, [2], [30, 0, 1, 1, 159]), (20, [2], [30, 0, -1, 1, 159]), (24, [0, 2], []), (20, [5, 2], [30, 2010, 1, 0, 0, 1, 1, 158]), (20, [5, 2], [30, -2010, -1, 0, 0, -1, 1, 158])] ta ws vs := hf
  obtain ⟨f0, hf⟩ := fc_un (by decide) hf
  have f0 : v_iv (n_v vs 11) = v_iv (n_v vs 4) + v_iv (n_v vs 10) := f0
  obtain ⟨f1, hf⟩ := fc_un (by decide) hf
  have f1 : n_v vs 4 = w_fd ws (v_ad (n_v vs 2)) 158 := f1
  obtain ⟨f2, hf⟩ := fc_un (by decide) hf
  have f2 : (v_iv (n_v vs 9) = 1) → (w_ei ws (w_ar ws (n_v vs 2) 160) (w_fi ws (n_v vs 2) 158) = 3) := f2
  obtain ⟨f3, hf⟩ := fc_un (by decide) hf
  have f3 : v_iv (n_v vs 7) ≠ 0 := f3
  obtain ⟨f4, hf⟩ := fc_un (by decide) hf
  have f4 : (v_iv (n_v vs 7) = 1) → (w_ei ws (w_ar ws (n_v vs 2) 160) (w_fi ws (n_v vs 2) 158) = 3) := f4
  obtain ⟨f5, hf⟩ := fc_un (by decide) hf
  have f5 : ((w_fi ws (n_v vs 2) 158 + 1) ≤ w_fi ws (n_v vs 2) 157) ∧ ((w_fi ws (n_v vs 2) 157 ≤ 2010) ∧ ((w_ei ws (w_ar ws (n_v vs 2) 160) ((w_fi ws (n_v vs 2) 157 - 1)) = 0) ∨ (w_ei ws (w_ar ws (n_v vs 2) 160) ((w_fi ws (n_v vs 2) 157 - 1)) = 4))) := f5
  obtain ⟨f6, hf⟩ := fc_un (by decide) hf
  have f6 : 1 * v_iv (n_v vs 1) + ((-1) * w_fi ws (n_v vs 2) 158 + 0) ≤ 0 := f6
  obtain ⟨f7, hf⟩ := fc_un (by decide) hf
  have f7 : 1 * w_fi ws (n_v vs 2) 159 + 0 ≤ 0 := f7
  obtain ⟨f8, hf⟩ := fc_un (by decide) hf
  have f8 : (-1) * w_fi ws (n_v vs 2) 159 + 0 ≤ 0 := f8
  obtain ⟨f9, hf⟩ := fc_un (by decide) hf
  have f9 : n_v vs 0 = n_v vs 2 := f9
  obtain ⟨f10, hf⟩ := fc_un (by decide) hf
  have f10 : 1 * v_iv (n_v vs 5) + (1 * w_fi ws (n_v vs 2) 158 + 0) ≤ 2010 := f10
  obtain ⟨f11, hf⟩ := fc_un (by decide) hf
  have f11 : (-1) * v_iv (n_v vs 5) + ((-1) * w_fi ws (n_v vs 2) 158 + 0) ≤ (-2010) := f11
  have q2 : n_v vs 2 = n_v vs 0 := f9.symm
  rw [q2] at f1
  rw [q2] at f2
  rw [q2] at f4
  rw [q2] at f5
  rw [q2] at f6
  rw [q2] at f7
  rw [q2] at f8
  rw [q2] at f10
  rw [q2] at f11
  have cr_0_160 : ta (w_ar ws (n_v vs 0) 160) = some 259 := tv_rg (th_fd hD hth r0 (g := GG_150) rfl (k := 160) (t := (2, 0, 0, [259])) rfl rfl)
  have g1 : v_iv (n_v vs 4) = w_fi ws (n_v vs 0) 158 := congrArg v_iv f1
  have hK_0_160 : ∀ j : Int, 0 ≤ j → j < 2010 → 0 ≤ w_ei ws (w_ar ws (n_v vs 0) 160) j ∧ w_ei ws (w_ar ws (n_v vs 0) 160) j ≤ 4 := fun j h0 h1 => th_el hD hth cr_0_160 (kd := 0) (n := 2010) (m := 2010) (lo := 0) (hi := 4) (rs := []) (L := []) rfl (by decide) (j := j.toNat) (by omega)
  have kz_0_157 : 0 ≤ w_fi ws (n_v vs 0) 157 ∧ w_fi ws (n_v vs 0) 157 ≤ 2010 := tv_rng (th_fd hD hth r0 (g := GG_150) rfl (k := 157) (t := (0, 0, 2010, [])) rfl rfl)
  have kz_0_158 : 0 ≤ w_fi ws (n_v vs 0) 158 ∧ w_fi ws (n_v vs 0) 158 ≤ 2009 := tv_rng (th_fd hD hth r0 (g := GG_150) rfl (k := 158) (t := (0, 0, 2009, [])) rfl rfl)
  have kz_0_159 : 0 ≤ w_fi ws (n_v vs 0) 159 ∧ w_fi ws (n_v vs 0) 159 ≤ 13 := tv_rng (th_fd hD hth r0 (g := GG_150) rfl (k := 159) (t := (0, 0, 13, [])) rfl rfl)
  have rf11 : tv_ok ta (0, 1, 2009, []) (n_v vs 11) := tv_in t11 (by first | omega | grind) (by first | omega | grind)
  refine ⟨List.forall_mem_cons.mpr ⟨rf11, (fun _ h => (by cases h))⟩, [], trivial, ?_, (fun _ h => (by cases h))⟩
  rw [List.append_nil]
  exact (fun _ h => (by cases h))
def o_Mo_product_at_f0_11 : or_T := (41, 12, [(0, (2, 0, 0, [150])), (1, (0, 0, 2009, [])), (2, (2, 0, 0, [150])), (4, (0, 0, 2009, [])), (5, (0, 0, 2010, [])), (7, (0, 1, 1, [])), (9, (0, 0, 0, [])), (10, (0, 1, 1, [])), (11, (0, 1, 2009, []))], [(20, [2], [30, 0, 1, 1, 159]), (20, [2], [30, 0, -1, 1, 159]), (24, [0, 2], []), (101, [2, 11], [158]), (1, [11, 4, 10], []), (9, [4, 2], [158]), (20, [9, 2], [50, 1, 1, 1158, 1160, 4, 6, 1, 2, 1, 0, 0, 1, 1, 6, 3, 1, 160, 2, 1, 158, 0, 3]), (8, [7], [1]), (20, [7, 2], [50, 1, 1, 1158, 1160, 4, 6, 1, 2, 1, 0, 0, 1, 1, 6, 3, 1, 160, 2, 1, 158, 0, 3]), (20, [2], [50, 2, 1, 158, 157, 160, 2, 12, 0, 7, 4, 3, 2, 0, 158, 0, 1, 2, 0, 157, 2, 7, 0, 3, 2, 0, 157, 0, 2010, 3, 14, 1, 10, 3, 0, 160, 5, 3, 2, 0, 157, 0, 1, 0, 0, 1, 10, 3, 0, 160, 5, 3, 2, 0, 157, 0, 1, 0, 4]), (20, [1, 2], [30, 0, 1, 0, 0, -1, 1, 158]), (20, [2], [30, 0, 1, 1, 159]), (20, [2], [30, 0, -1, 1, 159]), (20, [5, 2], [30, 2010, 1, 0, 0, 1, 1, 158]), (20, [5, 2], [30, -2010, -1, 0, 0, -1, 1, 158])], [], [(0, 0, 2009, [])], [(20, [2], [50, 2, 1, 158, 157, 160, 2, 12, 0, 7, 4, 3, 2, 0, 158, 0, 1, 2, 0, 157, 2, 7, 0, 3, 2, 0, 157, 0, 2010, 3, 14, 1, 10, 3, 0, 160, 5, 3, 2, 0, 157, 0, 1, 0, 0, 1, 10, 3, 0, 160, 5, 3, 2, 0, 157, 0, 1, 0, 4]), (20, [2, 12], [30, 0, 1, 1, 158, -1, 0, 0]), (20, [2, 12], [30, 0, -1, 1, 158, 1, 0, 0]), (20, [2], [30, 0, 1, 1, 159]), (20, [2], [30, 0, -1, 1, 159]), (23, [1, 12], [0, 1, -1]), (23, [5, 12], [-2011, -1, -1])], [], [(11, 4, 1, 1), (11, 1, -4294967296, 2010), (1, 4, -4294967296, 2009), (4, 1, -4294967296, 2009)])
theorem oo_Mo_product_at_f0_11 {kA : Nat → ClassId} : or_ok kA GG o_Mo_product_at_f0_11 := by
  intro A ta ws vs hD hth hl hk hds hf
  have hl : vs.length = 12 := hl
  have hk : ∀ q ∈ ([(0, (2, 0, 0, [150])), (1, (0, 0, 2009, [])), (2, (2, 0, 0, [150])), (4, (0, 0, 2009, [])), (5, (0, 0, 2010, [])), (7, (0, 1, 1, [])), (9, (0, 0, 0, [])), (10, (0, 1, 1, [])), (11, (0, 1, 2009, []))] : List (Nat × tv_T)), tv_ok ta q.2 (n_v vs q.1) := hk
  obtain ⟨t0, hk⟩ := List.forall_mem_cons.mp hk
  have t0 : tv_ok ta (2, 0, 0, [150]) (n_v vs 0) := t0
  have r0 : ta (v_ad (n_v vs 0)) = some 150 := tv_rg t0
  obtain ⟨t1, hk⟩ := List.forall_mem_cons.mp hk
  have t1 : tv_ok ta (0, 0, 2009, []) (n_v vs 1) := t1
  have k1 : 0 ≤ v_iv (n_v vs 1) ∧ v_iv (n_v vs 1) ≤ 2009 := tv_rng t1
  obtain ⟨t2, hk⟩ := List.forall_mem_cons.mp hk
  have t2 : tv_ok ta (2, 0, 0, [150]) (n_v vs 2) := t2
  have r2 : ta (v_ad (n_v vs 2)) = some 150 := tv_rg t2
  obtain ⟨t4, hk⟩ := List.forall_mem_cons.mp hk
  have t4 : tv_ok ta (0, 0, 2009, []) (n_v vs 4) := t4
  have k4 : 0 ≤ v_iv (n_v vs 4) ∧ v_iv (n_v vs 4) ≤ 2009 := tv_rng t4
  obtain ⟨t5, hk⟩ := List.forall_mem_cons.mp hk
  have t5 : tv_ok ta (0, 0, 2010, []) (n_v vs 5) := t5
  have k5 : 0 ≤ v_iv (n_v vs 5) ∧ v_iv (n_v vs 5) ≤ 2010 := tv_rng t5
  obtain ⟨t7, hk⟩ := List.forall_mem_cons.mp hk
  have t7 : tv_ok ta (0, 1, 1, []) (n_v vs 7) := t7
  have k7 : 1 ≤ v_iv (n_v vs 7) ∧ v_iv (n_v vs 7) ≤ 1 := tv_rng t7
  obtain ⟨t9, hk⟩ := List.forall_mem_cons.mp hk
  have t9 : tv_ok ta (0, 0, 0, []) (n_v vs 9) := t9
  have k9 : 0 ≤ v_iv (n_v vs 9) ∧ v_iv (n_v vs 9) ≤ 0 := tv_rng t9
  obtain ⟨t10, hk⟩ := List.forall_mem_cons.mp hk
  have t10 : tv_ok ta (0, 1, 1, []) (n_v vs 10) := t10
  have k10 : 1 ≤ v_iv (n_v vs 10) ∧ v_iv (n_v vs 10) ≤ 1 := tv_rng t10
  obtain ⟨t11, hk⟩ := List.forall_mem_cons.mp hk
  have t11 : tv_ok ta (0, 1, 2009, []) (n_v vs 11) := t11
  have k11 : 1 ≤ v_iv (n_v vs 11) ∧ v_iv (n_v vs 11) ≤ 2009 := tv_rng t11
  have hds : ∀ q ∈ ([(11, 4, 1, 1), (11, 1, -4294967296, 2010), (1, 4, -4294967296, 2009), (4, 1, -4294967296, 2009)] : List of_T), n_iv vs q.2.1 + q.2.2.1 ≤ n_iv vs q.1 ∧ n_iv vs q.1 ≤ n_iv vs q.2.1 + q.2.2.2 := hds
  obtain ⟨d0, hds⟩ := List.forall_mem_cons.mp hds
  have d0 : v_iv (n_v vs 4) + 1 ≤ v_iv (n_v vs 11) ∧ v_iv (n_v vs 11) ≤ v_iv (n_v vs 4) + 1 := d0
  obtain ⟨d1, hds⟩ := List.forall_mem_cons.mp hds
  have d1 : v_iv (n_v vs 1) + (-4294967296) ≤ v_iv (n_v vs 11) ∧ v_iv (n_v vs 11) ≤ v_iv (n_v vs 1) + 2010 := d1
  obtain ⟨d2, hds⟩ := List.forall_mem_cons.mp hds
  have d2 : v_iv (n_v vs 4) + (-4294967296) ≤ v_iv (n_v vs 1) ∧ v_iv (n_v vs 1) ≤ v_iv (n_v vs 4) + 2009 := d2
  obtain ⟨d3, hds⟩ := List.forall_mem_cons.mp hds
  have d3 : v_iv (n_v vs 1) + (-4294967296) ≤ v_iv (n_v vs 4) ∧ v_iv (n_v vs 4) ≤ v_iv (n_v vs 1) + 2009 := d3
  have hf : fc_ok [(20, [2], [30, 0, 1, 1, 159]), (20, [2], [30, 0, -1, 1, 159]), (24, [0, 2], []), (101, [2, 11], [158]), (1, [11, 4, 10], []), (9, [4, 2], [158]), (20, [9, 2], [50, 1, 1, 1158, 1160, 4, 6, 1, 2, 1, 0, 0, 1, 1, 6, 3, 1, 160, 2, 1, 158, 0, 3]), (8, [7], [1]), (20, [7, 2], [50, 1, 1, 1158, 1160, 4, 6, 1, 2, 1, 0, 0, 1, 1, 6, 3, 1, 160, 2, 1, 158, 0, 3]), (20, [2], [50, 2, 1, 158, 157, 160, 2, 12, 0, 7, 4, 3, 2, 0, 158, 0, 1, 2, 0, 157, 2, 7, 0, 3, 2, 0, 157, 0, 2010, 3, 14, 1, 10, 3, 0, 160, 5, 3, 2, 0, 157, 0, 1, 0, 0, 1, 10, 3, 0, 160, 5, 3, 2, 0, 157, 0, 1, 0, 4]), (20, [1, 2], [30, 0, 1, 0, 0, -1, 1, 158]), (20, [2], [30, 0, 1, 1, 159]), (20, [2], [30, 0, -1, 1, 159]), (20, [5, 2], [30, 2010, 1, 0, 0, 1, 1, 158]), (20, [5, 2], [30, -2010, -1, 0, 0, -1, 1, 158])] ta ws vs := hf
  obtain ⟨f0, hf⟩ := fc_un (by decide) hf
  have f0 : 1 * w_fi ws (n_v vs 2) 159 + 0 ≤ 0 := f0
  obtain ⟨f1, hf⟩ := fc_un (by decide) hf
  have f1 : (-1) * w_fi ws (n_v vs 2) 159 + 0 ≤ 0 := f1
  obtain ⟨f2, hf⟩ := fc_un (by decide) hf
  have f2 : n_v vs 0 = n_v vs 2 := f2
  obtain ⟨ta1, w1, le1, ⟨_, s1⟩, hf⟩ := fc_us (by decide) hf
  have s1 : (∀ b j, w_el ws b j = w_el w1 b j) ∧ ∀ b j, w_fd ws b j = if b = v_ad (n_v vs 2) ∧ j = 158 then n_v vs 11 else w_fd w1 b j := s1
  obtain ⟨f4, hf⟩ := fc_un (by decide) hf
  have f4 : v_iv (n_v vs 11) = v_iv (n_v vs 4) + v_iv (n_v vs 10) := f4
  obtain ⟨f5, hf⟩ := fc_un (by decide) hf
  have f5 : n_v vs 4 = w_fd w1 (v_ad (n_v vs 2)) 158 := f5
  obtain ⟨f6, hf⟩ := fc_un (by decide) hf
  have f6 : (v_iv (n_v vs 9) = 1) → (w_ei w1 (w_ar w1 (n_v vs 2) 160) (w_fi w1 (n_v vs 2) 158) = 3) := f6
  obtain ⟨f7, hf⟩ := fc_un (by decide) hf
  have f7 : v_iv (n_v vs 7) ≠ 0 := f7
  obtain ⟨f8, hf⟩ := fc_un (by decide) hf
  have f8 : (v_iv (n_v vs 7) = 1) → (w_ei w1 (w_ar w1 (n_v vs 2) 160) (w_fi w1 (n_v vs 2) 158) = 3) := f8
  obtain ⟨f9, hf⟩ := fc_un (by decide) hf
  have f9 : ((w_fi w1 (n_v vs 2) 158 + 1) ≤ w_fi w1 (n_v vs 2) 157) ∧ ((w_fi w1 (n_v vs 2) 157 ≤ 2010) ∧ ((w_ei w1 (w_ar w1 (n_v vs 2) 160) ((w_fi w1 (n_v vs 2) 157 - 1)) = 0) ∨ (w_ei w1 (w_ar w1 (n_v vs 2) 160) ((w_fi w1 (n_v vs 2) 157 - 1)) = 4))) := f9
  obtain ⟨f10, hf⟩ := fc_un (by decide) hf
  have f10 : 1 * v_iv (n_v vs 1) + ((-1) * w_fi w1 (n_v vs 2) 158 + 0) ≤ 0 := f10
  obtain ⟨f11, hf⟩ := fc_un (by decide) hf
  have f11 : 1 * w_fi w1 (n_v vs 2) 159 + 0 ≤ 0 := f11
  obtain ⟨f12, hf⟩ := fc_un (by decide) hf
  have f12 : (-1) * w_fi w1 (n_v vs 2) 159 + 0 ≤ 0 := f12
  obtain ⟨f13, hf⟩ := fc_un (by decide) hf
  have f13 : 1 * v_iv (n_v vs 5) + (1 * w_fi w1 (n_v vs 2) 158 + 0) ≤ 2010 := f13
  obtain ⟨f14, hf⟩ := fc_un (by decide) hf
  have f14 : (-1) * v_iv (n_v vs 5) + ((-1) * w_fi w1 (n_v vs 2) 158 + 0) ≤ (-2010) := f14
  have q2 : n_v vs 2 = n_v vs 0 := f2.symm
  rw [q2] at f0
  rw [q2] at f1
  rw [q2] at s1
  rw [q2] at f5
  rw [q2] at f6
  rw [q2] at f8
  rw [q2] at f9
  rw [q2] at f10
  rw [q2] at f11
  rw [q2] at f12
  rw [q2] at f13
  rw [q2] at f14
  have ar_0_160_1 : w_ar w1 (n_v vs 0) 160 = w_ar ws (n_v vs 0) 160 := by show v_ad (w_fd w1 _ _) = v_ad (w_fd ws _ _); rw [s1.2, if_neg (fun e => absurd e.2 (by decide))]
  have cr_0_160 : ta (w_ar ws (n_v vs 0) 160) = some 259 := tv_rg (th_fd hD hth r0 (g := GG_150) rfl (k := 160) (t := (2, 0, 0, [259])) rfl rfl)
  have g5 : v_iv (n_v vs 4) = w_fi w1 (n_v vs 0) 158 := congrArg v_iv f5
  rw [ar_0_160_1] at f6
  rw [ar_0_160_1] at f8
  rw [ar_0_160_1] at f9
  have fe_0_157_1 : w_fi ws (n_v vs 0) 157 = w_fi w1 (n_v vs 0) 157 := by show v_iv (w_fd _ _ _) = v_iv (w_fd _ _ _); rw [s1.2, if_neg (fun e => absurd e.2 (by decide))]
  have fe_0_158_1 : w_fi ws (n_v vs 0) 158 = v_iv (n_v vs 11) := by show v_iv (w_fd _ _ _) = _; rw [s1.2, if_pos ⟨rfl, rfl⟩]
  have fe_0_159_1 : w_fi ws (n_v vs 0) 159 = w_fi w1 (n_v vs 0) 159 := by show v_iv (w_fd _ _ _) = v_iv (w_fd _ _ _); rw [s1.2, if_neg (fun e => absurd e.2 (by decide))]
  have hE_0_160_1 : ∀ j : Int, w_ei ws (w_ar ws (n_v vs 0) 160) j = w_ei w1 (w_ar ws (n_v vs 0) 160) j := fun j => s1.1 _ _
  have hK_0_160 : ∀ j : Int, 0 ≤ j → j < 2010 → 0 ≤ w_ei ws (w_ar ws (n_v vs 0) 160) j ∧ w_ei ws (w_ar ws (n_v vs 0) 160) j ≤ 4 := fun j h0 h1 => th_el hD hth cr_0_160 (kd := 0) (n := 2010) (m := 2010) (lo := 0) (hi := 4) (rs := []) (L := []) rfl (by decide) (j := j.toNat) (by omega)
  have kz_0_157 : 0 ≤ w_fi ws (n_v vs 0) 157 ∧ w_fi ws (n_v vs 0) 157 ≤ 2010 := tv_rng (th_fd hD hth r0 (g := GG_150) rfl (k := 157) (t := (0, 0, 2010, [])) rfl rfl)
  have kz_0_158 : 0 ≤ w_fi ws (n_v vs 0) 158 ∧ w_fi ws (n_v vs 0) 158 ≤ 2009 := tv_rng (th_fd hD hth r0 (g := GG_150) rfl (k := 158) (t := (0, 0, 2009, [])) rfl rfl)
  have kz_0_159 : 0 ≤ w_fi ws (n_v vs 0) 159 ∧ w_fi ws (n_v vs 0) 159 ≤ 13 := tv_rng (th_fd hD hth r0 (g := GG_150) rfl (k := 159) (t := (0, 0, 13, [])) rfl rfl)
  have kv : 0 ≤ w_fi ws (n_v vs 0) 158 ∧ w_fi ws (n_v vs 0) 158 ≤ 2009 := tv_rng (th_fd hD hth r0 (g := GG_150) rfl (k := 158) (t := (0, 0, 2009, [])) rfl rfl)
  obtain ⟨x, ex, hx⟩ := iv_ex (ta := ta) (lo := 0) (hi := 2009) (z := w_fi ws (n_v vs 0) 158) (by omega) (by omega) (by decide) (by decide)
  have ex2 : v_iv (Value.int x) = w_fi ws (n_v vs 0) 158 := ex
  have ex3 : 0 ≤ v_iv (Value.int x) ∧ v_iv (Value.int x) ≤ 2009 := tv_rng hx
  have e_1 : n_v (vs ++ [Value.int x]) 1 = n_v vs 1 := n_v_old (by rw [hl]; decide)
  have e_2 : n_v (vs ++ [Value.int x]) 2 = n_v vs 2 := n_v_old (by rw [hl]; decide)
  have e_5 : n_v (vs ++ [Value.int x]) 5 = n_v vs 5 := n_v_old (by rw [hl]; decide)
  have e_12 : n_v (vs ++ [Value.int x]) 12 = Value.int x := n_v_new hl
  have nf0 : fc_1 (20, [2], [50, 2, 1, 158, 157, 160, 2, 12, 0, 7, 4, 3, 2, 0, 158, 0, 1, 2, 0, 157, 2, 7, 0, 3, 2, 0, 157, 0, 2010, 3, 14, 1, 10, 3, 0, 160, 5, 3, 2, 0, 157, 0, 1, 0, 0, 1, 10, 3, 0, 160, 5, 3, 2, 0, 157, 0, 1, 0, 4]) ws (vs ++ [Value.int x]) := by
    refine ⟨fun n hn => ?_, ?_⟩
    · have hn : n ∈ [2] := hn
      rw [List.length_append, hl]
      simp only [List.mem_cons, List.not_mem_nil, or_false] at hn
      show n < 12 + 1; omega
    · show ((w_fi ws (n_v (vs ++ [Value.int x]) 2) 158 + 1) ≤ w_fi ws (n_v (vs ++ [Value.int x]) 2) 157) ∧ ((w_fi ws (n_v (vs ++ [Value.int x]) 2) 157 ≤ 2010) ∧ ((w_ei ws (w_ar ws (n_v (vs ++ [Value.int x]) 2) 160) ((w_fi ws (n_v (vs ++ [Value.int x]) 2) 157 - 1)) = 0) ∨ (w_ei ws (w_ar ws (n_v (vs ++ [Value.int x]) 2) 160) ((w_fi ws (n_v (vs ++ [Value.int x]) 2) 157 - 1)) = 4)))
      rw [e_2]
      rw [q2]
      first | omega | grind
  have nf1 : fc_1 (20, [2, 12], [30, 0, 1, 1, 158, -1, 0, 0]) ws (vs ++ [Value.int x]) := by
    refine ⟨fun n hn => ?_, ?_⟩
    · have hn : n ∈ [2, 12] := hn
      rw [List.length_append, hl]
      simp only [List.mem_cons, List.not_mem_nil, or_false] at hn
      show n < 12 + 1; omega
    · show 1 * w_fi ws (n_v (vs ++ [Value.int x]) 2) 158 + ((-1) * v_iv (n_v (vs ++ [Value.int x]) 12) + 0) ≤ 0
      rw [e_2]
      rw [e_12]
      rw [q2]
      omega
  have nf2 : fc_1 (20, [2, 12], [30, 0, -1, 1, 158, 1, 0, 0]) ws (vs ++ [Value.int x]) := by
    refine ⟨fun n hn => ?_, ?_⟩
    · have hn : n ∈ [2, 12] := hn
      rw [List.length_append, hl]
      simp only [List.mem_cons, List.not_mem_nil, or_false] at hn
      show n < 12 + 1; omega
    · show (-1) * w_fi ws (n_v (vs ++ [Value.int x]) 2) 158 + (1 * v_iv (n_v (vs ++ [Value.int x]) 12) + 0) ≤ 0
      rw [e_2]
      rw [e_12]
      rw [q2]
      omega
  have nf3 : fc_1 (20, [2], [30, 0, 1, 1, 159]) ws (vs ++ [Value.int x]) := by
    refine ⟨fun n hn => ?_, ?_⟩
    · have hn : n ∈ [2] := hn
      rw [List.length_append, hl]
      simp only [List.mem_cons, List.not_mem_nil, or_false] at hn
      show n < 12 + 1; omega
    · show 1 * w_fi ws (n_v (vs ++ [Value.int x]) 2) 159 + 0 ≤ 0
      rw [e_2]
      rw [q2]
      omega
  have nf4 : fc_1 (20, [2], [30, 0, -1, 1, 159]) ws (vs ++ [Value.int x]) := by
    refine ⟨fun n hn => ?_, ?_⟩
    · have hn : n ∈ [2] := hn
      rw [List.length_append, hl]
      simp only [List.mem_cons, List.not_mem_nil, or_false] at hn
      show n < 12 + 1; omega
    · show (-1) * w_fi ws (n_v (vs ++ [Value.int x]) 2) 159 + 0 ≤ 0
      rw [e_2]
      rw [q2]
      omega
  have nf5 : fc_1 (23, [1, 12], [0, 1, -1]) ws (vs ++ [Value.int x]) := by
    refine ⟨fun n hn => ?_, ?_⟩
    · have hn : n ∈ [1, 12] := hn
      rw [List.length_append, hl]
      simp only [List.mem_cons, List.not_mem_nil, or_false] at hn
      show n < 12 + 1; omega
    · show 1 * v_iv (n_v (vs ++ [Value.int x]) 1) + ((-1) * v_iv (n_v (vs ++ [Value.int x]) 12) + 0) ≤ 0
      rw [e_1]
      rw [e_12]
      omega
  have nf6 : fc_1 (23, [5, 12], [-2011, -1, -1]) ws (vs ++ [Value.int x]) := by
    refine ⟨fun n hn => ?_, ?_⟩
    · have hn : n ∈ [5, 12] := hn
      rw [List.length_append, hl]
      simp only [List.mem_cons, List.not_mem_nil, or_false] at hn
      show n < 12 + 1; omega
    · show (-1) * v_iv (n_v (vs ++ [Value.int x]) 5) + ((-1) * v_iv (n_v (vs ++ [Value.int x]) 12) + 0) ≤ (-2011)
      rw [e_5]
      rw [e_12]
      omega
  exact ⟨fun q hq => (by cases hq), [Value.int x], ag_one hx, List.forall_mem_cons.mpr ⟨⟨by decide, nf0⟩, List.forall_mem_cons.mpr ⟨⟨by decide, nf1⟩, List.forall_mem_cons.mpr ⟨⟨by decide, nf2⟩, List.forall_mem_cons.mpr ⟨⟨by decide, nf3⟩, List.forall_mem_cons.mpr ⟨⟨by decide, nf4⟩, List.forall_mem_cons.mpr ⟨⟨by decide, nf5⟩, List.forall_mem_cons.mpr ⟨⟨by decide, nf6⟩, (fun _ h => (by cases h))⟩⟩⟩⟩⟩⟩⟩, (fun _ h => (by cases h))⟩
def o_Mo_product_at_f0_12 : or_T := (68, 15, [(0, (2, 0, 0, [150])), (1, (0, 0, 2009, [])), (2, (2, 0, 0, [150])), (4, (0, 0, 2009, [])), (5, (0, 0, 2010, [])), (10, (0, 1, 1, [])), (11, (0, 1, 2009, [])), (12, (0, 0, 2009, []))], [(7, [13, 14], [1]), (23, [1, 12], [0, 1, -1]), (23, [5, 12], [-2011, -1, -1]), (24, [0, 2], []), (20, [2], [50, 2, 1, 158, 157, 160, 2, 12, 0, 7, 4, 3, 2, 0, 158, 0, 1, 2, 0, 157, 2, 7, 0, 3, 2, 0, 157, 0, 2010, 3, 14, 1, 10, 3, 0, 160, 5, 3, 2, 0, 157, 0, 1, 0, 0, 1, 10, 3, 0, 160, 5, 3, 2, 0, 157, 0, 1, 0, 4]), (20, [12, 2], [30, 0, 1, 0, 0, -1, 1, 158]), (20, [2], [30, 0, 1, 1, 159]), (20, [2], [30, 0, -1, 1, 159]), (102, [12], [0, 13008, 13009, 13158, 13159]), (23, [1, 12], [0, 1, -1]), (23, [5, 12], [-2011, -1, -1]), (101, [2, 11], [158]), (1, [11, 4, 10], [])], [], [], [(8, [13], [1])], [], [(11, 4, 1, 1), (11, 1, -4294967296, 2010), (1, 4, -4294967296, 2009), (4, 1, -4294967296, 2009)])
theorem oo_Mo_product_at_f0_12 {kA : Nat → ClassId} : or_ok kA GG o_Mo_product_at_f0_12 := by
  intro A ta ws vs hD hth hl hk hds hf
  have hl : vs.length = 15 := hl
  have hk : ∀ q ∈ ([(0, (2, 0, 0, [150])), (1, (0, 0, 2009, [])), (2, (2, 0, 0, [150])), (4, (0, 0, 2009, [])), (5, (0, 0, 2010, [])), (10, (0, 1, 1, [])), (11, (0, 1, 2009, [])), (12, (0, 0, 2009, []))] : List (Nat × tv_T)), tv_ok ta q.2 (n_v vs q.1) := hk
  obtain ⟨t0, hk⟩ := List.forall_mem_cons.mp hk
  have t0 : tv_ok ta (2, 0, 0, [150]) (n_v vs 0) := t0
  have r0 : ta (v_ad (n_v vs 0)) = some 150 := tv_rg t0
  obtain ⟨t1, hk⟩ := List.forall_mem_cons.mp hk
  have t1 : tv_ok ta (0, 0, 2009, []) (n_v vs 1) := t1
  have k1 : 0 ≤ v_iv (n_v vs 1) ∧ v_iv (n_v vs 1) ≤ 2009 := tv_rng t1
  obtain ⟨t2, hk⟩ := List.forall_mem_cons.mp hk
  have t2 : tv_ok ta (2, 0, 0, [150]) (n_v vs 2) := t2
  have r2 : ta (v_ad (n_v vs 2)) = some 150 := tv_rg t2
  obtain ⟨t4, hk⟩ := List.forall_mem_cons.mp hk
  have t4 : tv_ok ta (0, 0, 2009, []) (n_v vs 4) := t4
  have k4 : 0 ≤ v_iv (n_v vs 4) ∧ v_iv (n_v vs 4) ≤ 2009 := tv_rng t4
  obtain ⟨t5, hk⟩ := List.forall_mem_cons.mp hk
  have t5 : tv_ok ta (0, 0, 2010, []) (n_v vs 5) := t5
  have k5 : 0 ≤ v_iv (n_v vs 5) ∧ v_iv (n_v vs 5) ≤ 2010 := tv_rng t5
  obtain ⟨t10, hk⟩ := List.forall_mem_cons.mp hk
  have t10 : tv_ok ta (0, 1, 1, []) (n_v vs 10) := t10
  have k10 : 1 ≤ v_iv (n_v vs 10) ∧ v_iv (n_v vs 10) ≤ 1 := tv_rng t10
  obtain ⟨t11, hk⟩ := List.forall_mem_cons.mp hk
  have t11 : tv_ok ta (0, 1, 2009, []) (n_v vs 11) := t11
  have k11 : 1 ≤ v_iv (n_v vs 11) ∧ v_iv (n_v vs 11) ≤ 2009 := tv_rng t11
  obtain ⟨t12, hk⟩ := List.forall_mem_cons.mp hk
  have t12 : tv_ok ta (0, 0, 2009, []) (n_v vs 12) := t12
  have k12 : 0 ≤ v_iv (n_v vs 12) ∧ v_iv (n_v vs 12) ≤ 2009 := tv_rng t12
  have hds : ∀ q ∈ ([(11, 4, 1, 1), (11, 1, -4294967296, 2010), (1, 4, -4294967296, 2009), (4, 1, -4294967296, 2009)] : List of_T), n_iv vs q.2.1 + q.2.2.1 ≤ n_iv vs q.1 ∧ n_iv vs q.1 ≤ n_iv vs q.2.1 + q.2.2.2 := hds
  obtain ⟨d0, hds⟩ := List.forall_mem_cons.mp hds
  have d0 : v_iv (n_v vs 4) + 1 ≤ v_iv (n_v vs 11) ∧ v_iv (n_v vs 11) ≤ v_iv (n_v vs 4) + 1 := d0
  obtain ⟨d1, hds⟩ := List.forall_mem_cons.mp hds
  have d1 : v_iv (n_v vs 1) + (-4294967296) ≤ v_iv (n_v vs 11) ∧ v_iv (n_v vs 11) ≤ v_iv (n_v vs 1) + 2010 := d1
  obtain ⟨d2, hds⟩ := List.forall_mem_cons.mp hds
  have d2 : v_iv (n_v vs 4) + (-4294967296) ≤ v_iv (n_v vs 1) ∧ v_iv (n_v vs 1) ≤ v_iv (n_v vs 4) + 2009 := d2
  obtain ⟨d3, hds⟩ := List.forall_mem_cons.mp hds
  have d3 : v_iv (n_v vs 1) + (-4294967296) ≤ v_iv (n_v vs 4) ∧ v_iv (n_v vs 4) ≤ v_iv (n_v vs 1) + 2009 := d3
  have hf : fc_ok [(7, [13, 14], [1]), (23, [1, 12], [0, 1, -1]), (23, [5, 12], [-2011, -1, -1]), (24, [0, 2], []), (20, [2], [50, 2, 1, 158, 157, 160, 2, 12, 0, 7, 4, 3, 2, 0, 158, 0, 1, 2, 0, 157, 2, 7, 0, 3, 2, 0, 157, 0, 2010, 3, 14, 1, 10, 3, 0, 160, 5, 3, 2, 0, 157, 0, 1, 0, 0, 1, 10, 3, 0, 160, 5, 3, 2, 0, 157, 0, 1, 0, 4]), (20, [12, 2], [30, 0, 1, 0, 0, -1, 1, 158]), (20, [2], [30, 0, 1, 1, 159]), (20, [2], [30, 0, -1, 1, 159]), (102, [12], [0, 13008, 13009, 13158, 13159]), (23, [1, 12], [0, 1, -1]), (23, [5, 12], [-2011, -1, -1]), (101, [2, 11], [158]), (1, [11, 4, 10], [])] ta ws vs := hf
  obtain ⟨f0, hf⟩ := fc_un (by decide) hf
  have f0 : v_iv (n_v vs 13) ≠ v_iv (n_v vs 14) := f0
  obtain ⟨f1, hf⟩ := fc_un (by decide) hf
  have f1 : 1 * v_iv (n_v vs 1) + ((-1) * v_iv (n_v vs 12) + 0) ≤ 0 := f1
  obtain ⟨f2, hf⟩ := fc_un (by decide) hf
  have f2 : (-1) * v_iv (n_v vs 5) + ((-1) * v_iv (n_v vs 12) + 0) ≤ (-2011) := f2
  obtain ⟨f3, hf⟩ := fc_un (by decide) hf
  have f3 : n_v vs 0 = n_v vs 2 := f3
  obtain ⟨f4, hf⟩ := fc_un (by decide) hf
  have f4 : ((w_fi ws (n_v vs 2) 158 + 1) ≤ w_fi ws (n_v vs 2) 157) ∧ ((w_fi ws (n_v vs 2) 157 ≤ 2010) ∧ ((w_ei ws (w_ar ws (n_v vs 2) 160) ((w_fi ws (n_v vs 2) 157 - 1)) = 0) ∨ (w_ei ws (w_ar ws (n_v vs 2) 160) ((w_fi ws (n_v vs 2) 157 - 1)) = 4))) := f4
  obtain ⟨f5, hf⟩ := fc_un (by decide) hf
  have f5 : 1 * v_iv (n_v vs 12) + ((-1) * w_fi ws (n_v vs 2) 158 + 0) ≤ 0 := f5
  obtain ⟨f6, hf⟩ := fc_un (by decide) hf
  have f6 : 1 * w_fi ws (n_v vs 2) 159 + 0 ≤ 0 := f6
  obtain ⟨f7, hf⟩ := fc_un (by decide) hf
  have f7 : (-1) * w_fi ws (n_v vs 2) 159 + 0 ≤ 0 := f7
  obtain ⟨ta1, w1, le1, ⟨_, s1⟩, hf⟩ := fc_us (by decide) hf
  obtain ⟨f9, hf⟩ := fc_un (by decide) hf
  have f9 : 1 * v_iv (n_v vs 1) + ((-1) * v_iv (n_v vs 12) + 0) ≤ 0 := f9
  obtain ⟨f10, hf⟩ := fc_un (by decide) hf
  have f10 : (-1) * v_iv (n_v vs 5) + ((-1) * v_iv (n_v vs 12) + 0) ≤ (-2011) := f10
  obtain ⟨ta2, w2, le2, ⟨_, s2⟩, hf⟩ := fc_us (by decide) hf
  have s2 : (∀ b j, w_el w1 b j = w_el w2 b j) ∧ ∀ b j, w_fd w1 b j = if b = v_ad (n_v vs 2) ∧ j = 158 then n_v vs 11 else w_fd w2 b j := s2
  obtain ⟨f12, hf⟩ := fc_un (by decide) hf
  have f12 : v_iv (n_v vs 11) = v_iv (n_v vs 4) + v_iv (n_v vs 10) := f12
  have q2 : n_v vs 2 = n_v vs 0 := f3.symm
  rw [q2] at f4
  rw [q2] at f5
  rw [q2] at f6
  rw [q2] at f7
  rw [q2] at s2
  have cr_0_160 : ta (w_ar ws (n_v vs 0) 160) = some 259 := tv_rg (th_fd hD hth r0 (g := GG_150) rfl (k := 160) (t := (2, 0, 0, [259])) rfl rfl)
  have hK_0_160 : ∀ j : Int, 0 ≤ j → j < 2010 → 0 ≤ w_ei ws (w_ar ws (n_v vs 0) 160) j ∧ w_ei ws (w_ar ws (n_v vs 0) 160) j ≤ 4 := fun j h0 h1 => th_el hD hth cr_0_160 (kd := 0) (n := 2010) (m := 2010) (lo := 0) (hi := 4) (rs := []) (L := []) rfl (by decide) (j := j.toNat) (by omega)
  have kz_0_157 : 0 ≤ w_fi ws (n_v vs 0) 157 ∧ w_fi ws (n_v vs 0) 157 ≤ 2010 := tv_rng (th_fd hD hth r0 (g := GG_150) rfl (k := 157) (t := (0, 0, 2010, [])) rfl rfl)
  have kz_0_158 : 0 ≤ w_fi ws (n_v vs 0) 158 ∧ w_fi ws (n_v vs 0) 158 ≤ 2009 := tv_rng (th_fd hD hth r0 (g := GG_150) rfl (k := 158) (t := (0, 0, 2009, [])) rfl rfl)
  have kz_0_159 : 0 ≤ w_fi ws (n_v vs 0) 159 ∧ w_fi ws (n_v vs 0) 159 ≤ 13 := tv_rng (th_fd hD hth r0 (g := GG_150) rfl (k := 159) (t := (0, 0, 13, [])) rfl rfl)
  have nf0 : fc_1 (8, [13], [1]) ws (vs) := by
    refine ⟨fun n hn => ?_, ?_⟩
    · have hn : n ∈ [13] := hn
      rw [hl]
      simp only [List.mem_cons, List.not_mem_nil, or_false] at hn
      show n < 15; omega
    · show v_iv (n_v vs 13) ≠ 0
      omega
  refine ⟨(fun _ h => (by cases h)), [], trivial, ?_, (fun _ h => (by cases h))⟩
  rw [List.append_nil]
  exact List.forall_mem_cons.mpr ⟨⟨by decide, nf0⟩, (fun _ h => (by cases h))⟩
def o_Mo_product_at_f0_13 : or_T := (74, 16, [(0, (2, 0, 0, [150])), (1, (0, 0, 2009, [])), (2, (2, 0, 0, [150])), (4, (0, 0, 2009, [])), (5, (0, 0, 2010, [])), (10, (0, 1, 1, [])), (11, (0, 1, 2009, [])), (12, (0, 0, 2009, []))], [(23, [1, 12], [0, 1, -1]), (23, [5, 12], [-2011, -1, -1]), (24, [0, 2], []), (20, [2], [50, 2, 1, 158, 157, 160, 2, 12, 0, 7, 4, 3, 2, 0, 158, 0, 1, 2, 0, 157, 2, 7, 0, 3, 2, 0, 157, 0, 2010, 3, 14, 1, 10, 3, 0, 160, 5, 3, 2, 0, 157, 0, 1, 0, 0, 1, 10, 3, 0, 160, 5, 3, 2, 0, 157, 0, 1, 0, 4]), (20, [12, 2], [30, 0, 1, 0, 0, -1, 1, 158]), (20, [2], [30, 0, 1, 1, 159]), (20, [2], [30, 0, -1, 1, 159]), (102, [12], [0, 13008, 13009, 13158, 13159]), (23, [1, 12], [0, 1, -1]), (23, [5, 12], [-2011, -1, -1]), (101, [2, 11], [158]), (1, [11, 4, 10], [])], [], [(0, 0, 2010, [])], [(20, [2], [50, 2, 1, 158, 157, 160, 2, 12, 0, 7, 4, 3, 2, 0, 158, 0, 1, 2, 0, 157, 2, 7, 0, 3, 2, 0, 157, 0, 2010, 3, 14, 1, 10, 3, 0, 160, 5, 3, 2, 0, 157, 0, 1, 0, 0, 1, 10, 3, 0, 160, 5, 3, 2, 0, 157, 0, 1, 0, 4]), (20, [1, 2], [30, 0, 1, 0, 0, -1, 1, 158]), (20, [2], [30, 0, 1, 1, 159]), (20, [2], [30, 0, -1, 1, 159]), (20, [16, 2], [30, -2011, -1, 0, 0, -1, 1, 158]), (24, [0, 2], [])], [(16, 5, 0, 0)], [(11, 4, 1, 1), (11, 1, -4294967296, 2010), (1, 4, -4294967296, 2009), (4, 1, -4294967296, 2009)])
theorem oo_Mo_product_at_f0_13 {kA : Nat → ClassId} : or_ok kA GG o_Mo_product_at_f0_13 := by
  intro A ta ws vs hD hth hl hk hds hf
  have hl : vs.length = 16 := hl
  have hk : ∀ q ∈ ([(0, (2, 0, 0, [150])), (1, (0, 0, 2009, [])), (2, (2, 0, 0, [150])), (4, (0, 0, 2009, [])), (5, (0, 0, 2010, [])), (10, (0, 1, 1, [])), (11, (0, 1, 2009, [])), (12, (0, 0, 2009, []))] : List (Nat × tv_T)), tv_ok ta q.2 (n_v vs q.1) := hk
  obtain ⟨t0, hk⟩ := List.forall_mem_cons.mp hk
  have t0 : tv_ok ta (2, 0, 0, [150]) (n_v vs 0) := t0
  have r0 : ta (v_ad (n_v vs 0)) = some 150 := tv_rg t0
  obtain ⟨t1, hk⟩ := List.forall_mem_cons.mp hk
  have t1 : tv_ok ta (0, 0, 2009, []) (n_v vs 1) := t1
  have k1 : 0 ≤ v_iv (n_v vs 1) ∧ v_iv (n_v vs 1) ≤ 2009 := tv_rng t1
  obtain ⟨t2, hk⟩ := List.forall_mem_cons.mp hk
  have t2 : tv_ok ta (2, 0, 0, [150]) (n_v vs 2) := t2
  have r2 : ta (v_ad (n_v vs 2)) = some 150 := tv_rg t2
  obtain ⟨t4, hk⟩ := List.forall_mem_cons.mp hk
  have t4 : tv_ok ta (0, 0, 2009, []) (n_v vs 4) := t4
  have k4 : 0 ≤ v_iv (n_v vs 4) ∧ v_iv (n_v vs 4) ≤ 2009 := tv_rng t4
  obtain ⟨t5, hk⟩ := List.forall_mem_cons.mp hk
  have t5 : tv_ok ta (0, 0, 2010, []) (n_v vs 5) := t5
  have k5 : 0 ≤ v_iv (n_v vs 5) ∧ v_iv (n_v vs 5) ≤ 2010 := tv_rng t5
  obtain ⟨t10, hk⟩ := List.forall_mem_cons.mp hk
  have t10 : tv_ok ta (0, 1, 1, []) (n_v vs 10) := t10
  have k10 : 1 ≤ v_iv (n_v vs 10) ∧ v_iv (n_v vs 10) ≤ 1 := tv_rng t10
  obtain ⟨t11, hk⟩ := List.forall_mem_cons.mp hk
  have t11 : tv_ok ta (0, 1, 2009, []) (n_v vs 11) := t11
  have k11 : 1 ≤ v_iv (n_v vs 11) ∧ v_iv (n_v vs 11) ≤ 2009 := tv_rng t11
  obtain ⟨t12, hk⟩ := List.forall_mem_cons.mp hk
  have t12 : tv_ok ta (0, 0, 2009, []) (n_v vs 12) := t12
  have k12 : 0 ≤ v_iv (n_v vs 12) ∧ v_iv (n_v vs 12) ≤ 2009 := tv_rng t12
  have hds : ∀ q ∈ ([(11, 4, 1, 1), (11, 1, -4294967296, 2010), (1, 4, -4294967296, 2009), (4, 1, -4294967296, 2009)] : List of_T), n_iv vs q.2.1 + q.2.2.1 ≤ n_iv vs q.1 ∧ n_iv vs q.1 ≤ n_iv vs q.2.1 + q.2.2.2 := hds
  obtain ⟨d0, hds⟩ := List.forall_mem_cons.mp hds
  have d0 : v_iv (n_v vs 4) + 1 ≤ v_iv (n_v vs 11) ∧ v_iv (n_v vs 11) ≤ v_iv (n_v vs 4) + 1 := d0
  obtain ⟨d1, hds⟩ := List.forall_mem_cons.mp hds
  have d1 : v_iv (n_v vs 1) + (-4294967296) ≤ v_iv (n_v vs 11) ∧ v_iv (n_v vs 11) ≤ v_iv (n_v vs 1) + 2010 := d1
  obtain ⟨d2, hds⟩ := List.forall_mem_cons.mp hds
  have d2 : v_iv (n_v vs 4) + (-4294967296) ≤ v_iv (n_v vs 1) ∧ v_iv (n_v vs 1) ≤ v_iv (n_v vs 4) + 2009 := d2
  obtain ⟨d3, hds⟩ := List.forall_mem_cons.mp hds
  have d3 : v_iv (n_v vs 1) + (-4294967296) ≤ v_iv (n_v vs 4) ∧ v_iv (n_v vs 4) ≤ v_iv (n_v vs 1) + 2009 := d3
  have hf : fc_ok [(23, [1, 12], [0, 1, -1]), (23, [5, 12], [-2011, -1, -1]), (24, [0, 2], []), (20, [2], [50, 2, 1, 158, 157, 160, 2, 12, 0, 7, 4, 3, 2, 0, 158, 0, 1, 2, 0, 157, 2, 7, 0, 3, 2, 0, 157, 0, 2010, 3, 14, 1, 10, 3, 0, 160, 5, 3, 2, 0, 157, 0, 1, 0, 0, 1, 10, 3, 0, 160, 5, 3, 2, 0, 157, 0, 1, 0, 4]), (20, [12, 2], [30, 0, 1, 0, 0, -1, 1, 158]), (20, [2], [30, 0, 1, 1, 159]), (20, [2], [30, 0, -1, 1, 159]), (102, [12], [0, 13008, 13009, 13158, 13159]), (23, [1, 12], [0, 1, -1]), (23, [5, 12], [-2011, -1, -1]), (101, [2, 11], [158]), (1, [11, 4, 10], [])] ta ws vs := hf
  obtain ⟨f0, hf⟩ := fc_un (by decide) hf
  have f0 : 1 * v_iv (n_v vs 1) + ((-1) * v_iv (n_v vs 12) + 0) ≤ 0 := f0
  obtain ⟨f1, hf⟩ := fc_un (by decide) hf
  have f1 : (-1) * v_iv (n_v vs 5) + ((-1) * v_iv (n_v vs 12) + 0) ≤ (-2011) := f1
  obtain ⟨f2, hf⟩ := fc_un (by decide) hf
  have f2 : n_v vs 0 = n_v vs 2 := f2
  obtain ⟨f3, hf⟩ := fc_un (by decide) hf
  have f3 : ((w_fi ws (n_v vs 2) 158 + 1) ≤ w_fi ws (n_v vs 2) 157) ∧ ((w_fi ws (n_v vs 2) 157 ≤ 2010) ∧ ((w_ei ws (w_ar ws (n_v vs 2) 160) ((w_fi ws (n_v vs 2) 157 - 1)) = 0) ∨ (w_ei ws (w_ar ws (n_v vs 2) 160) ((w_fi ws (n_v vs 2) 157 - 1)) = 4))) := f3
  obtain ⟨f4, hf⟩ := fc_un (by decide) hf
  have f4 : 1 * v_iv (n_v vs 12) + ((-1) * w_fi ws (n_v vs 2) 158 + 0) ≤ 0 := f4
  obtain ⟨f5, hf⟩ := fc_un (by decide) hf
  have f5 : 1 * w_fi ws (n_v vs 2) 159 + 0 ≤ 0 := f5
  obtain ⟨f6, hf⟩ := fc_un (by decide) hf
  have f6 : (-1) * w_fi ws (n_v vs 2) 159 + 0 ≤ 0 := f6
  obtain ⟨ta1, w1, le1, ⟨_, s1⟩, hf⟩ := fc_us (by decide) hf
  obtain ⟨f8, hf⟩ := fc_un (by decide) hf
  have f8 : 1 * v_iv (n_v vs 1) + ((-1) * v_iv (n_v vs 12) + 0) ≤ 0 := f8
  obtain ⟨f9, hf⟩ := fc_un (by decide) hf
  have f9 : (-1) * v_iv (n_v vs 5) + ((-1) * v_iv (n_v vs 12) + 0) ≤ (-2011) := f9
  obtain ⟨ta2, w2, le2, ⟨_, s2⟩, hf⟩ := fc_us (by decide) hf
  have s2 : (∀ b j, w_el w1 b j = w_el w2 b j) ∧ ∀ b j, w_fd w1 b j = if b = v_ad (n_v vs 2) ∧ j = 158 then n_v vs 11 else w_fd w2 b j := s2
  obtain ⟨f11, hf⟩ := fc_un (by decide) hf
  have f11 : v_iv (n_v vs 11) = v_iv (n_v vs 4) + v_iv (n_v vs 10) := f11
  have q2 : n_v vs 2 = n_v vs 0 := f2.symm
  rw [q2] at f3
  rw [q2] at f4
  rw [q2] at f5
  rw [q2] at f6
  rw [q2] at s2
  have cr_0_160 : ta (w_ar ws (n_v vs 0) 160) = some 259 := tv_rg (th_fd hD hth r0 (g := GG_150) rfl (k := 160) (t := (2, 0, 0, [259])) rfl rfl)
  have hK_0_160 : ∀ j : Int, 0 ≤ j → j < 2010 → 0 ≤ w_ei ws (w_ar ws (n_v vs 0) 160) j ∧ w_ei ws (w_ar ws (n_v vs 0) 160) j ≤ 4 := fun j h0 h1 => th_el hD hth cr_0_160 (kd := 0) (n := 2010) (m := 2010) (lo := 0) (hi := 4) (rs := []) (L := []) rfl (by decide) (j := j.toNat) (by omega)
  have kz_0_157 : 0 ≤ w_fi ws (n_v vs 0) 157 ∧ w_fi ws (n_v vs 0) 157 ≤ 2010 := tv_rng (th_fd hD hth r0 (g := GG_150) rfl (k := 157) (t := (0, 0, 2010, [])) rfl rfl)
  have kz_0_158 : 0 ≤ w_fi ws (n_v vs 0) 158 ∧ w_fi ws (n_v vs 0) 158 ≤ 2009 := tv_rng (th_fd hD hth r0 (g := GG_150) rfl (k := 158) (t := (0, 0, 2009, [])) rfl rfl)
  have kz_0_159 : 0 ≤ w_fi ws (n_v vs 0) 159 ∧ w_fi ws (n_v vs 0) 159 ≤ 13 := tv_rng (th_fd hD hth r0 (g := GG_150) rfl (k := 159) (t := (0, 0, 13, [])) rfl rfl)
  obtain ⟨x, ex, hx⟩ := iv_ex (ta := ta) (lo := 0) (hi := 2010) (z := 0 + (1 * v_iv (n_v vs 5) + 0)) (by omega) (by omega) (by decide) (by decide)
  have ex2 : v_iv (Value.int x) = 0 + (1 * v_iv (n_v vs 5) + 0) := ex
  have ex3 : 0 ≤ v_iv (Value.int x) ∧ v_iv (Value.int x) ≤ 2010 := tv_rng hx
  have e_0 : n_v (vs ++ [Value.int x]) 0 = n_v vs 0 := n_v_old (by rw [hl]; decide)
  have e_1 : n_v (vs ++ [Value.int x]) 1 = n_v vs 1 := n_v_old (by rw [hl]; decide)
  have e_2 : n_v (vs ++ [Value.int x]) 2 = n_v vs 2 := n_v_old (by rw [hl]; decide)
  have e_16 : n_v (vs ++ [Value.int x]) 16 = Value.int x := n_v_new hl
  have nf0 : fc_1 (20, [2], [50, 2, 1, 158, 157, 160, 2, 12, 0, 7, 4, 3, 2, 0, 158, 0, 1, 2, 0, 157, 2, 7, 0, 3, 2, 0, 157, 0, 2010, 3, 14, 1, 10, 3, 0, 160, 5, 3, 2, 0, 157, 0, 1, 0, 0, 1, 10, 3, 0, 160, 5, 3, 2, 0, 157, 0, 1, 0, 4]) ws (vs ++ [Value.int x]) := by
    refine ⟨fun n hn => ?_, ?_⟩
    · have hn : n ∈ [2] := hn
      rw [List.length_append, hl]
      simp only [List.mem_cons, List.not_mem_nil, or_false] at hn
      show n < 16 + 1; omega
    · show ((w_fi ws (n_v (vs ++ [Value.int x]) 2) 158 + 1) ≤ w_fi ws (n_v (vs ++ [Value.int x]) 2) 157) ∧ ((w_fi ws (n_v (vs ++ [Value.int x]) 2) 157 ≤ 2010) ∧ ((w_ei ws (w_ar ws (n_v (vs ++ [Value.int x]) 2) 160) ((w_fi ws (n_v (vs ++ [Value.int x]) 2) 157 - 1)) = 0) ∨ (w_ei ws (w_ar ws (n_v (vs ++ [Value.int x]) 2) 160) ((w_fi ws (n_v (vs ++ [Value.int x]) 2) 157 - 1)) = 4)))
      rw [e_2]
      rw [q2]
      first | omega | grind
  have nf1 : fc_1 (20, [1, 2], [30, 0, 1, 0, 0, -1, 1, 158]) ws (vs ++ [Value.int x]) := by
    refine ⟨fun n hn => ?_, ?_⟩
    · have hn : n ∈ [1, 2] := hn
      rw [List.length_append, hl]
      simp only [List.mem_cons, List.not_mem_nil, or_false] at hn
      show n < 16 + 1; omega
    · show 1 * v_iv (n_v (vs ++ [Value.int x]) 1) + ((-1) * w_fi ws (n_v (vs ++ [Value.int x]) 2) 158 + 0) ≤ 0
      rw [e_1]
      rw [e_2]
      rw [q2]
      omega
  have nf2 : fc_1 (20, [2], [30, 0, 1, 1, 159]) ws (vs ++ [Value.int x]) := by
    refine ⟨fun n hn => ?_, ?_⟩
    · have hn : n ∈ [2] := hn
      rw [List.length_append, hl]
      simp only [List.mem_cons, List.not_mem_nil, or_false] at hn
      show n < 16 + 1; omega
    · show 1 * w_fi ws (n_v (vs ++ [Value.int x]) 2) 159 + 0 ≤ 0
      rw [e_2]
      rw [q2]
      omega
  have nf3 : fc_1 (20, [2], [30, 0, -1, 1, 159]) ws (vs ++ [Value.int x]) := by
    refine ⟨fun n hn => ?_, ?_⟩
    · have hn : n ∈ [2] := hn
      rw [List.length_append, hl]
      simp only [List.mem_cons, List.not_mem_nil, or_false] at hn
      show n < 16 + 1; omega
    · show (-1) * w_fi ws (n_v (vs ++ [Value.int x]) 2) 159 + 0 ≤ 0
      rw [e_2]
      rw [q2]
      omega
  have nf4 : fc_1 (20, [16, 2], [30, -2011, -1, 0, 0, -1, 1, 158]) ws (vs ++ [Value.int x]) := by
    refine ⟨fun n hn => ?_, ?_⟩
    · have hn : n ∈ [16, 2] := hn
      rw [List.length_append, hl]
      simp only [List.mem_cons, List.not_mem_nil, or_false] at hn
      show n < 16 + 1; omega
    · show (-1) * v_iv (n_v (vs ++ [Value.int x]) 16) + ((-1) * w_fi ws (n_v (vs ++ [Value.int x]) 2) 158 + 0) ≤ (-2011)
      rw [e_2]
      rw [e_16]
      rw [q2]
      omega
  have nf5 : fc_1 (24, [0, 2], []) ws (vs ++ [Value.int x]) := by
    refine ⟨fun n hn => ?_, ?_⟩
    · have hn : n ∈ [0, 2] := hn
      rw [List.length_append, hl]
      simp only [List.mem_cons, List.not_mem_nil, or_false] at hn
      show n < 16 + 1; omega
    · show n_v (vs ++ [Value.int x]) 0 = n_v (vs ++ [Value.int x]) 2
      first | rfl | simp only [e_0, e_2, q2]
  obtain ⟨x0, e0, _, _⟩ := tv_int t5 rfl
  have e1 : v_iv (n_v vs 5) = x0.toInt := by rw [e0]; rfl
  have ho : sy_ofs (vs ++ [Value.int x]) (16, 5, 0, 0) := by
    refine ⟨x, x0, by rw [List.getElem?_append_right (by rw [hl]; decide), hl]; rfl, ?_, ?_, ?_⟩
    · rw [List.getElem?_append_left (by rw [hl]; decide)]; exact n_v_some (by rw [hl]; decide) e0
    · show x0.toInt + 0 ≤ x.toInt; omega
    · show x.toInt ≤ x0.toInt + 0; omega
  exact ⟨fun q hq => (by cases hq), [Value.int x], ag_one hx, List.forall_mem_cons.mpr ⟨⟨by decide, nf0⟩, List.forall_mem_cons.mpr ⟨⟨by decide, nf1⟩, List.forall_mem_cons.mpr ⟨⟨by decide, nf2⟩, List.forall_mem_cons.mpr ⟨⟨by decide, nf3⟩, List.forall_mem_cons.mpr ⟨⟨by decide, nf4⟩, List.forall_mem_cons.mpr ⟨⟨by decide, nf5⟩, (fun _ h => (by cases h))⟩⟩⟩⟩⟩⟩, List.forall_mem_cons.mpr ⟨ho, (fun _ h => (by cases h))⟩⟩
def o_Mo_product_at_f0_14 : or_T := (37, 12, [(0, (2, 0, 0, [150])), (1, (0, 0, 2009, [])), (2, (2, 0, 0, [150])), (4, (0, 0, 2009, [])), (5, (0, 0, 2010, [])), (7, (0, 1, 1, [])), (9, (0, 1, 1, [])), (10, (0, 1, 1, [])), (11, (0, 1, 2010, []))], [(1, [11, 4, 10], []), (9, [4, 2], [158]), (20, [9, 2], [50, 1, 1, 1158, 1160, 4, 6, 1, 2, 1, 0, 0, 1, 1, 6, 3, 1, 160, 2, 1, 158, 0, 3]), (8, [7], [1]), (20, [7, 2], [50, 1, 1, 1158, 1160, 4, 6, 1, 2, 1, 0, 0, 1, 1, 6, 3, 1, 160, 2, 1, 158, 0, 3]), (20, [2], [50, 2, 1, 158, 157, 160, 2, 12, 0, 7, 4, 3, 2, 0, 158, 0, 1, 2, 0, 157, 2, 7, 0, 3, 2, 0, 157, 0, 2010, 3, 14, 1, 10, 3, 0, 160, 5, 3, 2, 0, 157, 0, 1, 0, 0, 1, 10, 3, 0, 160, 5, 3, 2, 0, 157, 0, 1, 0, 4]), (20, [1, 2], [30, 0, 1, 0, 0, -1, 1, 158]), (20, [2], [30, 0, 1, 1, 159]), (20, [2], [30, 0, -1, 1, 159]), (24, [0, 2], []), (20, [5, 2], [30, 2010, 1, 0, 0, 1, 1, 158]), (20, [5, 2], [30, -2010, -1, 0, 0, -1, 1, 158])], [(11, (0, 1, 2009, []))], [], [], [], [(11, 4, 1, 1), (11, 1, -4294967296, 2010), (1, 4, -4294967296, 2009), (4, 1, -4294967296, 2009)])
theorem oo_Mo_product_at_f0_14 {kA : Nat → ClassId} : or_ok kA GG o_Mo_product_at_f0_14 := by
  intro A ta ws vs hD hth hl hk hds hf
  have hl : vs.length = 12 := hl
  have hk : ∀ q ∈ ([(0, (2, 0, 0, [150])), (1, (0, 0, 2009, [])), (2, (2, 0, 0, [150])), (4, (0, 0, 2009, [])), (5, (0, 0, 2010, [])), (7, (0, 1, 1, [])), (9, (0, 1, 1, [])), (10, (0, 1, 1, [])), (11, (0, 1, 2010, []))] : List (Nat × tv_T)), tv_ok ta q.2 (n_v vs q.1) := hk
  obtain ⟨t0, hk⟩ := List.forall_mem_cons.mp hk
  have t0 : tv_ok ta (2, 0, 0, [150]) (n_v vs 0) := t0
  have r0 : ta (v_ad (n_v vs 0)) = some 150 := tv_rg t0
  obtain ⟨t1, hk⟩ := List.forall_mem_cons.mp hk
  have t1 : tv_ok ta (0, 0, 2009, []) (n_v vs 1) := t1
  have k1 : 0 ≤ v_iv (n_v vs 1) ∧ v_iv (n_v vs 1) ≤ 2009 := tv_rng t1
  obtain ⟨t2, hk⟩ := List.forall_mem_cons.mp hk
  have t2 : tv_ok ta (2, 0, 0, [150]) (n_v vs 2) := t2
  have r2 : ta (v_ad (n_v vs 2)) = some 150 := tv_rg t2
  obtain ⟨t4, hk⟩ := List.forall_mem_cons.mp hk
  have t4 : tv_ok ta (0, 0, 2009, []) (n_v vs 4) := t4
  have k4 : 0 ≤ v_iv (n_v vs 4) ∧ v_iv (n_v vs 4) ≤ 2009 := tv_rng t4
  obtain ⟨t5, hk⟩ := List.forall_mem_cons.mp hk
  have t5 : tv_ok ta (0, 0, 2010, []) (n_v vs 5) := t5
  have k5 : 0 ≤ v_iv (n_v vs 5) ∧ v_iv (n_v vs 5) ≤ 2010 := tv_rng t5
  obtain ⟨t7, hk⟩ := List.forall_mem_cons.mp hk
  have t7 : tv_ok ta (0, 1, 1, []) (n_v vs 7) := t7
  have k7 : 1 ≤ v_iv (n_v vs 7) ∧ v_iv (n_v vs 7) ≤ 1 := tv_rng t7
  obtain ⟨t9, hk⟩ := List.forall_mem_cons.mp hk
  have t9 : tv_ok ta (0, 1, 1, []) (n_v vs 9) := t9
  have k9 : 1 ≤ v_iv (n_v vs 9) ∧ v_iv (n_v vs 9) ≤ 1 := tv_rng t9
  obtain ⟨t10, hk⟩ := List.forall_mem_cons.mp hk
  have t10 : tv_ok ta (0, 1, 1, []) (n_v vs 10) := t10
  have k10 : 1 ≤ v_iv (n_v vs 10) ∧ v_iv (n_v vs 10) ≤ 1 := tv_rng t10
  obtain ⟨t11, hk⟩ := List.forall_mem_cons.mp hk
  have t11 : tv_ok ta (0, 1, 2010, []) (n_v vs 11) := t11
  have k11 : 1 ≤ v_iv (n_v vs 11) ∧ v_iv (n_v vs 11) ≤ 2010 := tv_rng t11
  have hds : ∀ q ∈ ([(11, 4, 1, 1), (11, 1, -4294967296, 2010), (1, 4, -4294967296, 2009), (4, 1, -4294967296, 2009)] : List of_T), n_iv vs q.2.1 + q.2.2.1 ≤ n_iv vs q.1 ∧ n_iv vs q.1 ≤ n_iv vs q.2.1 + q.2.2.2 := hds
  obtain ⟨d0, hds⟩ := List.forall_mem_cons.mp hds
  have d0 : v_iv (n_v vs 4) + 1 ≤ v_iv (n_v vs 11) ∧ v_iv (n_v vs 11) ≤ v_iv (n_v vs 4) + 1 := d0
  obtain ⟨d1, hds⟩ := List.forall_mem_cons.mp hds
  have d1 : v_iv (n_v vs 1) + (-4294967296) ≤ v_iv (n_v vs 11) ∧ v_iv (n_v vs 11) ≤ v_iv (n_v vs 1) + 2010 := d1
  obtain ⟨d2, hds⟩ := List.forall_mem_cons.mp hds
  have d2 : v_iv (n_v vs 4) + (-4294967296) ≤ v_iv (n_v vs 1) ∧ v_iv (n_v vs 1) ≤ v_iv (n_v vs 4) + 2009 := d2
  obtain ⟨d3, hds⟩ := List.forall_mem_cons.mp hds
  have d3 : v_iv (n_v vs 1) + (-4294967296) ≤ v_iv (n_v vs 4) ∧ v_iv (n_v vs 4) ≤ v_iv (n_v vs 1) + 2009 := d3
  have hf : fc_ok [(1, [11, 4, 10], []), (9, [4, 2], [158]), (20, [9, 2], [50, 1, 1, 1158, 1160, 4, 6, 1, 2, 1, 0, 0, 1, 1, 6, 3, 1, 160, 2, 1, 158, 0, 3]), (8, [7], [1]), (20, [7, 2], [50, 1, 1, 1158, 1160, 4, 6, 1, 2, 1, 0, 0, 1, 1, 6, 3, 1, 160, 2, 1, 158, 0, 3]), (20, [2], [50, 2, 1, 158, 157, 160, 2, 12, 0, 7, 4, 3, 2, 0, 158, 0, 1, 2, 0, 157, 2, 7, 0, 3, 2, 0, 157, 0, 2010, 3, 14, 1, 10, 3, 0, 160, 5, 3, 2, 0, 157, 0, 1, 0, 0, 1, 10, 3, 0, 160, 5, 3, 2, 0, 157, 0, 1, 0, 4]), (20, [1, 2], [30, 0, 1, 0, 0, -1, 1, 158]), (20, [2], [30, 0, 1, 1, 159]), (20, [2], [30, 0, -1, 1, 159]), (24, [0, 2], []), (20, [5, 2], [30, 2010, 1, 0, 0, 1, 1, 158]), (20, [5, 2], [30, -2010, -1, 0, 0, -1, 1, 158])] ta ws vs := hf
  obtain ⟨f0, hf⟩ := fc_un (by decide) hf
  have f0 : v_iv (n_v vs 11) = v_iv (n_v vs 4) + v_iv (n_v vs 10) := f0
  obtain ⟨f1, hf⟩ := fc_un (by decide) hf
  have f1 : n_v vs 4 = w_fd ws (v_ad (n_v vs 2)) 158 := f1
  obtain ⟨f2, hf⟩ := fc_un (by decide) hf
  have f2 : (v_iv (n_v vs 9) = 1) → (w_ei ws (w_ar ws (n_v vs 2) 160) (w_fi ws (n_v vs 2) 158) = 3) := f2
  obtain ⟨f3, hf⟩ := fc_un (by decide) hf
  have f3 : v_iv (n_v vs 7) ≠ 0 := f3
  obtain ⟨f4, hf⟩ := fc_un (by decide) hf
  have f4 : (v_iv (n_v vs 7) = 1) → (w_ei ws (w_ar ws (n_v vs 2) 160) (w_fi ws (n_v vs 2) 158) = 3) := f4
  obtain ⟨f5, hf⟩ := fc_un (by decide) hf
  have f5 : ((w_fi ws (n_v vs 2) 158 + 1) ≤ w_fi ws (n_v vs 2) 157) ∧ ((w_fi ws (n_v vs 2) 157 ≤ 2010) ∧ ((w_ei ws (w_ar ws (n_v vs 2) 160) ((w_fi ws (n_v vs 2) 157 - 1)) = 0) ∨ (w_ei ws (w_ar ws (n_v vs 2) 160) ((w_fi ws (n_v vs 2) 157 - 1)) = 4))) := f5
  obtain ⟨f6, hf⟩ := fc_un (by decide) hf
  have f6 : 1 * v_iv (n_v vs 1) + ((-1) * w_fi ws (n_v vs 2) 158 + 0) ≤ 0 := f6
  obtain ⟨f7, hf⟩ := fc_un (by decide) hf
  have f7 : 1 * w_fi ws (n_v vs 2) 159 + 0 ≤ 0 := f7
  obtain ⟨f8, hf⟩ := fc_un (by decide) hf
  have f8 : (-1) * w_fi ws (n_v vs 2) 159 + 0 ≤ 0 := f8
  obtain ⟨f9, hf⟩ := fc_un (by decide) hf
  have f9 : n_v vs 0 = n_v vs 2 := f9
  obtain ⟨f10, hf⟩ := fc_un (by decide) hf
  have f10 : 1 * v_iv (n_v vs 5) + (1 * w_fi ws (n_v vs 2) 158 + 0) ≤ 2010 := f10
  obtain ⟨f11, hf⟩ := fc_un (by decide) hf
  have f11 : (-1) * v_iv (n_v vs 5) + ((-1) * w_fi ws (n_v vs 2) 158 + 0) ≤ (-2010) := f11
  have q2 : n_v vs 2 = n_v vs 0 := f9.symm
  rw [q2] at f1
  rw [q2] at f2
  rw [q2] at f4
  rw [q2] at f5
  rw [q2] at f6
  rw [q2] at f7
  rw [q2] at f8
  rw [q2] at f10
  rw [q2] at f11
  have cr_0_160 : ta (w_ar ws (n_v vs 0) 160) = some 259 := tv_rg (th_fd hD hth r0 (g := GG_150) rfl (k := 160) (t := (2, 0, 0, [259])) rfl rfl)
  have g1 : v_iv (n_v vs 4) = w_fi ws (n_v vs 0) 158 := congrArg v_iv f1
  have hK_0_160 : ∀ j : Int, 0 ≤ j → j < 2010 → 0 ≤ w_ei ws (w_ar ws (n_v vs 0) 160) j ∧ w_ei ws (w_ar ws (n_v vs 0) 160) j ≤ 4 := fun j h0 h1 => th_el hD hth cr_0_160 (kd := 0) (n := 2010) (m := 2010) (lo := 0) (hi := 4) (rs := []) (L := []) rfl (by decide) (j := j.toNat) (by omega)
  have kz_0_157 : 0 ≤ w_fi ws (n_v vs 0) 157 ∧ w_fi ws (n_v vs 0) 157 ≤ 2010 := tv_rng (th_fd hD hth r0 (g := GG_150) rfl (k := 157) (t := (0, 0, 2010, [])) rfl rfl)
  have kz_0_158 : 0 ≤ w_fi ws (n_v vs 0) 158 ∧ w_fi ws (n_v vs 0) 158 ≤ 2009 := tv_rng (th_fd hD hth r0 (g := GG_150) rfl (k := 158) (t := (0, 0, 2009, [])) rfl rfl)
  have kz_0_159 : 0 ≤ w_fi ws (n_v vs 0) 159 ∧ w_fi ws (n_v vs 0) 159 ≤ 13 := tv_rng (th_fd hD hth r0 (g := GG_150) rfl (k := 159) (t := (0, 0, 13, [])) rfl rfl)
  have rf11 : tv_ok ta (0, 1, 2009, []) (n_v vs 11) := tv_in t11 (by first | omega | grind) (by first | omega | grind)
  refine ⟨List.forall_mem_cons.mpr ⟨rf11, (fun _ h => (by cases h))⟩, [], trivial, ?_, (fun _ h => (by cases h))⟩
  rw [List.append_nil]
  exact (fun _ h => (by cases h))
def o_Mo_product_at_f0_15 : or_T := (41, 12, [(0, (2, 0, 0, [150])), (1, (0, 0, 2009, [])), (2, (2, 0, 0, [150])), (4, (0, 0, 2009, [])), (5, (0, 0, 2010, [])), (7, (0, 1, 1, [])), (9, (0, 1, 1, [])), (10, (0, 1, 1, [])), (11, (0, 1, 2009, []))], [(20, [2], [30, 0, 1, 1, 159]), (20, [2], [30, 0, -1, 1, 159]), (24, [0, 2], []), (101, [2, 11], [158]), (1, [11, 4, 10], []), (9, [4, 2], [158]), (20, [9, 2], [50, 1, 1, 1158, 1160, 4, 6, 1, 2, 1, 0, 0, 1, 1, 6, 3, 1, 160, 2, 1, 158, 0, 3]), (8, [7], [1]), (20, [7, 2], [50, 1, 1, 1158, 1160, 4, 6, 1, 2, 1, 0, 0, 1, 1, 6, 3, 1, 160, 2, 1, 158, 0, 3]), (20, [2], [50, 2, 1, 158, 157, 160, 2, 12, 0, 7, 4, 3, 2, 0, 158, 0, 1, 2, 0, 157, 2, 7, 0, 3, 2, 0, 157, 0, 2010, 3, 14, 1, 10, 3, 0, 160, 5, 3, 2, 0, 157, 0, 1, 0, 0, 1, 10, 3, 0, 160, 5, 3, 2, 0, 157, 0, 1, 0, 4]), (20, [1, 2], [30, 0, 1, 0, 0, -1, 1, 158]), (20, [2], [30, 0, 1, 1, 159]), (20, [2], [30, 0, -1, 1, 159]), (20, [5, 2], [30, 2010, 1, 0, 0, 1, 1, 158]), (20, [5, 2], [30, -2010, -1, 0, 0, -1, 1, 158])], [], [(0, 0, 2009, [])], [(20, [2], [50, 2, 1, 158, 157, 160, 2, 12, 0, 7, 4, 3, 2, 0, 158, 0, 1, 2, 0, 157, 2, 7, 0, 3, 2, 0, 157, 0, 2010, 3, 14, 1, 10, 3, 0, 160, 5, 3, 2, 0, 157, 0, 1, 0, 0, 1, 10, 3, 0, 160, 5, 3, 2, 0, 157, 0, 1, 0, 4]), (20, [2, 12], [30, 0, 1, 1, 158, -1, 0, 0]), (20, [2, 12], [30, 0, -1, 1, 158, 1, 0, 0]), (20, [2], [30, 0, 1, 1, 159]), (20, [2], [30, 0, -1, 1, 159]), (23, [1, 12], [0, 1, -1]), (23, [5, 12], [-2011, -1, -1])], [], [(11, 4, 1, 1), (11, 1, -4294967296, 2010), (1, 4, -4294967296, 2009), (4, 1, -4294967296, 2009)])
theorem oo_Mo_product_at_f0_15 {kA : Nat → ClassId} : or_ok kA GG o_Mo_product_at_f0_15 := by
  intro A ta ws vs hD hth hl hk hds hf
  have hl : vs.length = 12 := hl
  have hk : ∀ q ∈ ([(0, (2, 0, 0, [150])), (1, (0, 0, 2009, [])), (2, (2, 0, 0, [150])), (4, (0, 0, 2009, [])), (5, (0, 0, 2010, [])), (7, (0, 1, 1, [])), (9, (0, 1, 1, [])), (10, (0, 1, 1, [])), (11, (0, 1, 2009, []))] : List (Nat × tv_T)), tv_ok ta q.2 (n_v vs q.1) := hk
  obtain ⟨t0, hk⟩ := List.forall_mem_cons.mp hk
  have t0 : tv_ok ta (2, 0, 0, [150]) (n_v vs 0) := t0
  have r0 : ta (v_ad (n_v vs 0)) = some 150 := tv_rg t0
  obtain ⟨t1, hk⟩ := List.forall_mem_cons.mp hk
  have t1 : tv_ok ta (0, 0, 2009, []) (n_v vs 1) := t1
  have k1 : 0 ≤ v_iv (n_v vs 1) ∧ v_iv (n_v vs 1) ≤ 2009 := tv_rng t1
  obtain ⟨t2, hk⟩ := List.forall_mem_cons.mp hk
  have t2 : tv_ok ta (2, 0, 0, [150]) (n_v vs 2) := t2
  have r2 : ta (v_ad (n_v vs 2)) = some 150 := tv_rg t2
  obtain ⟨t4, hk⟩ := List.forall_mem_cons.mp hk
  have t4 : tv_ok ta (0, 0, 2009, []) (n_v vs 4) := t4
  have k4 : 0 ≤ v_iv (n_v vs 4) ∧ v_iv (n_v vs 4) ≤ 2009 := tv_rng t4
  obtain ⟨t5, hk⟩ := List.forall_mem_cons.mp hk
  have t5 : tv_ok ta (0, 0, 2010, []) (n_v vs 5) := t5
  have k5 : 0 ≤ v_iv (n_v vs 5) ∧ v_iv (n_v vs 5) ≤ 2010 := tv_rng t5
  obtain ⟨t7, hk⟩ := List.forall_mem_cons.mp hk
  have t7 : tv_ok ta (0, 1, 1, []) (n_v vs 7) := t7
  have k7 : 1 ≤ v_iv (n_v vs 7) ∧ v_iv (n_v vs 7) ≤ 1 := tv_rng t7
  obtain ⟨t9, hk⟩ := List.forall_mem_cons.mp hk
  have t9 : tv_ok ta (0, 1, 1, []) (n_v vs 9) := t9
  have k9 : 1 ≤ v_iv (n_v vs 9) ∧ v_iv (n_v vs 9) ≤ 1 := tv_rng t9
  obtain ⟨t10, hk⟩ := List.forall_mem_cons.mp hk
  have t10 : tv_ok ta (0, 1, 1, []) (n_v vs 10) := t10
  have k10 : 1 ≤ v_iv (n_v vs 10) ∧ v_iv (n_v vs 10) ≤ 1 := tv_rng t10
  obtain ⟨t11, hk⟩ := List.forall_mem_cons.mp hk
  have t11 : tv_ok ta (0, 1, 2009, []) (n_v vs 11) := t11
  have k11 : 1 ≤ v_iv (n_v vs 11) ∧ v_iv (n_v vs 11) ≤ 2009 := tv_rng t11
  have hds : ∀ q ∈ ([(11, 4, 1, 1), (11, 1, -4294967296, 2010), (1, 4, -4294967296, 2009), (4, 1, -4294967296, 2009)] : List of_T), n_iv vs q.2.1 + q.2.2.1 ≤ n_iv vs q.1 ∧ n_iv vs q.1 ≤ n_iv vs q.2.1 + q.2.2.2 := hds
  obtain ⟨d0, hds⟩ := List.forall_mem_cons.mp hds
  have d0 : v_iv (n_v vs 4) + 1 ≤ v_iv (n_v vs 11) ∧ v_iv (n_v vs 11) ≤ v_iv (n_v vs 4) + 1 := d0
  obtain ⟨d1, hds⟩ := List.forall_mem_cons.mp hds
  have d1 : v_iv (n_v vs 1) + (-4294967296) ≤ v_iv (n_v vs 11) ∧ v_iv (n_v vs 11) ≤ v_iv (n_v vs 1) + 2010 := d1
  obtain ⟨d2, hds⟩ := List.forall_mem_cons.mp hds
  have d2 : v_iv (n_v vs 4) + (-4294967296) ≤ v_iv (n_v vs 1) ∧ v_iv (n_v vs 1) ≤ v_iv (n_v vs 4) + 2009 := d2
  obtain ⟨d3, hds⟩ := List.forall_mem_cons.mp hds
  have d3 : v_iv (n_v vs 1) + (-4294967296) ≤ v_iv (n_v vs 4) ∧ v_iv (n_v vs 4) ≤ v_iv (n_v vs 1) + 2009 := d3
  have hf : fc_ok [(20, [2], [30, 0, 1, 1, 159]), (20, [2], [30, 0, -1, 1, 159]), (24, [0, 2], []), (101, [2, 11], [158]), (1, [11, 4, 10], []), (9, [4, 2], [158]), (20, [9, 2], [50, 1, 1, 1158, 1160, 4, 6, 1, 2, 1, 0, 0, 1, 1, 6, 3, 1, 160, 2, 1, 158, 0, 3]), (8, [7], [1]), (20, [7, 2], [50, 1, 1, 1158, 1160, 4, 6, 1, 2, 1, 0, 0, 1, 1, 6, 3, 1, 160, 2, 1, 158, 0, 3]), (20, [2], [50, 2, 1, 158, 157, 160, 2, 12, 0, 7, 4, 3, 2, 0, 158, 0, 1, 2, 0, 157, 2, 7, 0, 3, 2, 0, 157, 0, 2010, 3, 14, 1, 10, 3, 0, 160, 5, 3, 2, 0, 157, 0, 1, 0, 0, 1, 10, 3, 0, 160, 5, 3, 2, 0, 157, 0, 1, 0, 4]), (20, [1, 2], [30, 0, 1, 0, 0, -1, 1, 158]), (20, [2], [30, 0, 1, 1, 159]), (20, [2], [30, 0, -1, 1, 159]), (20, [5, 2], [30, 2010, 1, 0, 0, 1, 1, 158]), (20, [5, 2], [30, -2010, -1, 0, 0, -1, 1, 158])] ta ws vs := hf
  obtain ⟨f0, hf⟩ := fc_un (by decide) hf
  have f0 : 1 * w_fi ws (n_v vs 2) 159 + 0 ≤ 0 := f0
  obtain ⟨f1, hf⟩ := fc_un (by decide) hf
  have f1 : (-1) * w_fi ws (n_v vs 2) 159 + 0 ≤ 0 := f1
  obtain ⟨f2, hf⟩ := fc_un (by decide) hf
  have f2 : n_v vs 0 = n_v vs 2 := f2
  obtain ⟨ta1, w1, le1, ⟨_, s1⟩, hf⟩ := fc_us (by decide) hf
  have s1 : (∀ b j, w_el ws b j = w_el w1 b j) ∧ ∀ b j, w_fd ws b j = if b = v_ad (n_v vs 2) ∧ j = 158 then n_v vs 11 else w_fd w1 b j := s1
  obtain ⟨f4, hf⟩ := fc_un (by decide) hf
  have f4 : v_iv (n_v vs 11) = v_iv (n_v vs 4) + v_iv (n_v vs 10) := f4
  obtain ⟨f5, hf⟩ := fc_un (by decide) hf
  have f5 : n_v vs 4 = w_fd w1 (v_ad (n_v vs 2)) 158 := f5
  obtain ⟨f6, hf⟩ := fc_un (by decide) hf
  have f6 : (v_iv (n_v vs 9) = 1) → (w_ei w1 (w_ar w1 (n_v vs 2) 160) (w_fi w1 (n_v vs 2) 158) = 3) := f6
  obtain ⟨f7, hf⟩ := fc_un (by decide) hf
  have f7 : v_iv (n_v vs 7) ≠ 0 := f7
  obtain ⟨f8, hf⟩ := fc_un (by decide) hf
  have f8 : (v_iv (n_v vs 7) = 1) → (w_ei w1 (w_ar w1 (n_v vs 2) 160) (w_fi w1 (n_v vs 2) 158) = 3) := f8
  obtain ⟨f9, hf⟩ := fc_un (by decide) hf
  have f9 : ((w_fi w1 (n_v vs 2) 158 + 1) ≤ w_fi w1 (n_v vs 2) 157) ∧ ((w_fi w1 (n_v vs 2) 157 ≤ 2010) ∧ ((w_ei w1 (w_ar w1 (n_v vs 2) 160) ((w_fi w1 (n_v vs 2) 157 - 1)) = 0) ∨ (w_ei w1 (w_ar w1 (n_v vs 2) 160) ((w_fi w1 (n_v vs 2) 157 - 1)) = 4))) := f9
  obtain ⟨f10, hf⟩ := fc_un (by decide) hf
  have f10 : 1 * v_iv (n_v vs 1) + ((-1) * w_fi w1 (n_v vs 2) 158 + 0) ≤ 0 := f10
  obtain ⟨f11, hf⟩ := fc_un (by decide) hf
  have f11 : 1 * w_fi w1 (n_v vs 2) 159 + 0 ≤ 0 := f11
  obtain ⟨f12, hf⟩ := fc_un (by decide) hf
  have f12 : (-1) * w_fi w1 (n_v vs 2) 159 + 0 ≤ 0 := f12
  obtain ⟨f13, hf⟩ := fc_un (by decide) hf
  have f13 : 1 * v_iv (n_v vs 5) + (1 * w_fi w1 (n_v vs 2) 158 + 0) ≤ 2010 := f13
  obtain ⟨f14, hf⟩ := fc_un (by decide) hf
  have f14 : (-1) * v_iv (n_v vs 5) + ((-1) * w_fi w1 (n_v vs 2) 158 + 0) ≤ (-2010) := f14
  have q2 : n_v vs 2 = n_v vs 0 := f2.symm
  rw [q2] at f0
  rw [q2] at f1
  rw [q2] at s1
  rw [q2] at f5
  rw [q2] at f6
  rw [q2] at f8
  rw [q2] at f9
  rw [q2] at f10
  rw [q2] at f11
  rw [q2] at f12
  rw [q2] at f13
  rw [q2] at f14
  have ar_0_160_1 : w_ar w1 (n_v vs 0) 160 = w_ar ws (n_v vs 0) 160 := by show v_ad (w_fd w1 _ _) = v_ad (w_fd ws _ _); rw [s1.2, if_neg (fun e => absurd e.2 (by decide))]
  have cr_0_160 : ta (w_ar ws (n_v vs 0) 160) = some 259 := tv_rg (th_fd hD hth r0 (g := GG_150) rfl (k := 160) (t := (2, 0, 0, [259])) rfl rfl)
  have g5 : v_iv (n_v vs 4) = w_fi w1 (n_v vs 0) 158 := congrArg v_iv f5
  rw [ar_0_160_1] at f6
  rw [ar_0_160_1] at f8
  rw [ar_0_160_1] at f9
  have fe_0_157_1 : w_fi ws (n_v vs 0) 157 = w_fi w1 (n_v vs 0) 157 := by show v_iv (w_fd _ _ _) = v_iv (w_fd _ _ _); rw [s1.2, if_neg (fun e => absurd e.2 (by decide))]
  have fe_0_158_1 : w_fi ws (n_v vs 0) 158 = v_iv (n_v vs 11) := by show v_iv (w_fd _ _ _) = _; rw [s1.2, if_pos ⟨rfl, rfl⟩]
  have fe_0_159_1 : w_fi ws (n_v vs 0) 159 = w_fi w1 (n_v vs 0) 159 := by show v_iv (w_fd _ _ _) = v_iv (w_fd _ _ _); rw [s1.2, if_neg (fun e => absurd e.2 (by decide))]
  have hE_0_160_1 : ∀ j : Int, w_ei ws (w_ar ws (n_v vs 0) 160) j = w_ei w1 (w_ar ws (n_v vs 0) 160) j := fun j => s1.1 _ _
  have hK_0_160 : ∀ j : Int, 0 ≤ j → j < 2010 → 0 ≤ w_ei ws (w_ar ws (n_v vs 0) 160) j ∧ w_ei ws (w_ar ws (n_v vs 0) 160) j ≤ 4 := fun j h0 h1 => th_el hD hth cr_0_160 (kd := 0) (n := 2010) (m := 2010) (lo := 0) (hi := 4) (rs := []) (L := []) rfl (by decide) (j := j.toNat) (by omega)
  have kz_0_157 : 0 ≤ w_fi ws (n_v vs 0) 157 ∧ w_fi ws (n_v vs 0) 157 ≤ 2010 := tv_rng (th_fd hD hth r0 (g := GG_150) rfl (k := 157) (t := (0, 0, 2010, [])) rfl rfl)
  have kz_0_158 : 0 ≤ w_fi ws (n_v vs 0) 158 ∧ w_fi ws (n_v vs 0) 158 ≤ 2009 := tv_rng (th_fd hD hth r0 (g := GG_150) rfl (k := 158) (t := (0, 0, 2009, [])) rfl rfl)
  have kz_0_159 : 0 ≤ w_fi ws (n_v vs 0) 159 ∧ w_fi ws (n_v vs 0) 159 ≤ 13 := tv_rng (th_fd hD hth r0 (g := GG_150) rfl (k := 159) (t := (0, 0, 13, [])) rfl rfl)
  have kv : 0 ≤ w_fi ws (n_v vs 0) 158 ∧ w_fi ws (n_v vs 0) 158 ≤ 2009 := tv_rng (th_fd hD hth r0 (g := GG_150) rfl (k := 158) (t := (0, 0, 2009, [])) rfl rfl)
  obtain ⟨x, ex, hx⟩ := iv_ex (ta := ta) (lo := 0) (hi := 2009) (z := w_fi ws (n_v vs 0) 158) (by omega) (by omega) (by decide) (by decide)
  have ex2 : v_iv (Value.int x) = w_fi ws (n_v vs 0) 158 := ex
  have ex3 : 0 ≤ v_iv (Value.int x) ∧ v_iv (Value.int x) ≤ 2009 := tv_rng hx
  have e_1 : n_v (vs ++ [Value.int x]) 1 = n_v vs 1 := n_v_old (by rw [hl]; decide)
  have e_2 : n_v (vs ++ [Value.int x]) 2 = n_v vs 2 := n_v_old (by rw [hl]; decide)
  have e_5 : n_v (vs ++ [Value.int x]) 5 = n_v vs 5 := n_v_old (by rw [hl]; decide)
  have e_12 : n_v (vs ++ [Value.int x]) 12 = Value.int x := n_v_new hl
  have nf0 : fc_1 (20, [2], [50, 2, 1, 158, 157, 160, 2, 12, 0, 7, 4, 3, 2, 0, 158, 0, 1, 2, 0, 157, 2, 7, 0, 3, 2, 0, 157, 0, 2010, 3, 14, 1, 10, 3, 0, 160, 5, 3, 2, 0, 157, 0, 1, 0, 0, 1, 10, 3, 0, 160, 5, 3, 2, 0, 157, 0, 1, 0, 4]) ws (vs ++ [Value.int x]) := by
    refine ⟨fun n hn => ?_, ?_⟩
    · have hn : n ∈ [2] := hn
      rw [List.length_append, hl]
      simp only [List.mem_cons, List.not_mem_nil, or_false] at hn
      show n < 12 + 1; omega
    · show ((w_fi ws (n_v (vs ++ [Value.int x]) 2) 158 + 1) ≤ w_fi ws (n_v (vs ++ [Value.int x]) 2) 157) ∧ ((w_fi ws (n_v (vs ++ [Value.int x]) 2) 157 ≤ 2010) ∧ ((w_ei ws (w_ar ws (n_v (vs ++ [Value.int x]) 2) 160) ((w_fi ws (n_v (vs ++ [Value.int x]) 2) 157 - 1)) = 0) ∨ (w_ei ws (w_ar ws (n_v (vs ++ [Value.int x]) 2) 160) ((w_fi ws (n_v (vs ++ [Value.int x]) 2) 157 - 1)) = 4)))
      rw [e_2]
      rw [q2]
      first | omega | grind
  have nf1 : fc_1 (20, [2, 12], [30, 0, 1, 1, 158, -1, 0, 0]) ws (vs ++ [Value.int x]) := by
    refine ⟨fun n hn => ?_, ?_⟩
    · have hn : n ∈ [2, 12] := hn
      rw [List.length_append, hl]
      simp only [List.mem_cons, List.not_mem_nil, or_false] at hn
      show n < 12 + 1; omega
    · show 1 * w_fi ws (n_v (vs ++ [Value.int x]) 2) 158 + ((-1) * v_iv (n_v (vs ++ [Value.int x]) 12) + 0) ≤ 0
      rw [e_2]
      rw [e_12]
      rw [q2]
      omega
  have nf2 : fc_1 (20, [2, 12], [30, 0, -1, 1, 158, 1, 0, 0]) ws (vs ++ [Value.int x]) := by
    refine ⟨fun n hn => ?_, ?_⟩
    · have hn : n ∈ [2, 12] := hn
      rw [List.length_append, hl]
      simp only [List.mem_cons, List.not_mem_nil, or_false] at hn
      show n < 12 + 1; omega
    · show (-1) * w_fi ws (n_v (vs ++ [Value.int x]) 2) 158 + (1 * v_iv (n_v (vs ++ [Value.int x]) 12) + 0) ≤ 0
      rw [e_2]
      rw [e_12]
      rw [q2]
      omega
  have nf3 : fc_1 (20, [2], [30, 0, 1, 1, 159]) ws (vs ++ [Value.int x]) := by
    refine ⟨fun n hn => ?_, ?_⟩
    · have hn : n ∈ [2] := hn
      rw [List.length_append, hl]
      simp only [List.mem_cons, List.not_mem_nil, or_false] at hn
      show n < 12 + 1; omega
    · show 1 * w_fi ws (n_v (vs ++ [Value.int x]) 2) 159 + 0 ≤ 0
      rw [e_2]
      rw [q2]
      omega
  have nf4 : fc_1 (20, [2], [30, 0, -1, 1, 159]) ws (vs ++ [Value.int x]) := by
    refine ⟨fun n hn => ?_, ?_⟩
    · have hn : n ∈ [2] := hn
      rw [List.length_append, hl]
      simp only [List.mem_cons, List.not_mem_nil, or_false] at hn
      show n < 12 + 1; omega
    · show (-1) * w_fi ws (n_v (vs ++ [Value.int x]) 2) 159 + 0 ≤ 0
      rw [e_2]
      rw [q2]
      omega
  have nf5 : fc_1 (23, [1, 12], [0, 1, -1]) ws (vs ++ [Value.int x]) := by
    refine ⟨fun n hn => ?_, ?_⟩
    · have hn : n ∈ [1, 12] := hn
      rw [List.length_append, hl]
      simp only [List.mem_cons, List.not_mem_nil, or_false] at hn
      show n < 12 + 1; omega
    · show 1 * v_iv (n_v (vs ++ [Value.int x]) 1) + ((-1) * v_iv (n_v (vs ++ [Value.int x]) 12) + 0) ≤ 0
      rw [e_1]
      rw [e_12]
      omega
  have nf6 : fc_1 (23, [5, 12], [-2011, -1, -1]) ws (vs ++ [Value.int x]) := by
    refine ⟨fun n hn => ?_, ?_⟩
    · have hn : n ∈ [5, 12] := hn
      rw [List.length_append, hl]
      simp only [List.mem_cons, List.not_mem_nil, or_false] at hn
      show n < 12 + 1; omega
    · show (-1) * v_iv (n_v (vs ++ [Value.int x]) 5) + ((-1) * v_iv (n_v (vs ++ [Value.int x]) 12) + 0) ≤ (-2011)
      rw [e_5]
      rw [e_12]
      omega
  exact ⟨fun q hq => (by cases hq), [Value.int x], ag_one hx, List.forall_mem_cons.mpr ⟨⟨by decide, nf0⟩, List.forall_mem_cons.mpr ⟨⟨by decide, nf1⟩, List.forall_mem_cons.mpr ⟨⟨by decide, nf2⟩, List.forall_mem_cons.mpr ⟨⟨by decide, nf3⟩, List.forall_mem_cons.mpr ⟨⟨by decide, nf4⟩, List.forall_mem_cons.mpr ⟨⟨by decide, nf5⟩, List.forall_mem_cons.mpr ⟨⟨by decide, nf6⟩, (fun _ h => (by cases h))⟩⟩⟩⟩⟩⟩⟩, (fun _ h => (by cases h))⟩
def o_Mo_product_at_f0_16 : or_T := (74, 15, [(0, (2, 0, 0, [150])), (1, (0, 0, 2009, [])), (2, (2, 0, 0, [150])), (4, (0, 0, 2009, [])), (5, (0, 0, 2010, [])), (10, (0, 1, 1, [])), (11, (0, 1, 2009, [])), (12, (0, 0, 2009, []))], [(23, [1, 12], [0, 1, -1]), (23, [5, 12], [-2011, -1, -1]), (24, [0, 2], []), (20, [2], [50, 2, 1, 158, 157, 160, 2, 12, 0, 7, 4, 3, 2, 0, 158, 0, 1, 2, 0, 157, 2, 7, 0, 3, 2, 0, 157, 0, 2010, 3, 14, 1, 10, 3, 0, 160, 5, 3, 2, 0, 157, 0, 1, 0, 0, 1, 10, 3, 0, 160, 5, 3, 2, 0, 157, 0, 1, 0, 4]), (20, [12, 2], [30, 0, 1, 0, 0, -1, 1, 158]), (20, [2], [30, 0, 1, 1, 159]), (20, [2], [30, 0, -1, 1, 159]), (102, [12], [0, 13008, 13009, 13158, 13159]), (23, [1, 12], [0, 1, -1]), (23, [5, 12], [-2011, -1, -1]), (101, [2, 11], [158]), (1, [11, 4, 10], [])], [], [(0, 0, 2010, [])], [(20, [2], [50, 2, 1, 158, 157, 160, 2, 12, 0, 7, 4, 3, 2, 0, 158, 0, 1, 2, 0, 157, 2, 7, 0, 3, 2, 0, 157, 0, 2010, 3, 14, 1, 10, 3, 0, 160, 5, 3, 2, 0, 157, 0, 1, 0, 0, 1, 10, 3, 0, 160, 5, 3, 2, 0, 157, 0, 1, 0, 4]), (20, [1, 2], [30, 0, 1, 0, 0, -1, 1, 158]), (20, [2], [30, 0, 1, 1, 159]), (20, [2], [30, 0, -1, 1, 159]), (20, [15, 2], [30, -2011, -1, 0, 0, -1, 1, 158]), (24, [0, 2], [])], [(15, 5, 0, 0)], [(11, 4, 1, 1), (11, 1, -4294967296, 2010), (1, 4, -4294967296, 2009), (4, 1, -4294967296, 2009)])
theorem oo_Mo_product_at_f0_16 {kA : Nat → ClassId} : or_ok kA GG o_Mo_product_at_f0_16 := by
  intro A ta ws vs hD hth hl hk hds hf
  have hl : vs.length = 15 := hl
  have hk : ∀ q ∈ ([(0, (2, 0, 0, [150])), (1, (0, 0, 2009, [])), (2, (2, 0, 0, [150])), (4, (0, 0, 2009, [])), (5, (0, 0, 2010, [])), (10, (0, 1, 1, [])), (11, (0, 1, 2009, [])), (12, (0, 0, 2009, []))] : List (Nat × tv_T)), tv_ok ta q.2 (n_v vs q.1) := hk
  obtain ⟨t0, hk⟩ := List.forall_mem_cons.mp hk
  have t0 : tv_ok ta (2, 0, 0, [150]) (n_v vs 0) := t0
  have r0 : ta (v_ad (n_v vs 0)) = some 150 := tv_rg t0
  obtain ⟨t1, hk⟩ := List.forall_mem_cons.mp hk
  have t1 : tv_ok ta (0, 0, 2009, []) (n_v vs 1) := t1
  have k1 : 0 ≤ v_iv (n_v vs 1) ∧ v_iv (n_v vs 1) ≤ 2009 := tv_rng t1
  obtain ⟨t2, hk⟩ := List.forall_mem_cons.mp hk
  have t2 : tv_ok ta (2, 0, 0, [150]) (n_v vs 2) := t2
  have r2 : ta (v_ad (n_v vs 2)) = some 150 := tv_rg t2
  obtain ⟨t4, hk⟩ := List.forall_mem_cons.mp hk
  have t4 : tv_ok ta (0, 0, 2009, []) (n_v vs 4) := t4
  have k4 : 0 ≤ v_iv (n_v vs 4) ∧ v_iv (n_v vs 4) ≤ 2009 := tv_rng t4
  obtain ⟨t5, hk⟩ := List.forall_mem_cons.mp hk
  have t5 : tv_ok ta (0, 0, 2010, []) (n_v vs 5) := t5
  have k5 : 0 ≤ v_iv (n_v vs 5) ∧ v_iv (n_v vs 5) ≤ 2010 := tv_rng t5
  obtain ⟨t10, hk⟩ := List.forall_mem_cons.mp hk
  have t10 : tv_ok ta (0, 1, 1, []) (n_v vs 10) := t10
  have k10 : 1 ≤ v_iv (n_v vs 10) ∧ v_iv (n_v vs 10) ≤ 1 := tv_rng t10
  obtain ⟨t11, hk⟩ := List.forall_mem_cons.mp hk
  have t11 : tv_ok ta (0, 1, 2009, []) (n_v vs 11) := t11
  have k11 : 1 ≤ v_iv (n_v vs 11) ∧ v_iv (n_v vs 11) ≤ 2009 := tv_rng t11
  obtain ⟨t12, hk⟩ := List.forall_mem_cons.mp hk
  have t12 : tv_ok ta (0, 0, 2009, []) (n_v vs 12) := t12
  have k12 : 0 ≤ v_iv (n_v vs 12) ∧ v_iv (n_v vs 12) ≤ 2009 := tv_rng t12
  have hds : ∀ q ∈ ([(11, 4, 1, 1), (11, 1, -4294967296, 2010), (1, 4, -4294967296, 2009), (4, 1, -4294967296, 2009)] : List of_T), n_iv vs q.2.1 + q.2.2.1 ≤ n_iv vs q.1 ∧ n_iv vs q.1 ≤ n_iv vs q.2.1 + q.2.2.2 := hds
  obtain ⟨d0, hds⟩ := List.forall_mem_cons.mp hds
  have d0 : v_iv (n_v vs 4) + 1 ≤ v_iv (n_v vs 11) ∧ v_iv (n_v vs 11) ≤ v_iv (n_v vs 4) + 1 := d0
  obtain ⟨d1, hds⟩ := List.forall_mem_cons.mp hds
  have d1 : v_iv (n_v vs 1) + (-4294967296) ≤ v_iv (n_v vs 11) ∧ v_iv (n_v vs 11) ≤ v_iv (n_v vs 1) + 2010 := d1
  obtain ⟨d2, hds⟩ := List.forall_mem_cons.mp hds
  have d2 : v_iv (n_v vs 4) + (-4294967296) ≤ v_iv (n_v vs 1) ∧ v_iv (n_v vs 1) ≤ v_iv (n_v vs 4) + 2009 := d2
  obtain ⟨d3, hds⟩ := List.forall_mem_cons.mp hds
  have d3 : v_iv (n_v vs 1) + (-4294967296) ≤ v_iv (n_v vs 4) ∧ v_iv (n_v vs 4) ≤ v_iv (n_v vs 1) + 2009 := d3
  have hf : fc_ok [(23, [1, 12], [0, 1, -1]), (23, [5, 12], [-2011, -1, -1]), (24, [0, 2], []), (20, [2], [50, 2, 1, 158, 157, 160, 2, 12, 0, 7, 4, 3, 2, 0, 158, 0, 1, 2, 0, 157, 2, 7, 0, 3, 2, 0, 157, 0, 2010, 3, 14, 1, 10, 3, 0, 160, 5, 3, 2, 0, 157, 0, 1, 0, 0, 1, 10, 3, 0, 160, 5, 3, 2, 0, 157, 0, 1, 0, 4]), (20, [12, 2], [30, 0, 1, 0, 0, -1, 1, 158]), (20, [2], [30, 0, 1, 1, 159]), (20, [2], [30, 0, -1, 1, 159]), (102, [12], [0, 13008, 13009, 13158, 13159]), (23, [1, 12], [0, 1, -1]), (23, [5, 12], [-2011, -1, -1]), (101, [2, 11], [158]), (1, [11, 4, 10], [])] ta ws vs := hf
  obtain ⟨f0, hf⟩ := fc_un (by decide) hf
  have f0 : 1 * v_iv (n_v vs 1) + ((-1) * v_iv (n_v vs 12) + 0) ≤ 0 := f0
  obtain ⟨f1, hf⟩ := fc_un (by decide) hf
  have f1 : (-1) * v_iv (n_v vs 5) + ((-1) * v_iv (n_v vs 12) + 0) ≤ (-2011) := f1
  obtain ⟨f2, hf⟩ := fc_un (by decide) hf
  have f2 : n_v vs 0 = n_v vs 2 := f2
  obtain ⟨f3, hf⟩ := fc_un (by decide) hf
  have f3 : ((w_fi ws (n_v vs 2) 158 + 1) ≤ w_fi ws (n_v vs 2) 157) ∧ ((w_fi ws (n_v vs 2) 157 ≤ 2010) ∧ ((w_ei ws (w_ar ws (n_v vs 2) 160) ((w_fi ws (n_v vs 2) 157 - 1)) = 0) ∨ (w_ei ws (w_ar ws (n_v vs 2) 160) ((w_fi ws (n_v vs 2) 157 - 1)) = 4))) := f3
  obtain ⟨f4, hf⟩ := fc_un (by decide) hf
  have f4 : 1 * v_iv (n_v vs 12) + ((-1) * w_fi ws (n_v vs 2) 158 + 0) ≤ 0 := f4
  obtain ⟨f5, hf⟩ := fc_un (by decide) hf
  have f5 : 1 * w_fi ws (n_v vs 2) 159 + 0 ≤ 0 := f5
  obtain ⟨f6, hf⟩ := fc_un (by decide) hf
  have f6 : (-1) * w_fi ws (n_v vs 2) 159 + 0 ≤ 0 := f6
  obtain ⟨ta1, w1, le1, ⟨_, s1⟩, hf⟩ := fc_us (by decide) hf
  obtain ⟨f8, hf⟩ := fc_un (by decide) hf
  have f8 : 1 * v_iv (n_v vs 1) + ((-1) * v_iv (n_v vs 12) + 0) ≤ 0 := f8
  obtain ⟨f9, hf⟩ := fc_un (by decide) hf
  have f9 : (-1) * v_iv (n_v vs 5) + ((-1) * v_iv (n_v vs 12) + 0) ≤ (-2011) := f9
  obtain ⟨ta2, w2, le2, ⟨_, s2⟩, hf⟩ := fc_us (by decide) hf
  have s2 : (∀ b j, w_el w1 b j = w_el w2 b j) ∧ ∀ b j, w_fd w1 b j = if b = v_ad (n_v vs 2) ∧ j = 158 then n_v vs 11 else w_fd w2 b j := s2
  obtain ⟨f11, hf⟩ := fc_un (by decide) hf
  have f11 : v_iv (n_v vs 11) = v_iv (n_v vs 4) + v_iv (n_v vs 10) := f11
  have q2 : n_v vs 2 = n_v vs 0 := f2.symm
  rw [q2] at f3
  rw [q2] at f4
  rw [q2] at f5
  rw [q2] at f6
  rw [q2] at s2
  have cr_0_160 : ta (w_ar ws (n_v vs 0) 160) = some 259 := tv_rg (th_fd hD hth r0 (g := GG_150) rfl (k := 160) (t := (2, 0, 0, [259])) rfl rfl)
  have hK_0_160 : ∀ j : Int, 0 ≤ j → j < 2010 → 0 ≤ w_ei ws (w_ar ws (n_v vs 0) 160) j ∧ w_ei ws (w_ar ws (n_v vs 0) 160) j ≤ 4 := fun j h0 h1 => th_el hD hth cr_0_160 (kd := 0) (n := 2010) (m := 2010) (lo := 0) (hi := 4) (rs := []) (L := []) rfl (by decide) (j := j.toNat) (by omega)
  have kz_0_157 : 0 ≤ w_fi ws (n_v vs 0) 157 ∧ w_fi ws (n_v vs 0) 157 ≤ 2010 := tv_rng (th_fd hD hth r0 (g := GG_150) rfl (k := 157) (t := (0, 0, 2010, [])) rfl rfl)
  have kz_0_158 : 0 ≤ w_fi ws (n_v vs 0) 158 ∧ w_fi ws (n_v vs 0) 158 ≤ 2009 := tv_rng (th_fd hD hth r0 (g := GG_150) rfl (k := 158) (t := (0, 0, 2009, [])) rfl rfl)
  have kz_0_159 : 0 ≤ w_fi ws (n_v vs 0) 159 ∧ w_fi ws (n_v vs 0) 159 ≤ 13 := tv_rng (th_fd hD hth r0 (g := GG_150) rfl (k := 159) (t := (0, 0, 13, [])) rfl rfl)
  obtain ⟨x, ex, hx⟩ := iv_ex (ta := ta) (lo := 0) (hi := 2010) (z := 0 + (1 * v_iv (n_v vs 5) + 0)) (by omega) (by omega) (by decide) (by decide)
  have ex2 : v_iv (Value.int x) = 0 + (1 * v_iv (n_v vs 5) + 0) := ex
  have ex3 : 0 ≤ v_iv (Value.int x) ∧ v_iv (Value.int x) ≤ 2010 := tv_rng hx
  have e_0 : n_v (vs ++ [Value.int x]) 0 = n_v vs 0 := n_v_old (by rw [hl]; decide)
  have e_1 : n_v (vs ++ [Value.int x]) 1 = n_v vs 1 := n_v_old (by rw [hl]; decide)
  have e_2 : n_v (vs ++ [Value.int x]) 2 = n_v vs 2 := n_v_old (by rw [hl]; decide)
  have e_15 : n_v (vs ++ [Value.int x]) 15 = Value.int x := n_v_new hl
  have nf0 : fc_1 (20, [2], [50, 2, 1, 158, 157, 160, 2, 12, 0, 7, 4, 3, 2, 0, 158, 0, 1, 2, 0, 157, 2, 7, 0, 3, 2, 0, 157, 0, 2010, 3, 14, 1, 10, 3, 0, 160, 5, 3, 2, 0, 157, 0, 1, 0, 0, 1, 10, 3, 0, 160, 5, 3, 2, 0, 157, 0, 1, 0, 4]) ws (vs ++ [Value.int x]) := by
    refine ⟨fun n hn => ?_, ?_⟩
    · have hn : n ∈ [2] := hn
      rw [List.length_append, hl]
      simp only [List.mem_cons, List.not_mem_nil, or_false] at hn
      show n < 15 + 1; omega
    · show ((w_fi ws (n_v (vs ++ [Value.int x]) 2) 158 + 1) ≤ w_fi ws (n_v (vs ++ [Value.int x]) 2) 157) ∧ ((w_fi ws (n_v (vs ++ [Value.int x]) 2) 157 ≤ 2010) ∧ ((w_ei ws (w_ar ws (n_v (vs ++ [Value.int x]) 2) 160) ((w_fi ws (n_v (vs ++ [Value.int x]) 2) 157 - 1)) = 0) ∨ (w_ei ws (w_ar ws (n_v (vs ++ [Value.int x]) 2) 160) ((w_fi ws (n_v (vs ++ [Value.int x]) 2) 157 - 1)) = 4)))
      rw [e_2]
      rw [q2]
      first | omega | grind
  have nf1 : fc_1 (20, [1, 2], [30, 0, 1, 0, 0, -1, 1, 158]) ws (vs ++ [Value.int x]) := by
    refine ⟨fun n hn => ?_, ?_⟩
    · have hn : n ∈ [1, 2] := hn
      rw [List.length_append, hl]
      simp only [List.mem_cons, List.not_mem_nil, or_false] at hn
      show n < 15 + 1; omega
    · show 1 * v_iv (n_v (vs ++ [Value.int x]) 1) + ((-1) * w_fi ws (n_v (vs ++ [Value.int x]) 2) 158 + 0) ≤ 0
      rw [e_1]
      rw [e_2]
      rw [q2]
      omega
  have nf2 : fc_1 (20, [2], [30, 0, 1, 1, 159]) ws (vs ++ [Value.int x]) := by
    refine ⟨fun n hn => ?_, ?_⟩
    · have hn : n ∈ [2] := hn
      rw [List.length_append, hl]
      simp only [List.mem_cons, List.not_mem_nil, or_false] at hn
      show n < 15 + 1; omega
    · show 1 * w_fi ws (n_v (vs ++ [Value.int x]) 2) 159 + 0 ≤ 0
      rw [e_2]
      rw [q2]
      omega
  have nf3 : fc_1 (20, [2], [30, 0, -1, 1, 159]) ws (vs ++ [Value.int x]) := by
    refine ⟨fun n hn => ?_, ?_⟩
    · have hn : n ∈ [2] := hn
      rw [List.length_append, hl]
      simp only [List.mem_cons, List.not_mem_nil, or_false] at hn
      show n < 15 + 1; omega
    · show (-1) * w_fi ws (n_v (vs ++ [Value.int x]) 2) 159 + 0 ≤ 0
      rw [e_2]
      rw [q2]
      omega
  have nf4 : fc_1 (20, [15, 2], [30, -2011, -1, 0, 0, -1, 1, 158]) ws (vs ++ [Value.int x]) := by
    refine ⟨fun n hn => ?_, ?_⟩
    · have hn : n ∈ [15, 2] := hn
      rw [List.length_append, hl]
      simp only [List.mem_cons, List.not_mem_nil, or_false] at hn
      show n < 15 + 1; omega
    · show (-1) * v_iv (n_v (vs ++ [Value.int x]) 15) + ((-1) * w_fi ws (n_v (vs ++ [Value.int x]) 2) 158 + 0) ≤ (-2011)
      rw [e_2]
      rw [e_15]
      rw [q2]
      omega
  have nf5 : fc_1 (24, [0, 2], []) ws (vs ++ [Value.int x]) := by
    refine ⟨fun n hn => ?_, ?_⟩
    · have hn : n ∈ [0, 2] := hn
      rw [List.length_append, hl]
      simp only [List.mem_cons, List.not_mem_nil, or_false] at hn
      show n < 15 + 1; omega
    · show n_v (vs ++ [Value.int x]) 0 = n_v (vs ++ [Value.int x]) 2
      first | rfl | simp only [e_0, e_2, q2]
  obtain ⟨x0, e0, _, _⟩ := tv_int t5 rfl
  have e1 : v_iv (n_v vs 5) = x0.toInt := by rw [e0]; rfl
  have ho : sy_ofs (vs ++ [Value.int x]) (15, 5, 0, 0) := by
    refine ⟨x, x0, by rw [List.getElem?_append_right (by rw [hl]; decide), hl]; rfl, ?_, ?_, ?_⟩
    · rw [List.getElem?_append_left (by rw [hl]; decide)]; exact n_v_some (by rw [hl]; decide) e0
    · show x0.toInt + 0 ≤ x.toInt; omega
    · show x.toInt ≤ x0.toInt + 0; omega
  exact ⟨fun q hq => (by cases hq), [Value.int x], ag_one hx, List.forall_mem_cons.mpr ⟨⟨by decide, nf0⟩, List.forall_mem_cons.mpr ⟨⟨by decide, nf1⟩, List.forall_mem_cons.mpr ⟨⟨by decide, nf2⟩, List.forall_mem_cons.mpr ⟨⟨by decide, nf3⟩, List.forall_mem_cons.mpr ⟨⟨by decide, nf4⟩, List.forall_mem_cons.mpr ⟨⟨by decide, nf5⟩, (fun _ h => (by cases h))⟩⟩⟩⟩⟩⟩, List.forall_mem_cons.mpr ⟨ho, (fun _ h => (by cases h))⟩⟩
def o_Mo_product_at_f0_17 : or_T := (5, 8, [(0, (2, 0, 0, [150])), (1, (0, 0, 2009, [])), (2, (2, 0, 0, [150])), (7, (0, 0, 2010, []))], [(20, [2], [50, 2, 1, 158, 157, 160, 2, 12, 0, 7, 4, 3, 2, 0, 158, 0, 1, 2, 0, 157, 2, 7, 0, 3, 2, 0, 157, 0, 2010, 3, 14, 1, 10, 3, 0, 160, 5, 3, 2, 0, 157, 0, 1, 0, 0, 1, 10, 3, 0, 160, 5, 3, 2, 0, 157, 0, 1, 0, 4]), (20, [1, 2], [30, 0, 1, 0, 0, -1, 1, 158]), (20, [2], [30, 0, 1, 1, 159]), (20, [2], [30, 0, -1, 1, 159]), (20, [7, 2], [30, -2011, -1, 0, 0, -1, 1, 158]), (24, [0, 2], [])], [], [(0, 0, 2010, [])], [(20, [2], [50, 2, 1, 158, 157, 160, 2, 12, 0, 7, 4, 3, 2, 0, 158, 0, 1, 2, 0, 157, 2, 7, 0, 3, 2, 0, 157, 0, 2010, 3, 14, 1, 10, 3, 0, 160, 5, 3, 2, 0, 157, 0, 1, 0, 0, 1, 10, 3, 0, 160, 5, 3, 2, 0, 157, 0, 1, 0, 4]), (20, [1, 2], [30, 0, 1, 0, 0, -1, 1, 158]), (20, [2], [30, 0, 1, 1, 159]), (20, [2], [30, 0, -1, 1, 159]), (24, [0, 2], []), (20, [8, 2], [30, 2010, 1, 0, 0, 1, 1, 158]), (20, [8, 2], [30, -2010, -1, 0, 0, -1, 1, 158])], [(8, 7, -1000000000000, -1)], [])
theorem oo_Mo_product_at_f0_17 {kA : Nat → ClassId} : or_ok kA GG o_Mo_product_at_f0_17 := by
  intro A ta ws vs hD hth hl hk hds hf
  have hl : vs.length = 8 := hl
  have hk : ∀ q ∈ ([(0, (2, 0, 0, [150])), (1, (0, 0, 2009, [])), (2, (2, 0, 0, [150])), (7, (0, 0, 2010, []))] : List (Nat × tv_T)), tv_ok ta q.2 (n_v vs q.1) := hk
  obtain ⟨t0, hk⟩ := List.forall_mem_cons.mp hk
  have t0 : tv_ok ta (2, 0, 0, [150]) (n_v vs 0) := t0
  have r0 : ta (v_ad (n_v vs 0)) = some 150 := tv_rg t0
  obtain ⟨t1, hk⟩ := List.forall_mem_cons.mp hk
  have t1 : tv_ok ta (0, 0, 2009, []) (n_v vs 1) := t1
  have k1 : 0 ≤ v_iv (n_v vs 1) ∧ v_iv (n_v vs 1) ≤ 2009 := tv_rng t1
  obtain ⟨t2, hk⟩ := List.forall_mem_cons.mp hk
  have t2 : tv_ok ta (2, 0, 0, [150]) (n_v vs 2) := t2
  have r2 : ta (v_ad (n_v vs 2)) = some 150 := tv_rg t2
  obtain ⟨t7, hk⟩ := List.forall_mem_cons.mp hk
  have t7 : tv_ok ta (0, 0, 2010, []) (n_v vs 7) := t7
  have k7 : 0 ≤ v_iv (n_v vs 7) ∧ v_iv (n_v vs 7) ≤ 2010 := tv_rng t7
  have hf : fc_ok [(20, [2], [50, 2, 1, 158, 157, 160, 2, 12, 0, 7, 4, 3, 2, 0, 158, 0, 1, 2, 0, 157, 2, 7, 0, 3, 2, 0, 157, 0, 2010, 3, 14, 1, 10, 3, 0, 160, 5, 3, 2, 0, 157, 0, 1, 0, 0, 1, 10, 3, 0, 160, 5, 3, 2, 0, 157, 0, 1, 0, 4]), (20, [1, 2], [30, 0, 1, 0, 0, -1, 1, 158]), (20, [2], [30, 0, 1, 1, 159]), (20, [2], [30, 0, -1, 1, 159]), (20, [7, 2], [30, -2011, -1, 0, 0, -1, 1, 158]), (24, [0, 2], [])] ta ws vs := hf
  obtain ⟨f0, hf⟩ := fc_un (by decide) hf
  have f0 : ((w_fi ws (n_v vs 2) 158 + 1) ≤ w_fi ws (n_v vs 2) 157) ∧ ((w_fi ws (n_v vs 2) 157 ≤ 2010) ∧ ((w_ei ws (w_ar ws (n_v vs 2) 160) ((w_fi ws (n_v vs 2) 157 - 1)) = 0) ∨ (w_ei ws (w_ar ws (n_v vs 2) 160) ((w_fi ws (n_v vs 2) 157 - 1)) = 4))) := f0
  obtain ⟨f1, hf⟩ := fc_un (by decide) hf
  have f1 : 1 * v_iv (n_v vs 1) + ((-1) * w_fi ws (n_v vs 2) 158 + 0) ≤ 0 := f1
  obtain ⟨f2, hf⟩ := fc_un (by decide) hf
  have f2 : 1 * w_fi ws (n_v vs 2) 159 + 0 ≤ 0 := f2
  obtain ⟨f3, hf⟩ := fc_un (by decide) hf
  have f3 : (-1) * w_fi ws (n_v vs 2) 159 + 0 ≤ 0 := f3
  obtain ⟨f4, hf⟩ := fc_un (by decide) hf
  have f4 : (-1) * v_iv (n_v vs 7) + ((-1) * w_fi ws (n_v vs 2) 158 + 0) ≤ (-2011) := f4
  obtain ⟨f5, hf⟩ := fc_un (by decide) hf
  have f5 : n_v vs 0 = n_v vs 2 := f5
  have q2 : n_v vs 2 = n_v vs 0 := f5.symm
  rw [q2] at f0
  rw [q2] at f1
  rw [q2] at f2
  rw [q2] at f3
  rw [q2] at f4
  have cr_0_160 : ta (w_ar ws (n_v vs 0) 160) = some 259 := tv_rg (th_fd hD hth r0 (g := GG_150) rfl (k := 160) (t := (2, 0, 0, [259])) rfl rfl)
  have hK_0_160 : ∀ j : Int, 0 ≤ j → j < 2010 → 0 ≤ w_ei ws (w_ar ws (n_v vs 0) 160) j ∧ w_ei ws (w_ar ws (n_v vs 0) 160) j ≤ 4 := fun j h0 h1 => th_el hD hth cr_0_160 (kd := 0) (n := 2010) (m := 2010) (lo := 0) (hi := 4) (rs := []) (L := []) rfl (by decide) (j := j.toNat) (by omega)
  have kz_0_157 : 0 ≤ w_fi ws (n_v vs 0) 157 ∧ w_fi ws (n_v vs 0) 157 ≤ 2010 := tv_rng (th_fd hD hth r0 (g := GG_150) rfl (k := 157) (t := (0, 0, 2010, [])) rfl rfl)
  have kz_0_158 : 0 ≤ w_fi ws (n_v vs 0) 158 ∧ w_fi ws (n_v vs 0) 158 ≤ 2009 := tv_rng (th_fd hD hth r0 (g := GG_150) rfl (k := 158) (t := (0, 0, 2009, [])) rfl rfl)
  have kz_0_159 : 0 ≤ w_fi ws (n_v vs 0) 159 ∧ w_fi ws (n_v vs 0) 159 ≤ 13 := tv_rng (th_fd hD hth r0 (g := GG_150) rfl (k := 159) (t := (0, 0, 13, [])) rfl rfl)
  have kb_0_158 : 0 ≤ w_fi ws (n_v vs 0) 158 ∧ w_fi ws (n_v vs 0) 158 ≤ 2009 := tv_rng (th_fd hD hth r0 (g := GG_150) rfl (k := 158) (t := (0, 0, 2009, [])) rfl rfl)
  obtain ⟨x, ex, hx⟩ := iv_ex (ta := ta) (lo := 0) (hi := 2010) (z := 2010 + ((-1) * w_fi ws (n_v vs 0) 158 + 0)) (by omega) (by omega) (by decide) (by decide)
  have ex2 : v_iv (Value.int x) = 2010 + ((-1) * w_fi ws (n_v vs 0) 158 + 0) := ex
  have ex3 : 0 ≤ v_iv (Value.int x) ∧ v_iv (Value.int x) ≤ 2010 := tv_rng hx
  have e_0 : n_v (vs ++ [Value.int x]) 0 = n_v vs 0 := n_v_old (by rw [hl]; decide)
  have e_1 : n_v (vs ++ [Value.int x]) 1 = n_v vs 1 := n_v_old (by rw [hl]; decide)
  have e_2 : n_v (vs ++ [Value.int x]) 2 = n_v vs 2 := n_v_old (by rw [hl]; decide)
  have e_8 : n_v (vs ++ [Value.int x]) 8 = Value.int x := n_v_new hl
  have nf0 : fc_1 (20, [2], [50, 2, 1, 158, 157, 160, 2, 12, 0, 7, 4, 3, 2, 0, 158, 0, 1, 2, 0, 157, 2, 7, 0, 3, 2, 0, 157, 0, 2010, 3, 14, 1, 10, 3, 0, 160, 5, 3, 2, 0, 157, 0, 1, 0, 0, 1, 10, 3, 0, 160, 5, 3, 2, 0, 157, 0, 1, 0, 4]) ws (vs ++ [Value.int x]) := by
    refine ⟨fun n hn => ?_, ?_⟩
    · have hn : n ∈ [2] := hn
      rw [List.length_append, hl]
      simp only [List.mem_cons, List.not_mem_nil, or_false] at hn
      show n < 8 + 1; omega
    · show ((w_fi ws (n_v (vs ++ [Value.int x]) 2) 158 + 1) ≤ w_fi ws (n_v (vs ++ [Value.int x]) 2) 157) ∧ ((w_fi ws (n_v (vs ++ [Value.int x]) 2) 157 ≤ 2010) ∧ ((w_ei ws (w_ar ws (n_v (vs ++ [Value.int x]) 2) 160) ((w_fi ws (n_v (vs ++ [Value.int x]) 2) 157 - 1)) = 0) ∨ (w_ei ws (w_ar ws (n_v (vs ++ [Value.int x]) 2) 160) ((w_fi ws (n_v (vs ++ [Value.int x]) 2) 157 - 1)) = 4)))
      rw [e_2]
      rw [q2]
      first | omega | grind
  have nf1 : fc_1 (20, [1, 2], [30, 0, 1, 0, 0, -1, 1, 158]) ws (vs ++ [Value.int x]) := by
    refine ⟨fun n hn => ?_, ?_⟩
    · have hn : n ∈ [1, 2] := hn
      rw [List.length_append, hl]
      simp only [List.mem_cons, List.not_mem_nil, or_false] at hn
      show n < 8 + 1; omega
    · show 1 * v_iv (n_v (vs ++ [Value.int x]) 1) + ((-1) * w_fi ws (n_v (vs ++ [Value.int x]) 2) 158 + 0) ≤ 0
      rw [e_1]
      rw [e_2]
      rw [q2]
      omega
  have nf2 : fc_1 (20, [2], [30, 0, 1, 1, 159]) ws (vs ++ [Value.int x]) := by
    refine ⟨fun n hn => ?_, ?_⟩
    · have hn : n ∈ [2] := hn
      rw [List.length_append, hl]
      simp only [List.mem_cons, List.not_mem_nil, or_false] at hn
      show n < 8 + 1; omega
    · show 1 * w_fi ws (n_v (vs ++ [Value.int x]) 2) 159 + 0 ≤ 0
      rw [e_2]
      rw [q2]
      omega
  have nf3 : fc_1 (20, [2], [30, 0, -1, 1, 159]) ws (vs ++ [Value.int x]) := by
    refine ⟨fun n hn => ?_, ?_⟩
    · have hn : n ∈ [2] := hn
      rw [List.length_append, hl]
      simp only [List.mem_cons, List.not_mem_nil, or_false] at hn
      show n < 8 + 1; omega
    · show (-1) * w_fi ws (n_v (vs ++ [Value.int x]) 2) 159 + 0 ≤ 0
      rw [e_2]
      rw [q2]
      omega
  have nf4 : fc_1 (24, [0, 2], []) ws (vs ++ [Value.int x]) := by
    refine ⟨fun n hn => ?_, ?_⟩
    · have hn : n ∈ [0, 2] := hn
      rw [List.length_append, hl]
      simp only [List.mem_cons, List.not_mem_nil, or_false] at hn
      show n < 8 + 1; omega
    · show n_v (vs ++ [Value.int x]) 0 = n_v (vs ++ [Value.int x]) 2
      first | rfl | simp only [e_0, e_2, q2]
  have nf5 : fc_1 (20, [8, 2], [30, 2010, 1, 0, 0, 1, 1, 158]) ws (vs ++ [Value.int x]) := by
    refine ⟨fun n hn => ?_, ?_⟩
    · have hn : n ∈ [8, 2] := hn
      rw [List.length_append, hl]
      simp only [List.mem_cons, List.not_mem_nil, or_false] at hn
      show n < 8 + 1; omega
    · show 1 * v_iv (n_v (vs ++ [Value.int x]) 8) + (1 * w_fi ws (n_v (vs ++ [Value.int x]) 2) 158 + 0) ≤ 2010
      rw [e_2]
      rw [e_8]
      rw [q2]
      omega
  have nf6 : fc_1 (20, [8, 2], [30, -2010, -1, 0, 0, -1, 1, 158]) ws (vs ++ [Value.int x]) := by
    refine ⟨fun n hn => ?_, ?_⟩
    · have hn : n ∈ [8, 2] := hn
      rw [List.length_append, hl]
      simp only [List.mem_cons, List.not_mem_nil, or_false] at hn
      show n < 8 + 1; omega
    · show (-1) * v_iv (n_v (vs ++ [Value.int x]) 8) + ((-1) * w_fi ws (n_v (vs ++ [Value.int x]) 2) 158 + 0) ≤ (-2010)
      rw [e_2]
      rw [e_8]
      rw [q2]
      omega
  obtain ⟨x0, e0, _, _⟩ := tv_int t7 rfl
  have e1 : v_iv (n_v vs 7) = x0.toInt := by rw [e0]; rfl
  have ho : sy_ofs (vs ++ [Value.int x]) (8, 7, -1000000000000, -1) := by
    refine ⟨x, x0, by rw [List.getElem?_append_right (by rw [hl]; decide), hl]; rfl, ?_, ?_, ?_⟩
    · rw [List.getElem?_append_left (by rw [hl]; decide)]; exact n_v_some (by rw [hl]; decide) e0
    · show x0.toInt + (-1000000000000) ≤ x.toInt; omega
    · show x.toInt ≤ x0.toInt + (-1); omega
  exact ⟨fun q hq => (by cases hq), [Value.int x], ag_one hx, List.forall_mem_cons.mpr ⟨⟨by decide, nf0⟩, List.forall_mem_cons.mpr ⟨⟨by decide, nf1⟩, List.forall_mem_cons.mpr ⟨⟨by decide, nf2⟩, List.forall_mem_cons.mpr ⟨⟨by decide, nf3⟩, List.forall_mem_cons.mpr ⟨⟨by decide, nf4⟩, List.forall_mem_cons.mpr ⟨⟨by decide, nf5⟩, List.forall_mem_cons.mpr ⟨⟨by decide, nf6⟩, (fun _ h => (by cases h))⟩⟩⟩⟩⟩⟩⟩, List.forall_mem_cons.mpr ⟨ho, (fun _ h => (by cases h))⟩⟩
def n_Mo_product_at_f0_an : List an_T := [(5, [(0, (2, 0, 0, [150])), (1, (1, -9223372036854775808, 9223372036854775807, []))], [], (0, 0), [(0, 0, 99995), (2, 5, 0), (0, 0, 100000)], [(1, 4, -1000000000000, 2009), (4, 1, -1000000000000, 2009)], [((0, 158), (0, 0, 2009, []))], [(2, 0, 0, [150]), (0, 0, 2009, [])], 0, [(0, 0, 2010, [])], [(20, [2], [50, 2, 1, 158, 157, 160, 2, 12, 0, 7, 4, 3, 2, 0, 158, 0, 1, 2, 0, 157, 2, 7, 0, 3, 2, 0, 157, 0, 2010, 3, 14, 1, 10, 3, 0, 160, 5, 3, 2, 0, 157, 0, 1, 0, 0, 1, 10, 3, 0, 160, 5, 3, 2, 0, 157, 0, 1, 0, 4]), (20, [1, 2], [30, 0, 1, 0, 0, -1, 1, 158]), (20, [2], [30, 0, 1, 1, 159]), (20, [2], [30, 0, -1, 1, 159]), (24, [0, 2], []), (20, [5, 2], [30, 2010, 1, 0, 0, 1, 1, 158]), (20, [5, 2], [30, -2010, -1, 0, 0, -1, 1, 158])]), (74, [(0, (2, 0, 0, [150])), (1, (1, -9223372036854775808, 9223372036854775807, [])), (3, (0, 0, 1, [])), (4, (1, -9223372036854775808, 9223372036854775807, []))], [(1, -9223372036854775808, 9223372036854775807, [])], (0, 0), [(0, 0, 99995), (2, 7, 0), (0, 0, 99926)], [(1, 4, -1000000000000, 2009), (4, 1, -1000000000000, 1)], [], [(2, 0, 0, [150]), (0, 0, 2009, [])], 0, [(0, 0, 2010, [])], [(20, [2], [50, 2, 1, 158, 157, 160, 2, 12, 0, 7, 4, 3, 2, 0, 158, 0, 1, 2, 0, 157, 2, 7, 0, 3, 2, 0, 157, 0, 2010, 3, 14, 1, 10, 3, 0, 160, 5, 3, 2, 0, 157, 0, 1, 0, 0, 1, 10, 3, 0, 160, 5, 3, 2, 0, 157, 0, 1, 0, 4]), (20, [1, 2], [30, 0, 1, 0, 0, -1, 1, 158]), (20, [2], [30, 0, 1, 1, 159]), (20, [2], [30, 0, -1, 1, 159]), (20, [7, 2], [30, -2011, -1, 0, 0, -1, 1, 158]), (24, [0, 2], [])])]
def t_Mo_product_at_f0_ct : ct_L := [(1, 1172, e_Mo_styleSign), (7, 1238, e_Mo_styleValue_at_f0), (127, 1238, e_Mo_styleValue_at_f0), (216, 1005, e_jMath_floorDiv2_v19)]
set_option maxRecDepth 100000 in
theorem c_Mo_product_at_f0 {l : Launch} {D : va_G} {kA : Nat → ClassId} (h_Mo_styleSign : ct_ok l D kA GG y_Mo_styleSign z_Mo_styleSign e_Mo_styleSign) (h_Mo_styleValue_at_f0 : ct_ok l D kA GG y_Mo_styleValue_at_f0 z_Mo_styleValue_at_f0 e_Mo_styleValue_at_f0) : ct_ok l D kA GG y_Mo_product_at_f0 z_Mo_product_at_f0 e_Mo_product_at_f0 := chk_all_ok (FT := [(1169, 13, 158)]) (PT := [(1169, 13, 158, .int)]) (CT := t_Mo_product_at_f0_ct) (KT := []) (NT := []) (AN := n_Mo_product_at_f0_an) (OT := [o_Mo_product_at_f0_0, o_Mo_product_at_f0_1, o_Mo_product_at_f0_2, o_Mo_product_at_f0_3, o_Mo_product_at_f0_4, o_Mo_product_at_f0_5, o_Mo_product_at_f0_6, o_Mo_product_at_f0_7, o_Mo_product_at_f0_8, o_Mo_product_at_f0_9, o_Mo_product_at_f0_10, o_Mo_product_at_f0_11, o_Mo_product_at_f0_12, o_Mo_product_at_f0_13, o_Mo_product_at_f0_14, o_Mo_product_at_f0_15, o_Mo_product_at_f0_16, o_Mo_product_at_f0_17]) 3 380 (List.forall_mem_cons.mpr ⟨oo_Mo_product_at_f0_0, List.forall_mem_cons.mpr ⟨oo_Mo_product_at_f0_1, List.forall_mem_cons.mpr ⟨oo_Mo_product_at_f0_2, List.forall_mem_cons.mpr ⟨oo_Mo_product_at_f0_3, List.forall_mem_cons.mpr ⟨oo_Mo_product_at_f0_4, List.forall_mem_cons.mpr ⟨oo_Mo_product_at_f0_5, List.forall_mem_cons.mpr ⟨oo_Mo_product_at_f0_6, List.forall_mem_cons.mpr ⟨oo_Mo_product_at_f0_7, List.forall_mem_cons.mpr ⟨oo_Mo_product_at_f0_8, List.forall_mem_cons.mpr ⟨oo_Mo_product_at_f0_9, List.forall_mem_cons.mpr ⟨oo_Mo_product_at_f0_10, List.forall_mem_cons.mpr ⟨oo_Mo_product_at_f0_11, List.forall_mem_cons.mpr ⟨oo_Mo_product_at_f0_12, List.forall_mem_cons.mpr ⟨oo_Mo_product_at_f0_13, List.forall_mem_cons.mpr ⟨oo_Mo_product_at_f0_14, List.forall_mem_cons.mpr ⟨oo_Mo_product_at_f0_15, List.forall_mem_cons.mpr ⟨oo_Mo_product_at_f0_16, List.forall_mem_cons.mpr ⟨oo_Mo_product_at_f0_17, List.forall_mem_nil _⟩⟩⟩⟩⟩⟩⟩⟩⟩⟩⟩⟩⟩⟩⟩⟩⟩⟩) (by decide +kernel) ⟨List.forall_mem_cons.mpr ⟨gf_Mo_1169, List.forall_mem_nil _⟩, List.forall_mem_cons.mpr ⟨pf_Mo_1169, List.forall_mem_nil _⟩, List.forall_mem_cons.mpr ⟨cl_virtual (y := y_Mo_styleSign) (ci := 13) rfl rfl ⟨_, _, rfl⟩ (by decide +kernel) h_Mo_styleSign wm_3832 wm_9 wm_3829 wm_3831 wv_23_11 ⟨by decide, by decide, by decide +kernel⟩ (by decide), List.forall_mem_cons.mpr ⟨cl_virtual (y := y_Mo_styleValue_at_f0) (ci := 13) rfl rfl ⟨_, _, rfl⟩ (by decide +kernel) h_Mo_styleValue_at_f0 wm_3848 wm_9 wm_3845 wm_3847 wv_23_15 ⟨by decide, by decide, by decide +kernel⟩ (by decide), List.forall_mem_cons.mpr ⟨cl_virtual (y := y_Mo_styleValue_at_f0) (ci := 13) rfl rfl ⟨_, _, rfl⟩ (by decide +kernel) h_Mo_styleValue_at_f0 wm_3848 wm_9 wm_3845 wm_3847 wv_23_15 ⟨by decide, by decide, by decide +kernel⟩ (by decide), List.forall_mem_cons.mpr ⟨cl_static (y := y_jMath_floorDiv2) c_jMath_floorDiv2_v19 wm_1800 wm_10 wm_3636 wm_1799 ⟨by decide, by decide, by decide +kernel⟩ (by decide), List.forall_mem_nil _⟩⟩⟩⟩, List.forall_mem_nil _, List.forall_mem_nil _, GG_pl⟩ (by decide +kernel)
