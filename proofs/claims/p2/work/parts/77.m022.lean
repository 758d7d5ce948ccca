theorem oo_Mo_styleTokens_26 {kA : Nat → ClassId} : or_ok PRD kA GG o_Mo_styleTokens_26 := by
  refine or_mk fun A ta ws vs hD hth hl => ?_
  intro t0 r0 t2 r2 t6 k6 t9 k9 t10 k10 t11 k11 t13 k13 t14 k14 t15 k15 d0 d1 f0 f1 f2 f3 f4 f5 f6 f7
  replace f0 := shm_24 f0
  replace f1 := shm_14 f1
  replace f2 := shm_117 f2
  replace f3 := shm_535 f3
  replace f4 := shm_536 f4
  replace f5 := shm_1295 f5
  replace f6 := shm_1293 f6
  replace f7 := shm_5 f7
  have q2 : n_v vs 2 = n_v vs 0 := f7.symm
  simp only [q2] at f2 f3 f4 f5
  have cr_0_1 := fdq_46 hD hth r0
  have g2 : v_iv (n_v vs 9) = w_fi ws (n_v vs 0) 11 := congrArg v_iv f2
  have hK_0_1 := elq_6 hD hth cr_0_1
  have kz_0_10 := fdq_50 hD hth r0
  have kz_0_11 := fdq_273 hD hth r0
  have kz_0_157 := fdq_42 hD hth r0
  obtain ⟨x, ex, hx⟩ := iv_ex (ta := ta) (lo := 0) (hi := 4001) (z := 0 + (1 * v_iv (n_v vs 10) + 0)) (by omega) (by omega) (by omega) (by omega)
  have ex2 : v_iv (Value.int x) = 0 + (1 * v_iv (n_v vs 10) + 0) := ex
  have ex3 : 0 ≤ v_iv (Value.int x) ∧ v_iv (Value.int x) ≤ 4001 := tv_rng hx
  have e_0 : n_v (vs ++ [Value.int x]) 0 = n_v vs 0 := n_v_old (by rw [hl]; decide)
  have e_2 : n_v (vs ++ [Value.int x]) 2 = n_v vs 2 := n_v_old (by rw [hl]; decide)
  have e_6 : n_v (vs ++ [Value.int x]) 6 = n_v vs 6 := n_v_old (by rw [hl]; decide)
  have e_15 : n_v (vs ++ [Value.int x]) 15 = n_v vs 15 := n_v_old (by rw [hl]; decide)
  have e_16 : n_v (vs ++ [Value.int x]) 16 = Value.int x := n_v_new hl
  have nf0 : fc_1 PRD (20, [2, 6, 15], [50, 2, 0, 157, 11, 2, 7, 0, 3, 2, 0, 157, 1, 1, 2, 7, 0, 2, 1, 1, 2, 0, 11, 3, 6, 1, 2, 1, 2, 0, 0, 3, 6, 1, 2, 1, 2, 0, 4, 0, 6, 4, 2, 1, 1, 0, 1, 2, 0, 11]) ws (vs ++ [Value.int x]) := by
    refine ⟨nf_inA hl rfl, sgq_1292 ?_⟩
    · show (w_fi ws (n_v (vs ++ [Value.int x]) 2) 157 ≤ v_iv (n_v (vs ++ [Value.int x]) 6)) ∧ ((v_iv (n_v (vs ++ [Value.int x]) 6) ≤ w_fi ws (n_v (vs ++ [Value.int x]) 2) 11) ∧ ((v_iv (n_v (vs ++ [Value.int x]) 15) = 0) ∨ ((v_iv (n_v (vs ++ [Value.int x]) 15) = 4) ∨ ((v_iv (n_v (vs ++ [Value.int x]) 6) + 1) ≤ w_fi ws (n_v (vs ++ [Value.int x]) 2) 11))))
      simp only [e_2, e_6, e_15, q2]
      exact vc_Mo_styleTokens_26_0 (v_iv (n_v vs 6)) (v_iv (n_v vs 9)) (v_iv (n_v vs 11)) (v_iv (n_v vs 15)) (w_fi ws (n_v vs 0) 11) (w_ei ws (w_ar ws (n_v vs 0) 1)) (w_fi ws (n_v vs 0) 10) (w_fi ws (n_v vs 0) 157) k6 k9 k11 k15 d1 g2 f3 f5 kz_0_10 kz_0_11 kz_0_157
  have nf1 : fc_1 PRD (20, [16, 6], [30, -4001, -1, 0, 0, -2, 0, 0]) ws (vs ++ [Value.int x]) := by
    refine ⟨nf_inA hl rfl, sgq_1293 ?_⟩
    · show (-1) * v_iv (n_v (vs ++ [Value.int x]) 16) + ((-2) * v_iv (n_v (vs ++ [Value.int x]) 6) + 0) ≤ (-4001)
      simp only [e_6, e_16]
      exact vc_Mo_styleTokens_26_1 (v_iv (n_v vs 6)) (v_iv (n_v vs 9)) (v_iv (n_v vs 10)) (v_iv (n_v vs 13)) (w_fi ws (n_v vs 0) 11) (v_iv (Value.int x)) k6 k9 k10 k13 f1 g2 f6 kz_0_11 ex2
  have nf2 : fc_1 PRD (24, [0, 2], []) ws (vs ++ [Value.int x]) := by
    refine ⟨nf_inA hl rfl, sgq_5 ?_⟩
    · show n_v (vs ++ [Value.int x]) 0 = n_v (vs ++ [Value.int x]) 2
      first | rfl | simp only [e_0, e_2, q2]
  obtain ⟨x0, e0, _, _⟩ := tv_int t10 rfl
  have e1 : v_iv (n_v vs 10) = x0.toInt := by rw [e0]; rfl
  have ho : sy_ofs (vs ++ [Value.int x]) (16, 10, 0, 0) := by
    refine ⟨x, x0, by rw [List.getElem?_append_right (by rw [hl]; decide), hl]; rfl, ?_, ?_, ?_⟩
    · rw [List.getElem?_append_left (by rw [hl]; decide)]; exact n_v_some (by rw [hl]; decide) e0
    · show x0.toInt + 0 ≤ x.toInt; omega
    · show x.toInt ≤ x0.toInt + 0; omega
  exact ⟨(fun _ h => (by cases h)), [Value.int x], ag_one hx, List.forall_mem_cons.mpr ⟨⟨show (20 : Nat) < 100 from by decide, nf0⟩, List.forall_mem_cons.mpr ⟨⟨show (20 : Nat) < 100 from by decide, nf1⟩, List.forall_mem_cons.mpr ⟨⟨show (24 : Nat) < 100 from by decide, nf2⟩, (fun _ h => (by cases h))⟩⟩⟩, List.forall_mem_cons.mpr ⟨ho, (fun _ h => (by cases h))⟩⟩
set_option maxHeartbeats 4000000 in
theorem vc_Mo_styleTokens_27_0 (x6 : Int) (x9 : Int) (x13 : Int) (x15 : Int) (pos_0 : Int) (tape_0 : Int → Int) (limit_0 : Int) (tokens_0 : Int) (k6 : 0 ≤ x6 ∧ x6 ≤ 1999) (k9 : 5 ≤ x9 ∧ x9 ≤ 1999) (k13 : 5 ≤ x13 ∧ x13 ≤ 1999) (k15 : 4 ≤ x15 ∧ x15 ≤ 4) (f1 : x13 = x9 - x6) (g2 : x9 = pos_0) (f5 : (tokens_0 ≤ x6) ∧ ((x6 ≤ pos_0) ∧ (((x6 + 1) ≤ pos_0) ∨ ((pos_0 = x6) ∧ (((x6 + 1) ≤ limit_0) ∧ ((48 ≤ (tape_0 (x6) % 256)) ∧ ((tape_0 (x6) % 256) ≤ 57))))))) (kz_0_10 : 0 ≤ limit_0 ∧ limit_0 ≤ 2000) (kz_0_11 : 0 ≤ pos_0 ∧ pos_0 ≤ 2000) (kz_0_157 : 0 ≤ tokens_0 ∧ tokens_0 ≤ 2010) : (tokens_0 ≤ x6) ∧ ((x6 ≤ pos_0) ∧ ((x15 = 0) ∨ ((x15 = 4) ∨ ((x6 + 1) ≤ pos_0)))) := by
  first | assumption | omega | grind
set_option maxHeartbeats 4000000 in
theorem vc_Mo_styleTokens_27_1 (x6 : Int) (x9 : Int) (x10 : Int) (x13 : Int) (pos_0 : Int) (gx : Int) (k6 : 0 ≤ x6 ∧ x6 ≤ 1999) (k9 : 5 ≤ x9 ∧ x9 ≤ 1999) (k10 : 0 ≤ x10 ∧ x10 ≤ 4001) (k13 : 5 ≤ x13 ∧ x13 ≤ 1999) (f1 : x13 = x9 - x6) (g2 : x9 = pos_0) (f6 : (-1) * x10 + ((-2) * x6 + 0) ≤ (-4001)) (kz_0_11 : 0 ≤ pos_0 ∧ pos_0 ≤ 2000) (ex2 : gx = 0 + (1 * x10 + 0)) : (-1) * gx + ((-2) * x6 + 0) ≤ (-4001) := by
  first | assumption | omega | grind
def o_Mo_styleTokens_27 : or_T := (363, 16, [(0, (2, 0, 0, [165])), (2, (2, 0, 0, [165])), (6, (0, 0, 1999, [])), (9, (0, 5, 1999, [])), (10, (0, 0, 4001, [])), (11, (0, 58, 255, [])), (13, (0, 5, 1999, [])), (14, (0, 4, 4, [])), (15, (0, 4, 4, []))], [(7, [13, 14], [4]), (2, [13, 9, 6], []), (9, [9, 2], [11]), (20, [9, 2, 11], [50, 1, 1, 1010, 1001, 4, 11, 0, 6, 4, 2, 1, 0, 0, 1, 2, 1, 10, 1, 2, 1, 2, 9, 5, 3, 1, 1, 1, 0, 0, 256]), (20, [2, 9, 11], [50, 1, 0, 10, 4, 7, 0, 3, 2, 0, 10, 1, 1, 1, 2, 1, 2, 0, -1]), (20, [2, 6], [50, 3, 1, 157, 11, 10, 1, 2, 7, 0, 3, 2, 0, 157, 1, 1, 2, 7, 0, 2, 1, 1, 2, 0, 11, 3, 11, 0, 6, 4, 2, 1, 1, 0, 1, 2, 0, 11, 2, 7, 1, 3, 2, 0, 11, 1, 1, 2, 11, 0, 6, 4, 2, 1, 1, 0, 1, 2, 0, 10, 2, 13, 0, 2, 0, 48, 9, 5, 3, 0, 1, 1, 1, 0, 256, 0, 9, 9, 5, 3, 0, 1, 1, 1, 0, 256, 0, 57]), (20, [10, 6], [30, -4001, -1, 0, 0, -2, 0, 0]), (24, [0, 2], [])], [], [(0, 0, 4001, [])], [(20, [2, 6, 15], [50, 2, 0, 157, 11, 2, 7, 0, 3, 2, 0, 157, 1, 1, 2, 7, 0, 2, 1, 1, 2, 0, 11, 3, 6, 1, 2, 1, 2, 0, 0, 3, 6, 1, 2, 1, 2, 0, 4, 0, 6, 4, 2, 1, 1, 0, 1, 2, 0, 11]), (20, [16, 6], [30, -4001, -1, 0, 0, -2, 0, 0]), (24, [0, 2], [])], [(16, 10, 0, 0)], [(13, 9, -1999, 0), (6, 9, -4294967296, 0)])
theorem oo_Mo_styleTokens_27 {kA : Nat → ClassId} : or_ok PRD kA GG o_Mo_styleTokens_27 := by
  refine or_mk fun A ta ws vs hD hth hl => ?_
  intro t0 r0 t2 r2 t6 k6 t9 k9 t10 k10 t11 k11 t13 k13 t14 k14 t15 k15 d0 d1 f0 f1 f2 f3 f4 f5 f6 f7
  replace f0 := shm_21 f0
  replace f1 := shm_14 f1
  replace f2 := shm_117 f2
  replace f3 := shm_535 f3
  replace f4 := shm_536 f4
  replace f5 := shm_1295 f5
  replace f6 := shm_1293 f6
  replace f7 := shm_5 f7
  have q2 : n_v vs 2 = n_v vs 0 := f7.symm
  simp only [q2] at f2 f3 f4 f5
  have cr_0_1 := fdq_46 hD hth r0
  have g2 : v_iv (n_v vs 9) = w_fi ws (n_v vs 0) 11 := congrArg v_iv f2
  have hK_0_1 := elq_6 hD hth cr_0_1
  have kz_0_10 := fdq_50 hD hth r0
  have kz_0_11 := fdq_273 hD hth r0
  have kz_0_157 := fdq_42 hD hth r0
  obtain ⟨x, ex, hx⟩ := iv_ex (ta := ta) (lo := 0) (hi := 4001) (z := 0 + (1 * v_iv (n_v vs 10) + 0)) (by omega) (by omega) (by omega) (by omega)
  have ex2 : v_iv (Value.int x) = 0 + (1 * v_iv (n_v vs 10) + 0) := ex
  have ex3 : 0 ≤ v_iv (Value.int x) ∧ v_iv (Value.int x) ≤ 4001 := tv_rng hx
  have e_0 : n_v (vs ++ [Value.int x]) 0 = n_v vs 0 := n_v_old (by rw [hl]; decide)
  have e_2 : n_v (vs ++ [Value.int x]) 2 = n_v vs 2 := n_v_old (by rw [hl]; decide)
  have e_6 : n_v (vs ++ [Value.int x]) 6 = n_v vs 6 := n_v_old (by rw [hl]; decide)
  have e_15 : n_v (vs ++ [Value.int x]) 15 = n_v vs 15 := n_v_old (by rw [hl]; decide)
  have e_16 : n_v (vs ++ [Value.int x]) 16 = Value.int x := n_v_new hl
  have nf0 : fc_1 PRD (20, [2, 6, 15], [50, 2, 0, 157, 11, 2, 7, 0, 3, 2, 0, 157, 1, 1, 2, 7, 0, 2, 1, 1, 2, 0, 11, 3, 6, 1, 2, 1, 2, 0, 0, 3, 6, 1, 2, 1, 2, 0, 4, 0, 6, 4, 2, 1, 1, 0, 1, 2, 0, 11]) ws (vs ++ [Value.int x]) := by
    refine ⟨nf_inA hl rfl, sgq_1292 ?_⟩
    · show (w_fi ws (n_v (vs ++ [Value.int x]) 2) 157 ≤ v_iv (n_v (vs ++ [Value.int x]) 6)) ∧ ((v_iv (n_v (vs ++ [Value.int x]) 6) ≤ w_fi ws (n_v (vs ++ [Value.int x]) 2) 11) ∧ ((v_iv (n_v (vs ++ [Value.int x]) 15) = 0) ∨ ((v_iv (n_v (vs ++ [Value.int x]) 15) = 4) ∨ ((v_iv (n_v (vs ++ [Value.int x]) 6) + 1) ≤ w_fi ws (n_v (vs ++ [Value.int x]) 2) 11))))
      simp only [e_2, e_6, e_15, q2]
      exact vc_Mo_styleTokens_27_0 (v_iv (n_v vs 6)) (v_iv (n_v vs 9)) (v_iv (n_v vs 13)) (v_iv (n_v vs 15)) (w_fi ws (n_v vs 0) 11) (w_ei ws (w_ar ws (n_v vs 0) 1)) (w_fi ws (n_v vs 0) 10) (w_fi ws (n_v vs 0) 157) k6 k9 k13 k15 f1 g2 f5 kz_0_10 kz_0_11 kz_0_157
  have nf1 : fc_1 PRD (20, [16, 6], [30, -4001, -1, 0, 0, -2, 0, 0]) ws (vs ++ [Value.int x]) := by
    refine ⟨nf_inA hl rfl, sgq_1293 ?_⟩
    · show (-1) * v_iv (n_v (vs ++ [Value.int x]) 16) + ((-2) * v_iv (n_v (vs ++ [Value.int x]) 6) + 0) ≤ (-4001)
      simp only [e_6, e_16]
      exact vc_Mo_styleTokens_27_1 (v_iv (n_v vs 6)) (v_iv (n_v vs 9)) (v_iv (n_v vs 10)) (v_iv (n_v vs 13)) (w_fi ws (n_v vs 0) 11) (v_iv (Value.int x)) k6 k9 k10 k13 f1 g2 f6 kz_0_11 ex2
  have nf2 : fc_1 PRD (24, [0, 2], []) ws (vs ++ [Value.int x]) := by
    refine ⟨nf_inA hl rfl, sgq_5 ?_⟩
    · show n_v (vs ++ [Value.int x]) 0 = n_v (vs ++ [Value.int x]) 2
      first | rfl | simp only [e_0, e_2, q2]
  obtain ⟨x0, e0, _, _⟩ := tv_int t10 rfl
  have e1 : v_iv (n_v vs 10) = x0.toInt := by rw [e0]; rfl
  have ho : sy_ofs (vs ++ [Value.int x]) (16, 10, 0, 0) := by
    refine ⟨x, x0, by rw [List.getElem?_append_right (by rw [hl]; decide), hl]; rfl, ?_, ?_, ?_⟩
    · rw [List.getElem?_append_left (by rw [hl]; decide)]; exact n_v_some (by rw [hl]; decide) e0
    · show x0.toInt + 0 ≤ x.toInt; omega
    · show x.toInt ≤ x0.toInt + 0; omega
  exact ⟨(fun _ h => (by cases h)), [Value.int x], ag_one hx, List.forall_mem_cons.mpr ⟨⟨show (20 : Nat) < 100 from by decide, nf0⟩, List.forall_mem_cons.mpr ⟨⟨show (20 : Nat) < 100 from by decide, nf1⟩, List.forall_mem_cons.mpr ⟨⟨show (24 : Nat) < 100 from by decide, nf2⟩, (fun _ h => (by cases h))⟩⟩⟩, List.forall_mem_cons.mpr ⟨ho, (fun _ h => (by cases h))⟩⟩
set_option maxHeartbeats 4000000 in
theorem vc_Mo_styleTokens_28_0 (x6 : Int) (x9 : Int) (x11 : Int) (x15 : Int) (pos_0 : Int) (tape_0 : Int → Int) (limit_0 : Int) (tokens_0 : Int) (k6 : 0 ≤ x6 ∧ x6 ≤ 1999) (k9 : 0 ≤ x9 ∧ x9 ≤ 1999) (k11 : 58 ≤ x11 ∧ x11 ≤ 255) (k15 : 2 ≤ x15 ∧ x15 ≤ 2) (d1 : x9 + (-4294967296) ≤ x6 ∧ x6 ≤ x9 + 0) (g2 : x9 = pos_0) (f3 : ((x9 + 1) ≤ limit_0) → (x11 = (tape_0 (x9) % 256))) (f5 : (tokens_0 ≤ x6) ∧ ((x6 ≤ pos_0) ∧ (((x6 + 1) ≤ pos_0) ∨ ((pos_0 = x6) ∧ (((x6 + 1) ≤ limit_0) ∧ ((48 ≤ (tape_0 (x6) % 256)) ∧ ((tape_0 (x6) % 256) ≤ 57))))))) (kz_0_10 : 0 ≤ limit_0 ∧ limit_0 ≤ 2000) (kz_0_11 : 0 ≤ pos_0 ∧ pos_0 ≤ 2000) (kz_0_157 : 0 ≤ tokens_0 ∧ tokens_0 ≤ 2010) : (tokens_0 ≤ x6) ∧ ((x6 ≤ pos_0) ∧ ((x15 = 0) ∨ ((x15 = 4) ∨ ((x6 + 1) ≤ pos_0)))) := by
  first | assumption | omega | grind
set_option maxHeartbeats 4000000 in
theorem vc_Mo_styleTokens_28_1 (x6 : Int) (x9 : Int) (x10 : Int) (x13 : Int) (pos_0 : Int) (gx : Int) (k6 : 0 ≤ x6 ∧ x6 ≤ 1999) (k9 : 0 ≤ x9 ∧ x9 ≤ 1999) (k10 : 0 ≤ x10 ∧ x10 ≤ 4001) (k13 : 0 ≤ x13 ∧ x13 ≤ 4) (f1 : x13 = x9 - x6) (g2 : x9 = pos_0) (f6 : (-1) * x10 + ((-2) * x6 + 0) ≤ (-4001)) (kz_0_11 : 0 ≤ pos_0 ∧ pos_0 ≤ 2000) (ex2 : gx = 0 + (1 * x10 + 0)) : (-1) * gx + ((-2) * x6 + 0) ≤ (-4001) := by
  first | assumption | omega | grind
def o_Mo_styleTokens_28 : or_T := (363, 16, [(0, (2, 0, 0, [165])), (2, (2, 0, 0, [165])), (6, (0, 0, 1999, [])), (9, (0, 0, 1999, [])), (10, (0, 0, 4001, [])), (11, (0, 58, 255, [])), (13, (0, 0, 4, [])), (14, (0, 4, 4, [])), (15, (0, 2, 2, []))], [(7, [13, 14], [5]), (2, [13, 9, 6], []), (9, [9, 2], [11]), (20, [9, 2, 11], [50, 1, 1, 1010, 1001, 4, 11, 0, 6, 4, 2, 1, 0, 0, 1, 2, 1, 10, 1, 2, 1, 2, 9, 5, 3, 1, 1, 1, 0, 0, 256]), (20, [2, 9, 11], [50, 1, 0, 10, 4, 7, 0, 3, 2, 0, 10, 1, 1, 1, 2, 1, 2, 0, -1]), (20, [2, 6], [50, 3, 1, 157, 11, 10, 1, 2, 7, 0, 3, 2, 0, 157, 1, 1, 2, 7, 0, 2, 1, 1, 2, 0, 11, 3, 11, 0, 6, 4, 2, 1, 1, 0, 1, 2, 0, 11, 2, 7, 1, 3, 2, 0, 11, 1, 1, 2, 11, 0, 6, 4, 2, 1, 1, 0, 1, 2, 0, 10, 2, 13, 0, 2, 0, 48, 9, 5, 3, 0, 1, 1, 1, 0, 256, 0, 9, 9, 5, 3, 0, 1, 1, 1, 0, 256, 0, 57]), (20, [10, 6], [30, -4001, -1, 0, 0, -2, 0, 0]), (24, [0, 2], [])], [], [(0, 0, 4001, [])], [(20, [2, 6, 15], [50, 2, 0, 157, 11, 2, 7, 0, 3, 2, 0, 157, 1, 1, 2, 7, 0, 2, 1, 1, 2, 0, 11, 3, 6, 1, 2, 1, 2, 0, 0, 3, 6, 1, 2, 1, 2, 0, 4, 0, 6, 4, 2, 1, 1, 0, 1, 2, 0, 11]), (20, [16, 6], [30, -4001, -1, 0, 0, -2, 0, 0]), (24, [0, 2], [])], [(16, 10, 0, 0)], [(13, 9, -1999, 0), (6, 9, -4294967296, 0)])
theorem oo_Mo_styleTokens_28 {kA : Nat → ClassId} : or_ok PRD kA GG o_Mo_styleTokens_28 := by
  refine or_mk fun A ta ws vs hD hth hl => ?_
  intro t0 r0 t2 r2 t6 k6 t9 k9 t10 k10 t11 k11 t13 k13 t14 k14 t15 k15 d0 d1 f0 f1 f2 f3 f4 f5 f6 f7
  replace f0 := shm_24 f0
  replace f1 := shm_14 f1
  replace f2 := shm_117 f2
  replace f3 := shm_535 f3
  replace f4 := shm_536 f4
  replace f5 := shm_1295 f5
  replace f6 := shm_1293 f6
  replace f7 := shm_5 f7
  have q2 : n_v vs 2 = n_v vs 0 := f7.symm
  simp only [q2] at f2 f3 f4 f5
  have cr_0_1 := fdq_46 hD hth r0
  have g2 : v_iv (n_v vs 9) = w_fi ws (n_v vs 0) 11 := congrArg v_iv f2
  have hK_0_1 := elq_6 hD hth cr_0_1
  have kz_0_10 := fdq_50 hD hth r0
  have kz_0_11 := fdq_273 hD hth r0
  have kz_0_157 := fdq_42 hD hth r0
  obtain ⟨x, ex, hx⟩ := iv_ex (ta := ta) (lo := 0) (hi := 4001) (z := 0 + (1 * v_iv (n_v vs 10) + 0)) (by omega) (by omega) (by omega) (by omega)
  have ex2 : v_iv (Value.int x) = 0 + (1 * v_iv (n_v vs 10) + 0) := ex
  have ex3 : 0 ≤ v_iv (Value.int x) ∧ v_iv (Value.int x) ≤ 4001 := tv_rng hx
  have e_0 : n_v (vs ++ [Value.int x]) 0 = n_v vs 0 := n_v_old (by rw [hl]; decide)
  have e_2 : n_v (vs ++ [Value.int x]) 2 = n_v vs 2 := n_v_old (by rw [hl]; decide)
  have e_6 : n_v (vs ++ [Value.int x]) 6 = n_v vs 6 := n_v_old (by rw [hl]; decide)
  have e_15 : n_v (vs ++ [Value.int x]) 15 = n_v vs 15 := n_v_old (by rw [hl]; decide)
  have e_16 : n_v (vs ++ [Value.int x]) 16 = Value.int x := n_v_new hl
  have nf0 : fc_1 PRD (20, [2, 6, 15], [50, 2, 0, 157, 11, 2, 7, 0, 3, 2, 0, 157, 1, 1, 2, 7, 0, 2, 1, 1, 2, 0, 11, 3, 6, 1, 2, 1, 2, 0, 0, 3, 6, 1, 2, 1, 2, 0, 4, 0, 6, 4, 2, 1, 1, 0, 1, 2, 0, 11]) ws (vs ++ [Value.int x]) := by
    refine ⟨nf_inA hl rfl, sgq_1292 ?_⟩
    · show (w_fi ws (n_v (vs ++ [Value.int x]) 2) 157 ≤ v_iv (n_v (vs ++ [Value.int x]) 6)) ∧ ((v_iv (n_v (vs ++ [Value.int x]) 6) ≤ w_fi ws (n_v (vs ++ [Value.int x]) 2) 11) ∧ ((v_iv (n_v (vs ++ [Value.int x]) 15) = 0) ∨ ((v_iv (n_v (vs ++ [Value.int x]) 15) = 4) ∨ ((v_iv (n_v (vs ++ [Value.int x]) 6) + 1) ≤ w_fi ws (n_v (vs ++ [Value.int x]) 2) 11))))
      simp only [e_2, e_6, e_15, q2]
      exact vc_Mo_styleTokens_28_0 (v_iv (n_v vs 6)) (v_iv (n_v vs 9)) (v_iv (n_v vs 11)) (v_iv (n_v vs 15)) (w_fi ws (n_v vs 0) 11) (w_ei ws (w_ar ws (n_v vs 0) 1)) (w_fi ws (n_v vs 0) 10) (w_fi ws (n_v vs 0) 157) k6 k9 k11 k15 d1 g2 f3 f5 kz_0_10 kz_0_11 kz_0_157
  have nf1 : fc_1 PRD (20, [16, 6], [30, -4001, -1, 0, 0, -2, 0, 0]) ws (vs ++ [Value.int x]) := by
    refine ⟨nf_inA hl rfl, sgq_1293 ?_⟩
    · show (-1) * v_iv (n_v (vs ++ [Value.int x]) 16) + ((-2) * v_iv (n_v (vs ++ [Value.int x]) 6) + 0) ≤ (-4001)
      simp only [e_6, e_16]
      exact vc_Mo_styleTokens_28_1 (v_iv (n_v vs 6)) (v_iv (n_v vs 9)) (v_iv (n_v vs 10)) (v_iv (n_v vs 13)) (w_fi ws (n_v vs 0) 11) (v_iv (Value.int x)) k6 k9 k10 k13 f1 g2 f6 kz_0_11 ex2
  have nf2 : fc_1 PRD (24, [0, 2], []) ws (vs ++ [Value.int x]) := by
    refine ⟨nf_inA hl rfl, sgq_5 ?_⟩
    · show n_v (vs ++ [Value.int x]) 0 = n_v (vs ++ [Value.int x]) 2
      first | rfl | simp only [e_0, e_2, q2]
  obtain ⟨x0, e0, _, _⟩ := tv_int t10 rfl
  have e1 : v_iv (n_v vs 10) = x0.toInt := by rw [e0]; rfl
  have ho : sy_ofs (vs ++ [Value.int x]) (16, 10, 0, 0) := by
    refine ⟨x, x0, by rw [List.getElem?_append_right (by rw [hl]; decide), hl]; rfl, ?_, ?_, ?_⟩
    · rw [List.getElem?_append_left (by rw [hl]; decide)]; exact n_v_some (by rw [hl]; decide) e0
    · show x0.toInt + 0 ≤ x.toInt; omega
    · show x.toInt ≤ x0.toInt + 0; omega
  exact ⟨(fun _ h => (by cases h)), [Value.int x], ag_one hx, List.forall_mem_cons.mpr ⟨⟨show (20 : Nat) < 100 from by decide, nf0⟩, List.forall_mem_cons.mpr ⟨⟨show (20 : Nat) < 100 from by decide, nf1⟩, List.forall_mem_cons.mpr ⟨⟨show (24 : Nat) < 100 from by decide, nf2⟩, (fun _ h => (by cases h))⟩⟩⟩, List.forall_mem_cons.mpr ⟨ho, (fun _ h => (by cases h))⟩⟩
set_option maxHeartbeats 4000000 in
theorem vc_Mo_styleTokens_29_0 (x6 : Int) (x9 : Int) (x22 : Int) (tape_0 : Int → Int) (limit_0 : Int) (pos_1 : Int) (tape_1 : Int → Int) (limit_1 : Int) (tokens_1 : Int) (pos_0 : Int) (tokens_0 : Int) (k6 : 0 ≤ x6 ∧ x6 ≤ 1999) (k9 : 0 ≤ x9 ∧ x9 ≤ 1999) (k22 : 1 ≤ x22 ∧ x22 ≤ 2000) (d0 : x9 + 1 ≤ x22 ∧ x22 ≤ x9 + 1) (d1 : x9 + (-4294967296) ≤ x6 ∧ x6 ≤ x9 + 0) (g9 : x9 = pos_1) (f15 : (tokens_1 ≤ x6) ∧ ((x6 ≤ pos_1) ∧ (((x6 + 1) ≤ pos_1) ∨ ((pos_1 = x6) ∧ (((x6 + 1) ≤ limit_1) ∧ ((48 ≤ (tape_1 (x6) % 256)) ∧ ((tape_1 (x6) % 256) ≤ 57))))))) (fe_0_10_1 : limit_0 = limit_1) (fe_0_11_1 : pos_0 = x22) (fe_0_157_1 : tokens_0 = tokens_1) (hE_0_1_1 : ∀ j : Int, tape_0 j = tape_1 j) (kz_0_10 : 0 ≤ limit_0 ∧ limit_0 ≤ 2000) (kz_0_11 : 0 ≤ pos_0 ∧ pos_0 ≤ 2000) (kz_0_157 : 0 ≤ tokens_0 ∧ tokens_0 ≤ 2010) : (tokens_0 ≤ x6) ∧ ((x6 ≤ pos_0) ∧ (((x6 + 1) ≤ pos_0) ∨ ((pos_0 = x6) ∧ (((x6 + 1) ≤ limit_0) ∧ ((48 ≤ (tape_0 (x6) % 256)) ∧ ((tape_0 (x6) % 256) ≤ 57)))))) := by
  subst fe_0_10_1
  subst fe_0_157_1
  have e_hE_0_1_1 := funext hE_0_1_1; subst e_hE_0_1_1
  first | assumption | omega | grind
def o_Mo_styleTokens_29 : or_T := (166, 23, [(0, (2, 0, 0, [165])), (2, (2, 0, 0, [165])), (6, (0, 0, 1999, [])), (9, (0, 0, 1999, [])), (10, (0, 0, 4001, [])), (11, (0, 48, 57, [])), (16, (0, -1, -1, [])), (17, (1, -1, -1, [])), (21, (0, 1, 1, [])), (22, (0, 1, 2000, []))], [(22, [17, 16], []), (20, [9, 2, 16], [50, 1, 1, 1010, 1001, 4, 11, 0, 6, 4, 2, 1, 0, 0, 1, 2, 1, 10, 1, 2, 1, 2, 9, 5, 3, 1, 1, 1, 0, 0, 256]), (20, [2, 9, 16], [50, 1, 0, 10, 4, 7, 0, 3, 2, 0, 10, 1, 1, 1, 2, 1, 2, 0, -1]), (20, [9, 2, 11], [50, 1, 1, 1010, 1001, 4, 11, 0, 6, 4, 2, 1, 0, 0, 1, 2, 1, 10, 1, 2, 1, 2, 9, 5, 3, 1, 1, 1, 0, 0, 256]), (20, [2, 9, 11], [50, 1, 0, 10, 4, 7, 0, 3, 2, 0, 10, 1, 1, 1, 2, 1, 2, 0, -1]), (20, [10, 6], [30, -4001, -1, 0, 0, -2, 0, 0]), (24, [0, 2], []), (101, [2, 22], [11]), (1, [22, 9, 21], []), (9, [9, 2], [11]), (22, [17, 16], []), (20, [9, 2, 16], [50, 1, 1, 1010, 1001, 4, 11, 0, 6, 4, 2, 1, 0, 0, 1, 2, 1, 10, 1, 2, 1, 2, 9, 5, 3, 1, 1, 1, 0, 0, 256]), (20, [2, 9, 16], [50, 1, 0, 10, 4, 7, 0, 3, 2, 0, 10, 1, 1, 1, 2, 1, 2, 0, -1]), (20, [9, 2, 11], [50, 1, 1, 1010, 1001, 4, 11, 0, 6, 4, 2, 1, 0, 0, 1, 2, 1, 10, 1, 2, 1, 2, 9, 5, 3, 1, 1, 1, 0, 0, 256]), (20, [2, 9, 11], [50, 1, 0, 10, 4, 7, 0, 3, 2, 0, 10, 1, 1, 1, 2, 1, 2, 0, -1]), (20, [2, 6], [50, 3, 1, 157, 11, 10, 1, 2, 7, 0, 3, 2, 0, 157, 1, 1, 2, 7, 0, 2, 1, 1, 2, 0, 11, 3, 11, 0, 6, 4, 2, 1, 1, 0, 1, 2, 0, 11, 2, 7, 1, 3, 2, 0, 11, 1, 1, 2, 11, 0, 6, 4, 2, 1, 1, 0, 1, 2, 0, 10, 2, 13, 0, 2, 0, 48, 9, 5, 3, 0, 1, 1, 1, 0, 256, 0, 9, 9, 5, 3, 0, 1, 1, 1, 0, 256, 0, 57]), (20, [10, 6], [30, -4001, -1, 0, 0, -2, 0, 0])], [], [], [(20, [2, 6], [50, 3, 1, 157, 11, 10, 1, 2, 7, 0, 3, 2, 0, 157, 1, 1, 2, 7, 0, 2, 1, 1, 2, 0, 11, 3, 11, 0, 6, 4, 2, 1, 1, 0, 1, 2, 0, 11, 2, 7, 1, 3, 2, 0, 11, 1, 1, 2, 11, 0, 6, 4, 2, 1, 1, 0, 1, 2, 0, 10, 2, 13, 0, 2, 0, 48, 9, 5, 3, 0, 1, 1, 1, 0, 256, 0, 9, 9, 5, 3, 0, 1, 1, 1, 0, 256, 0, 57])], [], [(22, 9, 1, 1), (6, 9, -4294967296, 0)])
theorem oo_Mo_styleTokens_29 {kA : Nat → ClassId} : or_ok PRD kA GG o_Mo_styleTokens_29 := by
  refine or_mk fun A ta ws vs hD hth hl => ?_
  intro t0 r0 t2 r2 t6 k6 t9 k9 t10 k10 t11 k11 t16 k16 t17 k17 t21 k21 t22 k22 d0 d1 f0 f1 f2 f3 f4 f5 f6 ta1 w1 le1 s1 f8 f9 f10 f11 f12 f13 f14 f15 f16
  replace f6 := shm_5 f6
  have s1 : (∀ b j, w_el ws b j = w_el w1 b j) ∧ ∀ b j, w_fd ws b j = if b = v_ad (n_v vs 2) ∧ j = 11 then n_v vs 22 else w_fd w1 b j := s1.2
  replace f9 := shm_117 f9
  replace f15 := shm_1295 f15
  have q2 : n_v vs 2 = n_v vs 0 := f6.symm
  rw [q2] at s1
  simp only [q2] at f9 f15
  have ar_0_1_1 : w_ar w1 (n_v vs 0) 1 = w_ar ws (n_v vs 0) 1 := by show v_ad (w_fd w1 _ _) = v_ad (w_fd ws _ _); rw [s1.2, if_neg (fun e => absurd e.2 (by decide))]
  have g9 : v_iv (n_v vs 9) = w_fi w1 (n_v vs 0) 11 := congrArg v_iv f9
  simp only [ar_0_1_1] at f15
  have fe_0_10_1 : w_fi ws (n_v vs 0) 10 = w_fi w1 (n_v vs 0) 10 := by show v_iv (w_fd _ _ _) = v_iv (w_fd _ _ _); rw [s1.2, if_neg (fun e => absurd e.2 (by decide))]
  have fe_0_11_1 : w_fi ws (n_v vs 0) 11 = v_iv (n_v vs 22) := by show v_iv (w_fd _ _ _) = _; rw [s1.2, if_pos ⟨rfl, rfl⟩]
  have fe_0_157_1 : w_fi ws (n_v vs 0) 157 = w_fi w1 (n_v vs 0) 157 := by show v_iv (w_fd _ _ _) = v_iv (w_fd _ _ _); rw [s1.2, if_neg (fun e => absurd e.2 (by decide))]
  have hE_0_1_1 : ∀ j : Int, w_ei ws (w_ar ws (n_v vs 0) 1) j = w_ei w1 (w_ar ws (n_v vs 0) 1) j := fun j => s1.1 _ _
  have kz_0_10 := fdq_50 hD hth r0
  have kz_0_11 := fdq_273 hD hth r0
  have kz_0_157 := fdq_42 hD hth r0
  have nf0 : fc_1 PRD (20, [2, 6], [50, 3, 1, 157, 11, 10, 1, 2, 7, 0, 3, 2, 0, 157, 1, 1, 2, 7, 0, 2, 1, 1, 2, 0, 11, 3, 11, 0, 6, 4, 2, 1, 1, 0, 1, 2, 0, 11, 2, 7, 1, 3, 2, 0, 11, 1, 1, 2, 11, 0, 6, 4, 2, 1, 1, 0, 1, 2, 0, 10, 2, 13, 0, 2, 0, 48, 9, 5, 3, 0, 1, 1, 1, 0, 256, 0, 9, 9, 5, 3, 0, 1, 1, 1, 0, 256, 0, 57]) ws (vs) := by
    refine ⟨nf_in hl rfl, sgq_1295 ?_⟩
    · show (w_fi ws (n_v vs 2) 157 ≤ v_iv (n_v vs 6)) ∧ ((v_iv (n_v vs 6) ≤ w_fi ws (n_v vs 2) 11) ∧ (((v_iv (n_v vs 6) + 1) ≤ w_fi ws (n_v vs 2) 11) ∨ ((w_fi ws (n_v vs 2) 11 = v_iv (n_v vs 6)) ∧ (((v_iv (n_v vs 6) + 1) ≤ w_fi ws (n_v vs 2) 10) ∧ ((48 ≤ (w_ei ws (w_ar ws (n_v vs 2) 1) (v_iv (n_v vs 6)) % 256)) ∧ ((w_ei ws (w_ar ws (n_v vs 2) 1) (v_iv (n_v vs 6)) % 256) ≤ 57))))))
      rw [q2]
      exact vc_Mo_styleTokens_29_0 (v_iv (n_v vs 6)) (v_iv (n_v vs 9)) (v_iv (n_v vs 22)) (w_ei ws (w_ar ws (n_v vs 0) 1)) (w_fi ws (n_v vs 0) 10) (w_fi w1 (n_v vs 0) 11) (w_ei w1 (w_ar ws (n_v vs 0) 1)) (w_fi w1 (n_v vs 0) 10) (w_fi w1 (n_v vs 0) 157) (w_fi ws (n_v vs 0) 11) (w_fi ws (n_v vs 0) 157) k6 k9 k22 d0 d1 g9 f15 fe_0_10_1 fe_0_11_1 fe_0_157_1 hE_0_1_1 kz_0_10 kz_0_11 kz_0_157
  refine ⟨(fun _ h => (by cases h)), [], trivial, ?_, (fun _ h => (by cases h))⟩
  rw [List.append_nil]
  exact List.forall_mem_cons.mpr ⟨⟨show (20 : Nat) < 100 from by decide, nf0⟩, (fun _ h => (by cases h))⟩
set_option maxHeartbeats 4000000 in
theorem vc_Mo_styleTokens_30_0 (x6 : Int) (x9 : Int) (x22 : Int) (tape_0 : Int → Int) (limit_0 : Int) (pos_1 : Int) (tape_1 : Int → Int) (limit_1 : Int) (tokens_1 : Int) (pos_0 : Int) (tokens_0 : Int) (k6 : 0 ≤ x6 ∧ x6 ≤ 1999) (k9 : 0 ≤ x9 ∧ x9 ≤ 1999) (k22 : 1 ≤ x22 ∧ x22 ≤ 2000) (d0 : x9 + 1 ≤ x22 ∧ x22 ≤ x9 + 1) (d1 : x9 + (-4294967296) ≤ x6 ∧ x6 ≤ x9 + 0) (g9 : x9 = pos_1) (f15 : (tokens_1 ≤ x6) ∧ ((x6 ≤ pos_1) ∧ (((x6 + 1) ≤ pos_1) ∨ ((pos_1 = x6) ∧ (((x6 + 1) ≤ limit_1) ∧ ((48 ≤ (tape_1 (x6) % 256)) ∧ ((tape_1 (x6) % 256) ≤ 57))))))) (fe_0_10_1 : limit_0 = limit_1) (fe_0_11_1 : pos_0 = x22) (fe_0_157_1 : tokens_0 = tokens_1) (hE_0_1_1 : ∀ j : Int, tape_0 j = tape_1 j) (kz_0_10 : 0 ≤ limit_0 ∧ limit_0 ≤ 2000) (kz_0_11 : 0 ≤ pos_0 ∧ pos_0 ≤ 2000) (kz_0_157 : 0 ≤ tokens_0 ∧ tokens_0 ≤ 2010) : (tokens_0 ≤ x6) ∧ ((x6 ≤ pos_0) ∧ (((x6 + 1) ≤ pos_0) ∨ ((pos_0 = x6) ∧ (((x6 + 1) ≤ limit_0) ∧ ((48 ≤ (tape_0 (x6) % 256)) ∧ ((tape_0 (x6) % 256) ≤ 57)))))) := by
  subst fe_0_10_1
  subst fe_0_157_1
  have e_hE_0_1_1 := funext hE_0_1_1; subst e_hE_0_1_1
  first | assumption | omega | grind
def o_Mo_styleTokens_30 : or_T := (166, 23, [(0, (2, 0, 0, [165])), (2, (2, 0, 0, [165])), (6, (0, 0, 1999, [])), (9, (0, 0, 1999, [])), (10, (0, 0, 4001, [])), (11, (0, 48, 57, [])), (16, (0, 0, 255, [])), (17, (1, 0, 255, [])), (21, (0, 1, 1, [])), (22, (0, 1, 2000, []))], [(22, [17, 16], []), (20, [9, 2, 16], [50, 1, 1, 1010, 1001, 4, 11, 0, 6, 4, 2, 1, 0, 0, 1, 2, 1, 10, 1, 2, 1, 2, 9, 5, 3, 1, 1, 1, 0, 0, 256]), (20, [2, 9, 16], [50, 1, 0, 10, 4, 7, 0, 3, 2, 0, 10, 1, 1, 1, 2, 1, 2, 0, -1]), (20, [9, 2, 11], [50, 1, 1, 1010, 1001, 4, 11, 0, 6, 4, 2, 1, 0, 0, 1, 2, 1, 10, 1, 2, 1, 2, 9, 5, 3, 1, 1, 1, 0, 0, 256]), (20, [2, 9, 11], [50, 1, 0, 10, 4, 7, 0, 3, 2, 0, 10, 1, 1, 1, 2, 1, 2, 0, -1]), (20, [10, 6], [30, -4001, -1, 0, 0, -2, 0, 0]), (24, [0, 2], []), (101, [2, 22], [11]), (1, [22, 9, 21], []), (9, [9, 2], [11]), (22, [17, 16], []), (20, [9, 2, 16], [50, 1, 1, 1010, 1001, 4, 11, 0, 6, 4, 2, 1, 0, 0, 1, 2, 1, 10, 1, 2, 1, 2, 9, 5, 3, 1, 1, 1, 0, 0, 256]), (20, [2, 9, 16], [50, 1, 0, 10, 4, 7, 0, 3, 2, 0, 10, 1, 1, 1, 2, 1, 2, 0, -1]), (20, [9, 2, 11], [50, 1, 1, 1010, 1001, 4, 11, 0, 6, 4, 2, 1, 0, 0, 1, 2, 1, 10, 1, 2, 1, 2, 9, 5, 3, 1, 1, 1, 0, 0, 256]), (20, [2, 9, 11], [50, 1, 0, 10, 4, 7, 0, 3, 2, 0, 10, 1, 1, 1, 2, 1, 2, 0, -1]), (20, [2, 6], [50, 3, 1, 157, 11, 10, 1, 2, 7, 0, 3, 2, 0, 157, 1, 1, 2, 7, 0, 2, 1, 1, 2, 0, 11, 3, 11, 0, 6, 4, 2, 1, 1, 0, 1, 2, 0, 11, 2, 7, 1, 3, 2, 0, 11, 1, 1, 2, 11, 0, 6, 4, 2, 1, 1, 0, 1, 2, 0, 10, 2, 13, 0, 2, 0, 48, 9, 5, 3, 0, 1, 1, 1, 0, 256, 0, 9, 9, 5, 3, 0, 1, 1, 1, 0, 256, 0, 57]), (20, [10, 6], [30, -4001, -1, 0, 0, -2, 0, 0])], [], [], [(20, [2, 6], [50, 3, 1, 157, 11, 10, 1, 2, 7, 0, 3, 2, 0, 157, 1, 1, 2, 7, 0, 2, 1, 1, 2, 0, 11, 3, 11, 0, 6, 4, 2, 1, 1, 0, 1, 2, 0, 11, 2, 7, 1, 3, 2, 0, 11, 1, 1, 2, 11, 0, 6, 4, 2, 1, 1, 0, 1, 2, 0, 10, 2, 13, 0, 2, 0, 48, 9, 5, 3, 0, 1, 1, 1, 0, 256, 0, 9, 9, 5, 3, 0, 1, 1, 1, 0, 256, 0, 57])], [], [(22, 9, 1, 1), (6, 9, -4294967296, 0)])
theorem oo_Mo_styleTokens_30 {kA : Nat → ClassId} : or_ok PRD kA GG o_Mo_styleTokens_30 := by
  refine or_mk fun A ta ws vs hD hth hl => ?_
  intro t0 r0 t2 r2 t6 k6 t9 k9 t10 k10 t11 k11 t16 k16 t17 k17 t21 k21 t22 k22 d0 d1 f0 f1 f2 f3 f4 f5 f6 ta1 w1 le1 s1 f8 f9 f10 f11 f12 f13 f14 f15 f16
  replace f6 := shm_5 f6
  have s1 : (∀ b j, w_el ws b j = w_el w1 b j) ∧ ∀ b j, w_fd ws b j = if b = v_ad (n_v vs 2) ∧ j = 11 then n_v vs 22 else w_fd w1 b j := s1.2
  replace f9 := shm_117 f9
  replace f15 := shm_1295 f15
  have q2 : n_v vs 2 = n_v vs 0 := f6.symm
  rw [q2] at s1
  simp only [q2] at f9 f15
  have ar_0_1_1 : w_ar w1 (n_v vs 0) 1 = w_ar ws (n_v vs 0) 1 := by show v_ad (w_fd w1 _ _) = v_ad (w_fd ws _ _); rw [s1.2, if_neg (fun e => absurd e.2 (by decide))]
  have g9 : v_iv (n_v vs 9) = w_fi w1 (n_v vs 0) 11 := congrArg v_iv f9
  simp only [ar_0_1_1] at f15
  have fe_0_10_1 : w_fi ws (n_v vs 0) 10 = w_fi w1 (n_v vs 0) 10 := by show v_iv (w_fd _ _ _) = v_iv (w_fd _ _ _); rw [s1.2, if_neg (fun e => absurd e.2 (by decide))]
  have fe_0_11_1 : w_fi ws (n_v vs 0) 11 = v_iv (n_v vs 22) := by show v_iv (w_fd _ _ _) = _; rw [s1.2, if_pos ⟨rfl, rfl⟩]
  have fe_0_157_1 : w_fi ws (n_v vs 0) 157 = w_fi w1 (n_v vs 0) 157 := by show v_iv (w_fd _ _ _) = v_iv (w_fd _ _ _); rw [s1.2, if_neg (fun e => absurd e.2 (by decide))]
  have hE_0_1_1 : ∀ j : Int, w_ei ws (w_ar ws (n_v vs 0) 1) j = w_ei w1 (w_ar ws (n_v vs 0) 1) j := fun j => s1.1 _ _
  have kz_0_10 := fdq_50 hD hth r0
  have kz_0_11 := fdq_273 hD hth r0
  have kz_0_157 := fdq_42 hD hth r0
  have nf0 : fc_1 PRD (20, [2, 6], [50, 3, 1, 157, 11, 10, 1, 2, 7, 0, 3, 2, 0, 157, 1, 1, 2, 7, 0, 2, 1, 1, 2, 0, 11, 3, 11, 0, 6, 4, 2, 1, 1, 0, 1, 2, 0, 11, 2, 7, 1, 3, 2, 0, 11, 1, 1, 2, 11, 0, 6, 4, 2, 1, 1, 0, 1, 2, 0, 10, 2, 13, 0, 2, 0, 48, 9, 5, 3, 0, 1, 1, 1, 0, 256, 0, 9, 9, 5, 3, 0, 1, 1, 1, 0, 256, 0, 57]) ws (vs) := by
    refine ⟨nf_in hl rfl, sgq_1295 ?_⟩
    · show (w_fi ws (n_v vs 2) 157 ≤ v_iv (n_v vs 6)) ∧ ((v_iv (n_v vs 6) ≤ w_fi ws (n_v vs 2) 11) ∧ (((v_iv (n_v vs 6) + 1) ≤ w_fi ws (n_v vs 2) 11) ∨ ((w_fi ws (n_v vs 2) 11 = v_iv (n_v vs 6)) ∧ (((v_iv (n_v vs 6) + 1) ≤ w_fi ws (n_v vs 2) 10) ∧ ((48 ≤ (w_ei ws (w_ar ws (n_v vs 2) 1) (v_iv (n_v vs 6)) % 256)) ∧ ((w_ei ws (w_ar ws (n_v vs 2) 1) (v_iv (n_v vs 6)) % 256) ≤ 57))))))
      rw [q2]
      exact vc_Mo_styleTokens_30_0 (v_iv (n_v vs 6)) (v_iv (n_v vs 9)) (v_iv (n_v vs 22)) (w_ei ws (w_ar ws (n_v vs 0) 1)) (w_fi ws (n_v vs 0) 10) (w_fi w1 (n_v vs 0) 11) (w_ei w1 (w_ar ws (n_v vs 0) 1)) (w_fi w1 (n_v vs 0) 10) (w_fi w1 (n_v vs 0) 157) (w_fi ws (n_v vs 0) 11) (w_fi ws (n_v vs 0) 157) k6 k9 k22 d0 d1 g9 f15 fe_0_10_1 fe_0_11_1 fe_0_157_1 hE_0_1_1 kz_0_10 kz_0_11 kz_0_157
  refine ⟨(fun _ h => (by cases h)), [], trivial, ?_, (fun _ h => (by cases h))⟩
  rw [List.append_nil]
  exact List.forall_mem_cons.mpr ⟨⟨show (20 : Nat) < 100 from by decide, nf0⟩, (fun _ h => (by cases h))⟩
set_option maxHeartbeats 4000000 in
theorem vc_Mo_styleTokens_31_0 (x6 : Int) (x9 : Int) (x15 : Int) (tape_0 : Int → Int) (limit_0 : Int) (pos_1 : Int) (tape_1 : Int → Int) (limit_1 : Int) (tokens_1 : Int) (pos_0 : Int) (tokens_0 : Int) (k6 : 0 ≤ x6 ∧ x6 ≤ 1999) (k9 : 0 ≤ x9 ∧ x9 ≤ 1999) (k15 : 1 ≤ x15 ∧ x15 ≤ 2000) (d0 : x9 + 1 ≤ x15 ∧ x15 ≤ x9 + 1) (d1 : x9 + (-4294967296) ≤ x6 ∧ x6 ≤ x9 + 0) (g6 : x9 = pos_1) (f9 : (tokens_1 ≤ x6) ∧ ((x6 ≤ pos_1) ∧ (((x6 + 1) ≤ pos_1) ∨ ((pos_1 = x6) ∧ (((x6 + 1) ≤ limit_1) ∧ ((48 ≤ (tape_1 (x6) % 256)) ∧ ((tape_1 (x6) % 256) ≤ 57))))))) (fe_0_10_1 : limit_0 = limit_1) (fe_0_11_1 : pos_0 = x15) (fe_0_157_1 : tokens_0 = tokens_1) (hE_0_1_1 : ∀ j : Int, tape_0 j = tape_1 j) (kz_0_10 : 0 ≤ limit_0 ∧ limit_0 ≤ 2000) (kz_0_11 : 0 ≤ pos_0 ∧ pos_0 ≤ 2000) (kz_0_157 : 0 ≤ tokens_0 ∧ tokens_0 ≤ 2010) : (tokens_0 ≤ x6) ∧ ((x6 ≤ pos_0) ∧ (((x6 + 1) ≤ pos_0) ∨ ((pos_0 = x6) ∧ (((x6 + 1) ≤ limit_0) ∧ ((48 ≤ (tape_0 (x6) % 256)) ∧ ((tape_0 (x6) % 256) ≤ 57)))))) := by
  subst fe_0_10_1
  subst fe_0_157_1
  have e_hE_0_1_1 := funext hE_0_1_1; subst e_hE_0_1_1
  first | assumption | omega | grind
def o_Mo_styleTokens_31 : or_T := (166, 16, [(0, (2, 0, 0, [165])), (6, (0, 0, 1999, [])), (9, (0, 0, 1999, [])), (15, (0, 1, 2000, []))], [(24, [0, 2], []), (101, [2, 15], [11]), (9, [9, 2], [11]), (20, [2, 6], [50, 3, 1, 157, 11, 10, 1, 2, 7, 0, 3, 2, 0, 157, 1, 1, 2, 7, 0, 2, 1, 1, 2, 0, 11, 3, 11, 0, 6, 4, 2, 1, 1, 0, 1, 2, 0, 11, 2, 7, 1, 3, 2, 0, 11, 1, 1, 2, 11, 0, 6, 4, 2, 1, 1, 0, 1, 2, 0, 10, 2, 13, 0, 2, 0, 48, 9, 5, 3, 0, 1, 1, 1, 0, 256, 0, 9, 9, 5, 3, 0, 1, 1, 1, 0, 256, 0, 57])], [], [], [(20, [2, 6], [50, 3, 1, 157, 11, 10, 1, 2, 7, 0, 3, 2, 0, 157, 1, 1, 2, 7, 0, 2, 1, 1, 2, 0, 11, 3, 11, 0, 6, 4, 2, 1, 1, 0, 1, 2, 0, 11, 2, 7, 1, 3, 2, 0, 11, 1, 1, 2, 11, 0, 6, 4, 2, 1, 1, 0, 1, 2, 0, 10, 2, 13, 0, 2, 0, 48, 9, 5, 3, 0, 1, 1, 1, 0, 256, 0, 9, 9, 5, 3, 0, 1, 1, 1, 0, 256, 0, 57])], [], [(15, 9, 1, 1), (6, 9, -4294967296, 0)])
theorem oo_Mo_styleTokens_31 {kA : Nat → ClassId} : or_ok PRD kA GG o_Mo_styleTokens_31 := by
  refine or_mk fun A ta ws vs hD hth hl => ?_
  intro t0 r0 t6 k6 t9 k9 t15 k15 d0 d1 f3 ta1 w1 le1 s1 f6 f9
  replace f3 := shm_5 f3
  have s1 : (∀ b j, w_el ws b j = w_el w1 b j) ∧ ∀ b j, w_fd ws b j = if b = v_ad (n_v vs 2) ∧ j = 11 then n_v vs 15 else w_fd w1 b j := s1.2
  replace f6 := shm_117 f6
  replace f9 := shm_1295 f9
  have q2 : n_v vs 2 = n_v vs 0 := f3.symm
  rw [q2] at s1
  simp only [q2] at f6 f9
  have ar_0_1_1 : w_ar w1 (n_v vs 0) 1 = w_ar ws (n_v vs 0) 1 := by show v_ad (w_fd w1 _ _) = v_ad (w_fd ws _ _); rw [s1.2, if_neg (fun e => absurd e.2 (by decide))]
  have g6 : v_iv (n_v vs 9) = w_fi w1 (n_v vs 0) 11 := congrArg v_iv f6
  simp only [ar_0_1_1] at f9
  have fe_0_10_1 : w_fi ws (n_v vs 0) 10 = w_fi w1 (n_v vs 0) 10 := by show v_iv (w_fd _ _ _) = v_iv (w_fd _ _ _); rw [s1.2, if_neg (fun e => absurd e.2 (by decide))]
  have fe_0_11_1 : w_fi ws (n_v vs 0) 11 = v_iv (n_v vs 15) := by show v_iv (w_fd _ _ _) = _; rw [s1.2, if_pos ⟨rfl, rfl⟩]
  have fe_0_157_1 : w_fi ws (n_v vs 0) 157 = w_fi w1 (n_v vs 0) 157 := by show v_iv (w_fd _ _ _) = v_iv (w_fd _ _ _); rw [s1.2, if_neg (fun e => absurd e.2 (by decide))]
  have hE_0_1_1 : ∀ j : Int, w_ei ws (w_ar ws (n_v vs 0) 1) j = w_ei w1 (w_ar ws (n_v vs 0) 1) j := fun j => s1.1 _ _
  have kz_0_10 := fdq_50 hD hth r0
  have kz_0_11 := fdq_273 hD hth r0
  have kz_0_157 := fdq_42 hD hth r0
  have nf0 : fc_1 PRD (20, [2, 6], [50, 3, 1, 157, 11, 10, 1, 2, 7, 0, 3, 2, 0, 157, 1, 1, 2, 7, 0, 2, 1, 1, 2, 0, 11, 3, 11, 0, 6, 4, 2, 1, 1, 0, 1, 2, 0, 11, 2, 7, 1, 3, 2, 0, 11, 1, 1, 2, 11, 0, 6, 4, 2, 1, 1, 0, 1, 2, 0, 10, 2, 13, 0, 2, 0, 48, 9, 5, 3, 0, 1, 1, 1, 0, 256, 0, 9, 9, 5, 3, 0, 1, 1, 1, 0, 256, 0, 57]) ws (vs) := by
    refine ⟨nf_in hl rfl, sgq_1295 ?_⟩
    · show (w_fi ws (n_v vs 2) 157 ≤ v_iv (n_v vs 6)) ∧ ((v_iv (n_v vs 6) ≤ w_fi ws (n_v vs 2) 11) ∧ (((v_iv (n_v vs 6) + 1) ≤ w_fi ws (n_v vs 2) 11) ∨ ((w_fi ws (n_v vs 2) 11 = v_iv (n_v vs 6)) ∧ (((v_iv (n_v vs 6) + 1) ≤ w_fi ws (n_v vs 2) 10) ∧ ((48 ≤ (w_ei ws (w_ar ws (n_v vs 2) 1) (v_iv (n_v vs 6)) % 256)) ∧ ((w_ei ws (w_ar ws (n_v vs 2) 1) (v_iv (n_v vs 6)) % 256) ≤ 57))))))
      rw [q2]
      exact vc_Mo_styleTokens_31_0 (v_iv (n_v vs 6)) (v_iv (n_v vs 9)) (v_iv (n_v vs 15)) (w_ei ws (w_ar ws (n_v vs 0) 1)) (w_fi ws (n_v vs 0) 10) (w_fi w1 (n_v vs 0) 11) (w_ei w1 (w_ar ws (n_v vs 0) 1)) (w_fi w1 (n_v vs 0) 10) (w_fi w1 (n_v vs 0) 157) (w_fi ws (n_v vs 0) 11) (w_fi ws (n_v vs 0) 157) k6 k9 k15 d0 d1 g6 f9 fe_0_10_1 fe_0_11_1 fe_0_157_1 hE_0_1_1 kz_0_10 kz_0_11 kz_0_157
  refine ⟨(fun _ h => (by cases h)), [], trivial, ?_, (fun _ h => (by cases h))⟩
  rw [List.append_nil]
  exact List.forall_mem_cons.mpr ⟨⟨show (20 : Nat) < 100 from by decide, nf0⟩, (fun _ h => (by cases h))⟩
set_option maxHeartbeats 4000000 in
theorem vc_Mo_styleTokens_32_0 (x6 : Int) (tokens_0 : Int) (pos_0 : Int) (k6 : 0 ≤ x6 ∧ x6 ≤ 1999) (f0 : (tokens_0 ≤ x6) ∧ (pos_0 = x6)) (kz_0_11 : 0 ≤ pos_0 ∧ pos_0 ≤ 2000) (kz_0_157 : 0 ≤ tokens_0 ∧ tokens_0 ≤ 2010) : (tokens_0 ≤ x6) ∧ (pos_0 = x6) := by
  first | assumption | omega | grind
set_option maxHeartbeats 4000000 in
theorem vc_Mo_styleTokens_32_1 (x6 : Int) (x10 : Int) (tokens_0 : Int) (pos_0 : Int) (gx : Int) (k6 : 0 ≤ x6 ∧ x6 ≤ 1999) (k10 : 0 ≤ x10 ∧ x10 ≤ 4001) (f0 : (tokens_0 ≤ x6) ∧ (pos_0 = x6)) (f1 : (-1) * x10 + ((-2) * x6 + 0) ≤ (-4001)) (kz_0_11 : 0 ≤ pos_0 ∧ pos_0 ≤ 2000) (kz_0_157 : 0 ≤ tokens_0 ∧ tokens_0 ≤ 2010) (ex2 : gx = 0 + (1 * x10 + 0)) : (-1) * gx + ((-2) * x6 + 0) ≤ (-4001) := by
  first | assumption | omega | grind
def o_Mo_styleTokens_32 : or_T := (334, 12, [(0, (2, 0, 0, [165])), (2, (2, 0, 0, [165])), (6, (0, 0, 1999, [])), (10, (0, 0, 4001, []))], [(20, [2, 6], [50, 2, 0, 157, 11, 2, 7, 0, 3, 2, 0, 157, 1, 1, 1, 3, 2, 0, 11, 1, 1]), (20, [10, 6], [30, -4001, -1, 0, 0, -2, 0, 0]), (24, [0, 2], [])], [], [(0, 0, 4001, [])], [(20, [2, 6], [50, 2, 0, 157, 11, 2, 7, 0, 3, 2, 0, 157, 1, 1, 1, 3, 2, 0, 11, 1, 1]), (20, [12, 6], [30, -4001, -1, 0, 0, -2, 0, 0]), (24, [0, 2], [])], [(12, 10, 0, 0)], [])
theorem oo_Mo_styleTokens_32 {kA : Nat → ClassId} : or_ok PRD kA GG o_Mo_styleTokens_32 := by
  refine or_mk fun A ta ws vs hD hth hl => ?_
  intro t0 r0 t2 r2 t6 k6 t10 k10 f0 f1 f2
  replace f0 := shm_1294 f0
  replace f1 := shm_1293 f1
  replace f2 := shm_5 f2
  have q2 : n_v vs 2 = n_v vs 0 := f2.symm
  simp only [q2] at f0
  have kz_0_11 := fdq_273 hD hth r0
  have kz_0_157 := fdq_42 hD hth r0
  obtain ⟨x, ex, hx⟩ := iv_ex (ta := ta) (lo := 0) (hi := 4001) (z := 0 + (1 * v_iv (n_v vs 10) + 0)) (by omega) (by omega) (by omega) (by omega)
  have ex2 : v_iv (Value.int x) = 0 + (1 * v_iv (n_v vs 10) + 0) := ex
  have ex3 : 0 ≤ v_iv (Value.int x) ∧ v_iv (Value.int x) ≤ 4001 := tv_rng hx
  have e_0 : n_v (vs ++ [Value.int x]) 0 = n_v vs 0 := n_v_old (by rw [hl]; decide)
  have e_2 : n_v (vs ++ [Value.int x]) 2 = n_v vs 2 := n_v_old (by rw [hl]; decide)
  have e_6 : n_v (vs ++ [Value.int x]) 6 = n_v vs 6 := n_v_old (by rw [hl]; decide)
  have e_12 : n_v (vs ++ [Value.int x]) 12 = Value.int x := n_v_new hl
  have nf0 : fc_1 PRD (20, [2, 6], [50, 2, 0, 157, 11, 2, 7, 0, 3, 2, 0, 157, 1, 1, 1, 3, 2, 0, 11, 1, 1]) ws (vs ++ [Value.int x]) := by
    refine ⟨nf_inA hl rfl, sgq_1294 ?_⟩
    · show (w_fi ws (n_v (vs ++ [Value.int x]) 2) 157 ≤ v_iv (n_v (vs ++ [Value.int x]) 6)) ∧ (w_fi ws (n_v (vs ++ [Value.int x]) 2) 11 = v_iv (n_v (vs ++ [Value.int x]) 6))
      simp only [e_2, e_6, q2]
      exact vc_Mo_styleTokens_32_0 (v_iv (n_v vs 6)) (w_fi ws (n_v vs 0) 157) (w_fi ws (n_v vs 0) 11) k6 f0 kz_0_11 kz_0_157
  have nf1 : fc_1 PRD (20, [12, 6], [30, -4001, -1, 0, 0, -2, 0, 0]) ws (vs ++ [Value.int x]) := by
    refine ⟨nf_inA hl rfl, sgq_1293 ?_⟩
    · show (-1) * v_iv (n_v (vs ++ [Value.int x]) 12) + ((-2) * v_iv (n_v (vs ++ [Value.int x]) 6) + 0) ≤ (-4001)
      simp only [e_6, e_12]
      exact vc_Mo_styleTokens_32_1 (v_iv (n_v vs 6)) (v_iv (n_v vs 10)) (w_fi ws (n_v vs 0) 157) (w_fi ws (n_v vs 0) 11) (v_iv (Value.int x)) k6 k10 f0 f1 kz_0_11 kz_0_157 ex2
  have nf2 : fc_1 PRD (24, [0, 2], []) ws (vs ++ [Value.int x]) := by
    refine ⟨nf_inA hl rfl, sgq_5 ?_⟩
    · show n_v (vs ++ [Value.int x]) 0 = n_v (vs ++ [Value.int x]) 2
      first | rfl | simp only [e_0, e_2, q2]
  obtain ⟨x0, e0, _, _⟩ := tv_int t10 rfl
  have e1 : v_iv (n_v vs 10) = x0.toInt := by rw [e0]; rfl
  have ho : sy_ofs (vs ++ [Value.int x]) (12, 10, 0, 0) := by
    refine ⟨x, x0, by rw [List.getElem?_append_right (by rw [hl]; decide), hl]; rfl, ?_, ?_, ?_⟩
    · rw [List.getElem?_append_left (by rw [hl]; decide)]; exact n_v_some (by rw [hl]; decide) e0
    · show x0.toInt + 0 ≤ x.toInt; omega
    · show x.toInt ≤ x0.toInt + 0; omega
  exact ⟨(fun _ h => (by cases h)), [Value.int x], ag_one hx, List.forall_mem_cons.mpr ⟨⟨show (20 : Nat) < 100 from by decide, nf0⟩, List.forall_mem_cons.mpr ⟨⟨show (20 : Nat) < 100 from by decide, nf1⟩, List.forall_mem_cons.mpr ⟨⟨show (24 : Nat) < 100 from by decide, nf2⟩, (fun _ h => (by cases h))⟩⟩⟩, List.forall_mem_cons.mpr ⟨ho, (fun _ h => (by cases h))⟩⟩
set_option maxHeartbeats 4000000 in
theorem vc_Mo_styleTokens_33_0 (x6 : Int) (tokens_0 : Int) (pos_0 : Int) (k6 : 0 ≤ x6 ∧ x6 ≤ 1999) (f0 : (tokens_0 ≤ x6) ∧ (pos_0 = x6)) (kz_0_11 : 0 ≤ pos_0 ∧ pos_0 ≤ 2000) (kz_0_157 : 0 ≤ tokens_0 ∧ tokens_0 ≤ 2010) : (tokens_0 ≤ x6) ∧ (pos_0 = x6) := by
  first | assumption | omega | grind
set_option maxHeartbeats 4000000 in
theorem vc_Mo_styleTokens_33_1 (x6 : Int) (x10 : Int) (tokens_0 : Int) (pos_0 : Int) (gx : Int) (k6 : 0 ≤ x6 ∧ x6 ≤ 1999) (k10 : 0 ≤ x10 ∧ x10 ≤ 4001) (f0 : (tokens_0 ≤ x6) ∧ (pos_0 = x6)) (f1 : (-1) * x10 + ((-2) * x6 + 0) ≤ (-4001)) (kz_0_11 : 0 ≤ pos_0 ∧ pos_0 ≤ 2000) (kz_0_157 : 0 ≤ tokens_0 ∧ tokens_0 ≤ 2010) (ex2 : gx = 0 + (1 * x10 + 0)) : (-1) * gx + ((-2) * x6 + 0) ≤ (-4001) := by
  first | assumption | omega | grind
def o_Mo_styleTokens_33 : or_T := (334, 13, [(0, (2, 0, 0, [165])), (2, (2, 0, 0, [165])), (6, (0, 0, 1999, [])), (10, (0, 0, 4001, []))], [(20, [2, 6], [50, 2, 0, 157, 11, 2, 7, 0, 3, 2, 0, 157, 1, 1, 1, 3, 2, 0, 11, 1, 1]), (20, [10, 6], [30, -4001, -1, 0, 0, -2, 0, 0]), (24, [0, 2], [])], [], [(0, 0, 4001, [])], [(20, [2, 6], [50, 2, 0, 157, 11, 2, 7, 0, 3, 2, 0, 157, 1, 1, 1, 3, 2, 0, 11, 1, 1]), (20, [13, 6], [30, -4001, -1, 0, 0, -2, 0, 0]), (24, [0, 2], [])], [(13, 10, 0, 0)], [])
theorem oo_Mo_styleTokens_33 {kA : Nat → ClassId} : or_ok PRD kA GG o_Mo_styleTokens_33 := by
  refine or_mk fun A ta ws vs hD hth hl => ?_
  intro t0 r0 t2 r2 t6 k6 t10 k10 f0 f1 f2
  replace f0 := shm_1294 f0
  replace f1 := shm_1293 f1
  replace f2 := shm_5 f2
  have q2 : n_v vs 2 = n_v vs 0 := f2.symm
  simp only [q2] at f0
  have kz_0_11 := fdq_273 hD hth r0
  have kz_0_157 := fdq_42 hD hth r0
  obtain ⟨x, ex, hx⟩ := iv_ex (ta := ta) (lo := 0) (hi := 4001) (z := 0 + (1 * v_iv (n_v vs 10) + 0)) (by omega) (by omega) (by omega) (by omega)
  have ex2 : v_iv (Value.int x) = 0 + (1 * v_iv (n_v vs 10) + 0) := ex
  have ex3 : 0 ≤ v_iv (Value.int x) ∧ v_iv (Value.int x) ≤ 4001 := tv_rng hx
  have e_0 : n_v (vs ++ [Value.int x]) 0 = n_v vs 0 := n_v_old (by rw [hl]; decide)
  have e_2 : n_v (vs ++ [Value.int x]) 2 = n_v vs 2 := n_v_old (by rw [hl]; decide)
  have e_6 : n_v (vs ++ [Value.int x]) 6 = n_v vs 6 := n_v_old (by rw [hl]; decide)
  have e_13 : n_v (vs ++ [Value.int x]) 13 = Value.int x := n_v_new hl
  have nf0 : fc_1 PRD (20, [2, 6], [50, 2, 0, 157, 11, 2, 7, 0, 3, 2, 0, 157, 1, 1, 1, 3, 2, 0, 11, 1, 1]) ws (vs ++ [Value.int x]) := by
    refine ⟨nf_inA hl rfl, sgq_1294 ?_⟩
    · show (w_fi ws (n_v (vs ++ [Value.int x]) 2) 157 ≤ v_iv (n_v (vs ++ [Value.int x]) 6)) ∧ (w_fi ws (n_v (vs ++ [Value.int x]) 2) 11 = v_iv (n_v (vs ++ [Value.int x]) 6))
      simp only [e_2, e_6, q2]
      exact vc_Mo_styleTokens_33_0 (v_iv (n_v vs 6)) (w_fi ws (n_v vs 0) 157) (w_fi ws (n_v vs 0) 11) k6 f0 kz_0_11 kz_0_157
  have nf1 : fc_1 PRD (20, [13, 6], [30, -4001, -1, 0, 0, -2, 0, 0]) ws (vs ++ [Value.int x]) := by
    refine ⟨nf_inA hl rfl, sgq_1293 ?_⟩
    · show (-1) * v_iv (n_v (vs ++ [Value.int x]) 13) + ((-2) * v_iv (n_v (vs ++ [Value.int x]) 6) + 0) ≤ (-4001)
      simp only [e_6, e_13]
      exact vc_Mo_styleTokens_33_1 (v_iv (n_v vs 6)) (v_iv (n_v vs 10)) (w_fi ws (n_v vs 0) 157) (w_fi ws (n_v vs 0) 11) (v_iv (Value.int x)) k6 k10 f0 f1 kz_0_11 kz_0_157 ex2
  have nf2 : fc_1 PRD (24, [0, 2], []) ws (vs ++ [Value.int x]) := by
    refine ⟨nf_inA hl rfl, sgq_5 ?_⟩
    · show n_v (vs ++ [Value.int x]) 0 = n_v (vs ++ [Value.int x]) 2
      first | rfl | simp only [e_0, e_2, q2]
  obtain ⟨x0, e0, _, _⟩ := tv_int t10 rfl
  have e1 : v_iv (n_v vs 10) = x0.toInt := by rw [e0]; rfl
  have ho : sy_ofs (vs ++ [Value.int x]) (13, 10, 0, 0) := by
    refine ⟨x, x0, by rw [List.getElem?_append_right (by rw [hl]; decide), hl]; rfl, ?_, ?_, ?_⟩
    · rw [List.getElem?_append_left (by rw [hl]; decide)]; exact n_v_some (by rw [hl]; decide) e0
    · show x0.toInt + 0 ≤ x.toInt; omega
    · show x.toInt ≤ x0.toInt + 0; omega
  exact ⟨(fun _ h => (by cases h)), [Value.int x], ag_one hx, List.forall_mem_cons.mpr ⟨⟨show (20 : Nat) < 100 from by decide, nf0⟩, List.forall_mem_cons.mpr ⟨⟨show (20 : Nat) < 100 from by decide, nf1⟩, List.forall_mem_cons.mpr ⟨⟨show (24 : Nat) < 100 from by decide, nf2⟩, (fun _ h => (by cases h))⟩⟩⟩, List.forall_mem_cons.mpr ⟨ho, (fun _ h => (by cases h))⟩⟩
set_option maxHeartbeats 4000000 in
theorem vc_Mo_styleTokens_34_0 (x6 : Int) (tokens_0 : Int) (pos_0 : Int) (k6 : 0 ≤ x6 ∧ x6 ≤ 1999) (f0 : (tokens_0 ≤ x6) ∧ (pos_0 = x6)) (kz_0_11 : 0 ≤ pos_0 ∧ pos_0 ≤ 2000) (kz_0_157 : 0 ≤ tokens_0 ∧ tokens_0 ≤ 2010) : (tokens_0 ≤ x6) ∧ (pos_0 = x6) := by
  first | assumption | omega | grind
set_option maxHeartbeats 4000000 in
theorem vc_Mo_styleTokens_34_1 (x6 : Int) (x10 : Int) (tokens_0 : Int) (pos_0 : Int) (gx : Int) (k6 : 0 ≤ x6 ∧ x6 ≤ 1999) (k10 : 0 ≤ x10 ∧ x10 ≤ 4001) (f0 : (tokens_0 ≤ x6) ∧ (pos_0 = x6)) (f1 : (-1) * x10 + ((-2) * x6 + 0) ≤ (-4001)) (kz_0_11 : 0 ≤ pos_0 ∧ pos_0 ≤ 2000) (kz_0_157 : 0 ≤ tokens_0 ∧ tokens_0 ≤ 2010) (ex2 : gx = 0 + (1 * x10 + 0)) : (-1) * gx + ((-2) * x6 + 0) ≤ (-4001) := by
  first | assumption | omega | grind
def o_Mo_styleTokens_34 : or_T := (334, 14, [(0, (2, 0, 0, [165])), (2, (2, 0, 0, [165])), (6, (0, 0, 1999, [])), (10, (0, 0, 4001, []))], [(20, [2, 6], [50, 2, 0, 157, 11, 2, 7, 0, 3, 2, 0, 157, 1, 1, 1, 3, 2, 0, 11, 1, 1]), (20, [10, 6], [30, -4001, -1, 0, 0, -2, 0, 0]), (24, [0, 2], [])], [], [(0, 0, 4001, [])], [(20, [2, 6], [50, 2, 0, 157, 11, 2, 7, 0, 3, 2, 0, 157, 1, 1, 1, 3, 2, 0, 11, 1, 1]), (20, [14, 6], [30, -4001, -1, 0, 0, -2, 0, 0]), (24, [0, 2], [])], [(14, 10, 0, 0)], [])
theorem oo_Mo_styleTokens_34 {kA : Nat → ClassId} : or_ok PRD kA GG o_Mo_styleTokens_34 := by
  refine or_mk fun A ta ws vs hD hth hl => ?_
  intro t0 r0 t2 r2 t6 k6 t10 k10 f0 f1 f2
  replace f0 := shm_1294 f0
  replace f1 := shm_1293 f1
  replace f2 := shm_5 f2
  have q2 : n_v vs 2 = n_v vs 0 := f2.symm
  simp only [q2] at f0
  have kz_0_11 := fdq_273 hD hth r0
  have kz_0_157 := fdq_42 hD hth r0
  obtain ⟨x, ex, hx⟩ := iv_ex (ta := ta) (lo := 0) (hi := 4001) (z := 0 + (1 * v_iv (n_v vs 10) + 0)) (by omega) (by omega) (by omega) (by omega)
  have ex2 : v_iv (Value.int x) = 0 + (1 * v_iv (n_v vs 10) + 0) := ex
  have ex3 : 0 ≤ v_iv (Value.int x) ∧ v_iv (Value.int x) ≤ 4001 := tv_rng hx
  have e_0 : n_v (vs ++ [Value.int x]) 0 = n_v vs 0 := n_v_old (by rw [hl]; decide)
  have e_2 : n_v (vs ++ [Value.int x]) 2 = n_v vs 2 := n_v_old (by rw [hl]; decide)
  have e_6 : n_v (vs ++ [Value.int x]) 6 = n_v vs 6 := n_v_old (by rw [hl]; decide)
  have e_14 : n_v (vs ++ [Value.int x]) 14 = Value.int x := n_v_new hl
  have nf0 : fc_1 PRD (20, [2, 6], [50, 2, 0, 157, 11, 2, 7, 0, 3, 2, 0, 157, 1, 1, 1, 3, 2, 0, 11, 1, 1]) ws (vs ++ [Value.int x]) := by
    refine ⟨nf_inA hl rfl, sgq_1294 ?_⟩
    · show (w_fi ws (n_v (vs ++ [Value.int x]) 2) 157 ≤ v_iv (n_v (vs ++ [Value.int x]) 6)) ∧ (w_fi ws (n_v (vs ++ [Value.int x]) 2) 11 = v_iv (n_v (vs ++ [Value.int x]) 6))
      simp only [e_2, e_6, q2]
      exact vc_Mo_styleTokens_34_0 (v_iv (n_v vs 6)) (w_fi ws (n_v vs 0) 157) (w_fi ws (n_v vs 0) 11) k6 f0 kz_0_11 kz_0_157
  have nf1 : fc_1 PRD (20, [14, 6], [30, -4001, -1, 0, 0, -2, 0, 0]) ws (vs ++ [Value.int x]) := by
    refine ⟨nf_inA hl rfl, sgq_1293 ?_⟩
    · show (-1) * v_iv (n_v (vs ++ [Value.int x]) 14) + ((-2) * v_iv (n_v (vs ++ [Value.int x]) 6) + 0) ≤ (-4001)
      simp only [e_6, e_14]
      exact vc_Mo_styleTokens_34_1 (v_iv (n_v vs 6)) (v_iv (n_v vs 10)) (w_fi ws (n_v vs 0) 157) (w_fi ws (n_v vs 0) 11) (v_iv (Value.int x)) k6 k10 f0 f1 kz_0_11 kz_0_157 ex2
  have nf2 : fc_1 PRD (24, [0, 2], []) ws (vs ++ [Value.int x]) := by
    refine ⟨nf_inA hl rfl, sgq_5 ?_⟩
    · show n_v (vs ++ [Value.int x]) 0 = n_v (vs ++ [Value.int x]) 2
      first | rfl | simp only [e_0, e_2, q2]
  obtain ⟨x0, e0, _, _⟩ := tv_int t10 rfl
  have e1 : v_iv (n_v vs 10) = x0.toInt := by rw [e0]; rfl
  have ho : sy_ofs (vs ++ [Value.int x]) (14, 10, 0, 0) := by
    refine ⟨x, x0, by rw [List.getElem?_append_right (by rw [hl]; decide), hl]; rfl, ?_, ?_, ?_⟩
    · rw [List.getElem?_append_left (by rw [hl]; decide)]; exact n_v_some (by rw [hl]; decide) e0
    · show x0.toInt + 0 ≤ x.toInt; omega
    · show x.toInt ≤ x0.toInt + 0; omega
  exact ⟨(fun _ h => (by cases h)), [Value.int x], ag_one hx, List.forall_mem_cons.mpr ⟨⟨show (20 : Nat) < 100 from by decide, nf0⟩, List.forall_mem_cons.mpr ⟨⟨show (20 : Nat) < 100 from by decide, nf1⟩, List.forall_mem_cons.mpr ⟨⟨show (24 : Nat) < 100 from by decide, nf2⟩, (fun _ h => (by cases h))⟩⟩⟩, List.forall_mem_cons.mpr ⟨ho, (fun _ h => (by cases h))⟩⟩
set_option maxHeartbeats 4000000 in
theorem vc_Mo_styleTokens_35_0 (x6 : Int) (tokens_0 : Int) (pos_0 : Int) (k6 : 0 ≤ x6 ∧ x6 ≤ 1999) (f0 : (tokens_0 ≤ x6) ∧ (pos_0 = x6)) (kz_0_11 : 0 ≤ pos_0 ∧ pos_0 ≤ 2000) (kz_0_157 : 0 ≤ tokens_0 ∧ tokens_0 ≤ 2010) : (tokens_0 ≤ x6) ∧ (pos_0 = x6) := by
  first | assumption | omega | grind
set_option maxHeartbeats 4000000 in
theorem vc_Mo_styleTokens_35_1 (x6 : Int) (x10 : Int) (tokens_0 : Int) (pos_0 : Int) (gx : Int) (k6 : 0 ≤ x6 ∧ x6 ≤ 1999) (k10 : 0 ≤ x10 ∧ x10 ≤ 4001) (f0 : (tokens_0 ≤ x6) ∧ (pos_0 = x6)) (f1 : (-1) * x10 + ((-2) * x6 + 0) ≤ (-4001)) (kz_0_11 : 0 ≤ pos_0 ∧ pos_0 ≤ 2000) (kz_0_157 : 0 ≤ tokens_0 ∧ tokens_0 ≤ 2010) (ex2 : gx = 0 + (1 * x10 + 0)) : (-1) * gx + ((-2) * x6 + 0) ≤ (-4001) := by
  first | assumption | omega | grind
def o_Mo_styleTokens_35 : or_T := (334, 15, [(0, (2, 0, 0, [165])), (2, (2, 0, 0, [165])), (6, (0, 0, 1999, [])), (10, (0, 0, 4001, []))], [(20, [2, 6], [50, 2, 0, 157, 11, 2, 7, 0, 3, 2, 0, 157, 1, 1, 1, 3, 2, 0, 11, 1, 1]), (20, [10, 6], [30, -4001, -1, 0, 0, -2, 0, 0]), (24, [0, 2], [])], [], [(0, 0, 4001, [])], [(20, [2, 6], [50, 2, 0, 157, 11, 2, 7, 0, 3, 2, 0, 157, 1, 1, 1, 3, 2, 0, 11, 1, 1]), (20, [15, 6], [30, -4001, -1, 0, 0, -2, 0, 0]), (24, [0, 2], [])], [(15, 10, 0, 0)], [])
theorem oo_Mo_styleTokens_35 {kA : Nat → ClassId} : or_ok PRD kA GG o_Mo_styleTokens_35 := by
  refine or_mk fun A ta ws vs hD hth hl => ?_
  intro t0 r0 t2 r2 t6 k6 t10 k10 f0 f1 f2
  replace f0 := shm_1294 f0
  replace f1 := shm_1293 f1
  replace f2 := shm_5 f2
  have q2 : n_v vs 2 = n_v vs 0 := f2.symm
  simp only [q2] at f0
  have kz_0_11 := fdq_273 hD hth r0
  have kz_0_157 := fdq_42 hD hth r0
  obtain ⟨x, ex, hx⟩ := iv_ex (ta := ta) (lo := 0) (hi := 4001) (z := 0 + (1 * v_iv (n_v vs 10) + 0)) (by omega) (by omega) (by omega) (by omega)
  have ex2 : v_iv (Value.int x) = 0 + (1 * v_iv (n_v vs 10) + 0) := ex
  have ex3 : 0 ≤ v_iv (Value.int x) ∧ v_iv (Value.int x) ≤ 4001 := tv_rng hx
  have e_0 : n_v (vs ++ [Value.int x]) 0 = n_v vs 0 := n_v_old (by rw [hl]; decide)
  have e_2 : n_v (vs ++ [Value.int x]) 2 = n_v vs 2 := n_v_old (by rw [hl]; decide)
  have e_6 : n_v (vs ++ [Value.int x]) 6 = n_v vs 6 := n_v_old (by rw [hl]; decide)
  have e_15 : n_v (vs ++ [Value.int x]) 15 = Value.int x := n_v_new hl
  have nf0 : fc_1 PRD (20, [2, 6], [50, 2, 0, 157, 11, 2, 7, 0, 3, 2, 0, 157, 1, 1, 1, 3, 2, 0, 11, 1, 1]) ws (vs ++ [Value.int x]) := by
    refine ⟨nf_inA hl rfl, sgq_1294 ?_⟩
    · show (w_fi ws (n_v (vs ++ [Value.int x]) 2) 157 ≤ v_iv (n_v (vs ++ [Value.int x]) 6)) ∧ (w_fi ws (n_v (vs ++ [Value.int x]) 2) 11 = v_iv (n_v (vs ++ [Value.int x]) 6))
      simp only [e_2, e_6, q2]
      exact vc_Mo_styleTokens_35_0 (v_iv (n_v vs 6)) (w_fi ws (n_v vs 0) 157) (w_fi ws (n_v vs 0) 11) k6 f0 kz_0_11 kz_0_157
  have nf1 : fc_1 PRD (20, [15, 6], [30, -4001, -1, 0, 0, -2, 0, 0]) ws (vs ++ [Value.int x]) := by
    refine ⟨nf_inA hl rfl, sgq_1293 ?_⟩
    · show (-1) * v_iv (n_v (vs ++ [Value.int x]) 15) + ((-2) * v_iv (n_v (vs ++ [Value.int x]) 6) + 0) ≤ (-4001)
      simp only [e_6, e_15]
      exact vc_Mo_styleTokens_35_1 (v_iv (n_v vs 6)) (v_iv (n_v vs 10)) (w_fi ws (n_v vs 0) 157) (w_fi ws (n_v vs 0) 11) (v_iv (Value.int x)) k6 k10 f0 f1 kz_0_11 kz_0_157 ex2
  have nf2 : fc_1 PRD (24, [0, 2], []) ws (vs ++ [Value.int x]) := by
    refine ⟨nf_inA hl rfl, sgq_5 ?_⟩
    · show n_v (vs ++ [Value.int x]) 0 = n_v (vs ++ [Value.int x]) 2
      first | rfl | simp only [e_0, e_2, q2]
  obtain ⟨x0, e0, _, _⟩ := tv_int t10 rfl
  have e1 : v_iv (n_v vs 10) = x0.toInt := by rw [e0]; rfl
  have ho : sy_ofs (vs ++ [Value.int x]) (15, 10, 0, 0) := by
    refine ⟨x, x0, by rw [List.getElem?_append_right (by rw [hl]; decide), hl]; rfl, ?_, ?_, ?_⟩
    · rw [List.getElem?_append_left (by rw [hl]; decide)]; exact n_v_some (by rw [hl]; decide) e0
    · show x0.toInt + 0 ≤ x.toInt; omega
    · show x.toInt ≤ x0.toInt + 0; omega
  exact ⟨(fun _ h => (by cases h)), [Value.int x], ag_one hx, List.forall_mem_cons.mpr ⟨⟨show (20 : Nat) < 100 from by decide, nf0⟩, List.forall_mem_cons.mpr ⟨⟨show (20 : Nat) < 100 from by decide, nf1⟩, List.forall_mem_cons.mpr ⟨⟨show (24 : Nat) < 100 from by decide, nf2⟩, (fun _ h => (by cases h))⟩⟩⟩, List.forall_mem_cons.mpr ⟨ho, (fun _ h => (by cases h))⟩⟩
set_option maxHeartbeats 4000000 in
theorem vc_Mo_styleTokens_36_0 (x6 : Int) (tokens_0 : Int) (pos_0 : Int) (k6 : 0 ≤ x6 ∧ x6 ≤ 1999) (f0 : (tokens_0 ≤ x6) ∧ (pos_0 = x6)) (kz_0_11 : 0 ≤ pos_0 ∧ pos_0 ≤ 2000) (kz_0_157 : 0 ≤ tokens_0 ∧ tokens_0 ≤ 2010) : (tokens_0 ≤ x6) ∧ (pos_0 = x6) := by
  first | assumption | omega | grind
set_option maxHeartbeats 4000000 in
theorem vc_Mo_styleTokens_36_1 (x6 : Int) (x10 : Int) (tokens_0 : Int) (pos_0 : Int) (gx : Int) (k6 : 0 ≤ x6 ∧ x6 ≤ 1999) (k10 : 0 ≤ x10 ∧ x10 ≤ 4001) (f0 : (tokens_0 ≤ x6) ∧ (pos_0 = x6)) (f1 : (-1) * x10 + ((-2) * x6 + 0) ≤ (-4001)) (kz_0_11 : 0 ≤ pos_0 ∧ pos_0 ≤ 2000) (kz_0_157 : 0 ≤ tokens_0 ∧ tokens_0 ≤ 2010) (ex2 : gx = 0 + (1 * x10 + 0)) : (-1) * gx + ((-2) * x6 + 0) ≤ (-4001) := by
  first | assumption | omega | grind
def o_Mo_styleTokens_36 : or_T := (334, 16, [(0, (2, 0, 0, [165])), (2, (2, 0, 0, [165])), (6, (0, 0, 1999, [])), (10, (0, 0, 4001, []))], [(20, [2, 6], [50, 2, 0, 157, 11, 2, 7, 0, 3, 2, 0, 157, 1, 1, 1, 3, 2, 0, 11, 1, 1]), (20, [10, 6], [30, -4001, -1, 0, 0, -2, 0, 0]), (24, [0, 2], [])], [], [(0, 0, 4001, [])], [(20, [2, 6], [50, 2, 0, 157, 11, 2, 7, 0, 3, 2, 0, 157, 1, 1, 1, 3, 2, 0, 11, 1, 1]), (20, [16, 6], [30, -4001, -1, 0, 0, -2, 0, 0]), (24, [0, 2], [])], [(16, 10, 0, 0)], [])
theorem oo_Mo_styleTokens_36 {kA : Nat → ClassId} : or_ok PRD kA GG o_Mo_styleTokens_36 := by
  refine or_mk fun A ta ws vs hD hth hl => ?_
  intro t0 r0 t2 r2 t6 k6 t10 k10 f0 f1 f2
  replace f0 := shm_1294 f0
  replace f1 := shm_1293 f1
  replace f2 := shm_5 f2
  have q2 : n_v vs 2 = n_v vs 0 := f2.symm
  simp only [q2] at f0
  have kz_0_11 := fdq_273 hD hth r0
  have kz_0_157 := fdq_42 hD hth r0
  obtain ⟨x, ex, hx⟩ := iv_ex (ta := ta) (lo := 0) (hi := 4001) (z := 0 + (1 * v_iv (n_v vs 10) + 0)) (by omega) (by omega) (by omega) (by omega)
  have ex2 : v_iv (Value.int x) = 0 + (1 * v_iv (n_v vs 10) + 0) := ex
  have ex3 : 0 ≤ v_iv (Value.int x) ∧ v_iv (Value.int x) ≤ 4001 := tv_rng hx
  have e_0 : n_v (vs ++ [Value.int x]) 0 = n_v vs 0 := n_v_old (by rw [hl]; decide)
  have e_2 : n_v (vs ++ [Value.int x]) 2 = n_v vs 2 := n_v_old (by rw [hl]; decide)
  have e_6 : n_v (vs ++ [Value.int x]) 6 = n_v vs 6 := n_v_old (by rw [hl]; decide)
  have e_16 : n_v (vs ++ [Value.int x]) 16 = Value.int x := n_v_new hl
  have nf0 : fc_1 PRD (20, [2, 6], [50, 2, 0, 157, 11, 2, 7, 0, 3, 2, 0, 157, 1, 1, 1, 3, 2, 0, 11, 1, 1]) ws (vs ++ [Value.int x]) := by
    refine ⟨nf_inA hl rfl, sgq_1294 ?_⟩
    · show (w_fi ws (n_v (vs ++ [Value.int x]) 2) 157 ≤ v_iv (n_v (vs ++ [Value.int x]) 6)) ∧ (w_fi ws (n_v (vs ++ [Value.int x]) 2) 11 = v_iv (n_v (vs ++ [Value.int x]) 6))
      simp only [e_2, e_6, q2]
      exact vc_Mo_styleTokens_36_0 (v_iv (n_v vs 6)) (w_fi ws (n_v vs 0) 157) (w_fi ws (n_v vs 0) 11) k6 f0 kz_0_11 kz_0_157
  have nf1 : fc_1 PRD (20, [16, 6], [30, -4001, -1, 0, 0, -2, 0, 0]) ws (vs ++ [Value.int x]) := by
    refine ⟨nf_inA hl rfl, sgq_1293 ?_⟩
    · show (-1) * v_iv (n_v (vs ++ [Value.int x]) 16) + ((-2) * v_iv (n_v (vs ++ [Value.int x]) 6) + 0) ≤ (-4001)
      simp only [e_6, e_16]
      exact vc_Mo_styleTokens_36_1 (v_iv (n_v vs 6)) (v_iv (n_v vs 10)) (w_fi ws (n_v vs 0) 157) (w_fi ws (n_v vs 0) 11) (v_iv (Value.int x)) k6 k10 f0 f1 kz_0_11 kz_0_157 ex2
  have nf2 : fc_1 PRD (24, [0, 2], []) ws (vs ++ [Value.int x]) := by
    refine ⟨nf_inA hl rfl, sgq_5 ?_⟩
    · show n_v (vs ++ [Value.int x]) 0 = n_v (vs ++ [Value.int x]) 2
      first | rfl | simp only [e_0, e_2, q2]
  obtain ⟨x0, e0, _, _⟩ := tv_int t10 rfl
  have e1 : v_iv (n_v vs 10) = x0.toInt := by rw [e0]; rfl
  have ho : sy_ofs (vs ++ [Value.int x]) (16, 10, 0, 0) := by
    refine ⟨x, x0, by rw [List.getElem?_append_right (by rw [hl]; decide), hl]; rfl, ?_, ?_, ?_⟩
    · rw [List.getElem?_append_left (by rw [hl]; decide)]; exact n_v_some (by rw [hl]; decide) e0
    · show x0.toInt + 0 ≤ x.toInt; omega
    · show x.toInt ≤ x0.toInt + 0; omega
  exact ⟨(fun _ h => (by cases h)), [Value.int x], ag_one hx, List.forall_mem_cons.mpr ⟨⟨show (20 : Nat) < 100 from by decide, nf0⟩, List.forall_mem_cons.mpr ⟨⟨show (20 : Nat) < 100 from by decide, nf1⟩, List.forall_mem_cons.mpr ⟨⟨show (24 : Nat) < 100 from by decide, nf2⟩, (fun _ h => (by cases h))⟩⟩⟩, List.forall_mem_cons.mpr ⟨ho, (fun _ h => (by cases h))⟩⟩
set_option maxHeartbeats 4000000 in
theorem vc_Mo_styleTokens_37_0 (x6 : Int) (tokens_0 : Int) (pos_0 : Int) (k6 : 0 ≤ x6 ∧ x6 ≤ 1999) (f0 : (tokens_0 ≤ x6) ∧ (pos_0 = x6)) (kz_0_11 : 0 ≤ pos_0 ∧ pos_0 ≤ 2000) (kz_0_157 : 0 ≤ tokens_0 ∧ tokens_0 ≤ 2010) : (tokens_0 ≤ x6) ∧ (pos_0 = x6) := by
  first | assumption | omega | grind
set_option maxHeartbeats 4000000 in
theorem vc_Mo_styleTokens_37_1 (x6 : Int) (x10 : Int) (tokens_0 : Int) (pos_0 : Int) (gx : Int) (k6 : 0 ≤ x6 ∧ x6 ≤ 1999) (k10 : 0 ≤ x10 ∧ x10 ≤ 4001) (f0 : (tokens_0 ≤ x6) ∧ (pos_0 = x6)) (f1 : (-1) * x10 + ((-2) * x6 + 0) ≤ (-4001)) (kz_0_11 : 0 ≤ pos_0 ∧ pos_0 ≤ 2000) (kz_0_157 : 0 ≤ tokens_0 ∧ tokens_0 ≤ 2010) (ex2 : gx = 0 + (1 * x10 + 0)) : (-1) * gx + ((-2) * x6 + 0) ≤ (-4001) := by
  first | assumption | omega | grind
def o_Mo_styleTokens_37 : or_T := (334, 17, [(0, (2, 0, 0, [165])), (2, (2, 0, 0, [165])), (6, (0, 0, 1999, [])), (10, (0, 0, 4001, []))], [(20, [2, 6], [50, 2, 0, 157, 11, 2, 7, 0, 3, 2, 0, 157, 1, 1, 1, 3, 2, 0, 11, 1, 1]), (20, [10, 6], [30, -4001, -1, 0, 0, -2, 0, 0]), (24, [0, 2], [])], [], [(0, 0, 4001, [])], [(20, [2, 6], [50, 2, 0, 157, 11, 2, 7, 0, 3, 2, 0, 157, 1, 1, 1, 3, 2, 0, 11, 1, 1]), (20, [17, 6], [30, -4001, -1, 0, 0, -2, 0, 0]), (24, [0, 2], [])], [(17, 10, 0, 0)], [])
theorem oo_Mo_styleTokens_37 {kA : Nat → ClassId} : or_ok PRD kA GG o_Mo_styleTokens_37 := by
  refine or_mk fun A ta ws vs hD hth hl => ?_
  intro t0 r0 t2 r2 t6 k6 t10 k10 f0 f1 f2
  replace f0 := shm_1294 f0
  replace f1 := shm_1293 f1
  replace f2 := shm_5 f2
  have q2 : n_v vs 2 = n_v vs 0 := f2.symm
  simp only [q2] at f0
  have kz_0_11 := fdq_273 hD hth r0
  have kz_0_157 := fdq_42 hD hth r0
  obtain ⟨x, ex, hx⟩ := iv_ex (ta := ta) (lo := 0) (hi := 4001) (z := 0 + (1 * v_iv (n_v vs 10) + 0)) (by omega) (by omega) (by omega) (by omega)
  have ex2 : v_iv (Value.int x) = 0 + (1 * v_iv (n_v vs 10) + 0) := ex
  have ex3 : 0 ≤ v_iv (Value.int x) ∧ v_iv (Value.int x) ≤ 4001 := tv_rng hx
  have e_0 : n_v (vs ++ [Value.int x]) 0 = n_v vs 0 := n_v_old (by rw [hl]; decide)
  have e_2 : n_v (vs ++ [Value.int x]) 2 = n_v vs 2 := n_v_old (by rw [hl]; decide)
  have e_6 : n_v (vs ++ [Value.int x]) 6 = n_v vs 6 := n_v_old (by rw [hl]; decide)
  have e_17 : n_v (vs ++ [Value.int x]) 17 = Value.int x := n_v_new hl
  have nf0 : fc_1 PRD (20, [2, 6], [50, 2, 0, 157, 11, 2, 7, 0, 3, 2, 0, 157, 1, 1, 1, 3, 2, 0, 11, 1, 1]) ws (vs ++ [Value.int x]) := by
    refine ⟨nf_inA hl rfl, sgq_1294 ?_⟩
    · show (w_fi ws (n_v (vs ++ [Value.int x]) 2) 157 ≤ v_iv (n_v (vs ++ [Value.int x]) 6)) ∧ (w_fi ws (n_v (vs ++ [Value.int x]) 2) 11 = v_iv (n_v (vs ++ [Value.int x]) 6))
      simp only [e_2, e_6, q2]
      exact vc_Mo_styleTokens_37_0 (v_iv (n_v vs 6)) (w_fi ws (n_v vs 0) 157) (w_fi ws (n_v vs 0) 11) k6 f0 kz_0_11 kz_0_157
  have nf1 : fc_1 PRD (20, [17, 6], [30, -4001, -1, 0, 0, -2, 0, 0]) ws (vs ++ [Value.int x]) := by
    refine ⟨nf_inA hl rfl, sgq_1293 ?_⟩
    · show (-1) * v_iv (n_v (vs ++ [Value.int x]) 17) + ((-2) * v_iv (n_v (vs ++ [Value.int x]) 6) + 0) ≤ (-4001)
      simp only [e_6, e_17]
      exact vc_Mo_styleTokens_37_1 (v_iv (n_v vs 6)) (v_iv (n_v vs 10)) (w_fi ws (n_v vs 0) 157) (w_fi ws (n_v vs 0) 11) (v_iv (Value.int x)) k6 k10 f0 f1 kz_0_11 kz_0_157 ex2
  have nf2 : fc_1 PRD (24, [0, 2], []) ws (vs ++ [Value.int x]) := by
    refine ⟨nf_inA hl rfl, sgq_5 ?_⟩
    · show n_v (vs ++ [Value.int x]) 0 = n_v (vs ++ [Value.int x]) 2
      first | rfl | simp only [e_0, e_2, q2]
  obtain ⟨x0, e0, _, _⟩ := tv_int t10 rfl
  have e1 : v_iv (n_v vs 10) = x0.toInt := by rw [e0]; rfl
  have ho : sy_ofs (vs ++ [Value.int x]) (17, 10, 0, 0) := by
    refine ⟨x, x0, by rw [List.getElem?_append_right (by rw [hl]; decide), hl]; rfl, ?_, ?_, ?_⟩
    · rw [List.getElem?_append_left (by rw [hl]; decide)]; exact n_v_some (by rw [hl]; decide) e0
    · show x0.toInt + 0 ≤ x.toInt; omega
    · show x.toInt ≤ x0.toInt + 0; omega
  exact ⟨(fun _ h => (by cases h)), [Value.int x], ag_one hx, List.forall_mem_cons.mpr ⟨⟨show (20 : Nat) < 100 from by decide, nf0⟩, List.forall_mem_cons.mpr ⟨⟨show (20 : Nat) < 100 from by decide, nf1⟩, List.forall_mem_cons.mpr ⟨⟨show (24 : Nat) < 100 from by decide, nf2⟩, (fun _ h => (by cases h))⟩⟩⟩, List.forall_mem_cons.mpr ⟨ho, (fun _ h => (by cases h))⟩⟩

set_option maxHeartbeats 4000000 in
theorem vc_Mo_styleTokens_38_0 (x6 : Int) (tokens_0 : Int) (pos_0 : Int) (k6 : 0 ≤ x6 ∧ x6 ≤ 1999) (f0 : (tokens_0 ≤ x6) ∧ (pos_0 = x6)) (kz_0_11 : 0 ≤ pos_0 ∧ pos_0 ≤ 2000) (kz_0_157 : 0 ≤ tokens_0 ∧ tokens_0 ≤ 2010) : (tokens_0 ≤ x6) ∧ (pos_0 = x6) := by
  first | assumption | omega | grind
set_option maxHeartbeats 4000000 in
theorem vc_Mo_styleTokens_38_1 (x6 : Int) (x10 : Int) (tokens_0 : Int) (pos_0 : Int) (gx : Int) (k6 : 0 ≤ x6 ∧ x6 ≤ 1999) (k10 : 0 ≤ x10 ∧ x10 ≤ 4001) (f0 : (tokens_0 ≤ x6) ∧ (pos_0 = x6)) (f1 : (-1) * x10 + ((-2) * x6 + 0) ≤ (-4001)) (kz_0_11 : 0 ≤ pos_0 ∧ pos_0 ≤ 2000) (kz_0_157 : 0 ≤ tokens_0 ∧ tokens_0 ≤ 2010) (ex2 : gx = 0 + (1 * x10 + 0)) : (-1) * gx + ((-2) * x6 + 0) ≤ (-4001) := by
  first | assumption | omega | grind
def o_Mo_styleTokens_38 : or_T := (334, 18, [(0, (2, 0, 0, [165])), (2, (2, 0, 0, [165])), (6, (0, 0, 1999, [])), (10, (0, 0, 4001, []))], [(20, [2, 6], [50, 2, 0, 157, 11, 2, 7, 0, 3, 2, 0, 157, 1, 1, 1, 3, 2, 0, 11, 1, 1]), (20, [10, 6], [30, -4001, -1, 0, 0, -2, 0, 0]), (24, [0, 2], [])], [], [(0, 0, 4001, [])], [(20, [2, 6], [50, 2, 0, 157, 11, 2, 7, 0, 3, 2, 0, 157, 1, 1, 1, 3, 2, 0, 11, 1, 1]), (20, [18, 6], [30, -4001, -1, 0, 0, -2, 0, 0]), (24, [0, 2], [])], [(18, 10, 0, 0)], [])
theorem oo_Mo_styleTokens_38 {kA : Nat → ClassId} : or_ok PRD kA GG o_Mo_styleTokens_38 := by
  refine or_mk fun A ta ws vs hD hth hl => ?_
  intro t0 r0 t2 r2 t6 k6 t10 k10 f0 f1 f2
  replace f0 := shm_1294 f0
  replace f1 := shm_1293 f1
  replace f2 := shm_5 f2
  have q2 : n_v vs 2 = n_v vs 0 := f2.symm
  simp only [q2] at f0
  have kz_0_11 := fdq_273 hD hth r0
  have kz_0_157 := fdq_42 hD hth r0
  obtain ⟨x, ex, hx⟩ := iv_ex (ta := ta) (lo := 0) (hi := 4001) (z := 0 + (1 * v_iv (n_v vs 10) + 0)) (by omega) (by omega) (by omega) (by omega)
  have ex2 : v_iv (Value.int x) = 0 + (1 * v_iv (n_v vs 10) + 0) := ex
  have ex3 : 0 ≤ v_iv (Value.int x) ∧ v_iv (Value.int x) ≤ 4001 := tv_rng hx
  have e_0 : n_v (vs ++ [Value.int x]) 0 = n_v vs 0 := n_v_old (by rw [hl]; decide)
  have e_2 : n_v (vs ++ [Value.int x]) 2 = n_v vs 2 := n_v_old (by rw [hl]; decide)
  have e_6 : n_v (vs ++ [Value.int x]) 6 = n_v vs 6 := n_v_old (by rw [hl]; decide)
  have e_18 : n_v (vs ++ [Value.int x]) 18 = Value.int x := n_v_new hl
  have nf0 : fc_1 PRD (20, [2, 6], [50, 2, 0, 157, 11, 2, 7, 0, 3, 2, 0, 157, 1, 1, 1, 3, 2, 0, 11, 1, 1]) ws (vs ++ [Value.int x]) := by
    refine ⟨nf_inA hl rfl, sgq_1294 ?_⟩
    · show (w_fi ws (n_v (vs ++ [Value.int x]) 2) 157 ≤ v_iv (n_v (vs ++ [Value.int x]) 6)) ∧ (w_fi ws (n_v (vs ++ [Value.int x]) 2) 11 = v_iv (n_v (vs ++ [Value.int x]) 6))
      simp only [e_2, e_6, q2]
      exact vc_Mo_styleTokens_38_0 (v_iv (n_v vs 6)) (w_fi ws (n_v vs 0) 157) (w_fi ws (n_v vs 0) 11) k6 f0 kz_0_11 kz_0_157
  have nf1 : fc_1 PRD (20, [18, 6], [30, -4001, -1, 0, 0, -2, 0, 0]) ws (vs ++ [Value.int x]) := by
    refine ⟨nf_inA hl rfl, sgq_1293 ?_⟩
    · show (-1) * v_iv (n_v (vs ++ [Value.int x]) 18) + ((-2) * v_iv (n_v (vs ++ [Value.int x]) 6) + 0) ≤ (-4001)
      simp only [e_6, e_18]
      exact vc_Mo_styleTokens_38_1 (v_iv (n_v vs 6)) (v_iv (n_v vs 10)) (w_fi ws (n_v vs 0) 157) (w_fi ws (n_v vs 0) 11) (v_iv (Value.int x)) k6 k10 f0 f1 kz_0_11 kz_0_157 ex2
  have nf2 : fc_1 PRD (24, [0, 2], []) ws (vs ++ [Value.int x]) := by
    refine ⟨nf_inA hl rfl, sgq_5 ?_⟩
    · show n_v (vs ++ [Value.int x]) 0 = n_v (vs ++ [Value.int x]) 2
      first | rfl | simp only [e_0, e_2, q2]
  obtain ⟨x0, e0, _, _⟩ := tv_int t10 rfl
  have e1 : v_iv (n_v vs 10) = x0.toInt := by rw [e0]; rfl
  have ho : sy_ofs (vs ++ [Value.int x]) (18, 10, 0, 0) := by
    refine ⟨x, x0, by rw [List.getElem?_append_right (by rw [hl]; decide), hl]; rfl, ?_, ?_, ?_⟩
    · rw [List.getElem?_append_left (by rw [hl]; decide)]; exact n_v_some (by rw [hl]; decide) e0
    · show x0.toInt + 0 ≤ x.toInt; omega
    · show x.toInt ≤ x0.toInt + 0; omega
  exact ⟨(fun _ h => (by cases h)), [Value.int x], ag_one hx, List.forall_mem_cons.mpr ⟨⟨show (20 : Nat) < 100 from by decide, nf0⟩, List.forall_mem_cons.mpr ⟨⟨show (20 : Nat) < 100 from by decide, nf1⟩, List.forall_mem_cons.mpr ⟨⟨show (24 : Nat) < 100 from by decide, nf2⟩, (fun _ h => (by cases h))⟩⟩⟩, List.forall_mem_cons.mpr ⟨ho, (fun _ h => (by cases h))⟩⟩
set_option maxHeartbeats 4000000 in
theorem vc_Mo_styleTokens_39_0 (x6 : Int) (tokens_0 : Int) (pos_0 : Int) (k6 : 0 ≤ x6 ∧ x6 ≤ 1999) (f0 : (tokens_0 ≤ x6) ∧ (pos_0 = x6)) (kz_0_11 : 0 ≤ pos_0 ∧ pos_0 ≤ 2000) (kz_0_157 : 0 ≤ tokens_0 ∧ tokens_0 ≤ 2010) : (tokens_0 ≤ x6) ∧ (pos_0 = x6) := by
  first | assumption | omega | grind
set_option maxHeartbeats 4000000 in
theorem vc_Mo_styleTokens_39_1 (x6 : Int) (x10 : Int) (tokens_0 : Int) (pos_0 : Int) (gx : Int) (k6 : 0 ≤ x6 ∧ x6 ≤ 1999) (k10 : 0 ≤ x10 ∧ x10 ≤ 4001) (f0 : (tokens_0 ≤ x6) ∧ (pos_0 = x6)) (f1 : (-1) * x10 + ((-2) * x6 + 0) ≤ (-4001)) (kz_0_11 : 0 ≤ pos_0 ∧ pos_0 ≤ 2000) (kz_0_157 : 0 ≤ tokens_0 ∧ tokens_0 ≤ 2010) (ex2 : gx = 0 + (1 * x10 + 0)) : (-1) * gx + ((-2) * x6 + 0) ≤ (-4001) := by
  first | assumption | omega | grind
def o_Mo_styleTokens_39 : or_T := (334, 19, [(0, (2, 0, 0, [165])), (2, (2, 0, 0, [165])), (6, (0, 0, 1999, [])), (10, (0, 0, 4001, []))], [(20, [2, 6], [50, 2, 0, 157, 11, 2, 7, 0, 3, 2, 0, 157, 1, 1, 1, 3, 2, 0, 11, 1, 1]), (20, [10, 6], [30, -4001, -1, 0, 0, -2, 0, 0]), (24, [0, 2], [])], [], [(0, 0, 4001, [])], [(20, [2, 6], [50, 2, 0, 157, 11, 2, 7, 0, 3, 2, 0, 157, 1, 1, 1, 3, 2, 0, 11, 1, 1]), (20, [19, 6], [30, -4001, -1, 0, 0, -2, 0, 0]), (24, [0, 2], [])], [(19, 10, 0, 0)], [])
theorem oo_Mo_styleTokens_39 {kA : Nat → ClassId} : or_ok PRD kA GG o_Mo_styleTokens_39 := by
  refine or_mk fun A ta ws vs hD hth hl => ?_
  intro t0 r0 t2 r2 t6 k6 t10 k10 f0 f1 f2
  replace f0 := shm_1294 f0
  replace f1 := shm_1293 f1
  replace f2 := shm_5 f2
  have q2 : n_v vs 2 = n_v vs 0 := f2.symm
  simp only [q2] at f0
  have kz_0_11 := fdq_273 hD hth r0
  have kz_0_157 := fdq_42 hD hth r0
  obtain ⟨x, ex, hx⟩ := iv_ex (ta := ta) (lo := 0) (hi := 4001) (z := 0 + (1 * v_iv (n_v vs 10) + 0)) (by omega) (by omega) (by omega) (by omega)
  have ex2 : v_iv (Value.int x) = 0 + (1 * v_iv (n_v vs 10) + 0) := ex
  have ex3 : 0 ≤ v_iv (Value.int x) ∧ v_iv (Value.int x) ≤ 4001 := tv_rng hx
  have e_0 : n_v (vs ++ [Value.int x]) 0 = n_v vs 0 := n_v_old (by rw [hl]; decide)
  have e_2 : n_v (vs ++ [Value.int x]) 2 = n_v vs 2 := n_v_old (by rw [hl]; decide)
  have e_6 : n_v (vs ++ [Value.int x]) 6 = n_v vs 6 := n_v_old (by rw [hl]; decide)
  have e_19 : n_v (vs ++ [Value.int x]) 19 = Value.int x := n_v_new hl
  have nf0 : fc_1 PRD (20, [2, 6], [50, 2, 0, 157, 11, 2, 7, 0, 3, 2, 0, 157, 1, 1, 1, 3, 2, 0, 11, 1, 1]) ws (vs ++ [Value.int x]) := by
    refine ⟨nf_inA hl rfl, sgq_1294 ?_⟩
    · show (w_fi ws (n_v (vs ++ [Value.int x]) 2) 157 ≤ v_iv (n_v (vs ++ [Value.int x]) 6)) ∧ (w_fi ws (n_v (vs ++ [Value.int x]) 2) 11 = v_iv (n_v (vs ++ [Value.int x]) 6))
      simp only [e_2, e_6, q2]
      exact vc_Mo_styleTokens_39_0 (v_iv (n_v vs 6)) (w_fi ws (n_v vs 0) 157) (w_fi ws (n_v vs 0) 11) k6 f0 kz_0_11 kz_0_157
  have nf1 : fc_1 PRD (20, [19, 6], [30, -4001, -1, 0, 0, -2, 0, 0]) ws (vs ++ [Value.int x]) := by
    refine ⟨nf_inA hl rfl, sgq_1293 ?_⟩
    · show (-1) * v_iv (n_v (vs ++ [Value.int x]) 19) + ((-2) * v_iv (n_v (vs ++ [Value.int x]) 6) + 0) ≤ (-4001)
      simp only [e_6, e_19]
      exact vc_Mo_styleTokens_39_1 (v_iv (n_v vs 6)) (v_iv (n_v vs 10)) (w_fi ws (n_v vs 0) 157) (w_fi ws (n_v vs 0) 11) (v_iv (Value.int x)) k6 k10 f0 f1 kz_0_11 kz_0_157 ex2
  have nf2 : fc_1 PRD (24, [0, 2], []) ws (vs ++ [Value.int x]) := by
    refine ⟨nf_inA hl rfl, sgq_5 ?_⟩
    · show n_v (vs ++ [Value.int x]) 0 = n_v (vs ++ [Value.int x]) 2
      first | rfl | simp only [e_0, e_2, q2]
  obtain ⟨x0, e0, _, _⟩ := tv_int t10 rfl
  have e1 : v_iv (n_v vs 10) = x0.toInt := by rw [e0]; rfl
  have ho : sy_ofs (vs ++ [Value.int x]) (19, 10, 0, 0) := by
    refine ⟨x, x0, by rw [List.getElem?_append_right (by rw [hl]; decide), hl]; rfl, ?_, ?_, ?_⟩
    · rw [List.getElem?_append_left (by rw [hl]; decide)]; exact n_v_some (by rw [hl]; decide) e0
    · show x0.toInt + 0 ≤ x.toInt; omega
    · show x.toInt ≤ x0.toInt + 0; omega
  exact ⟨(fun _ h => (by cases h)), [Value.int x], ag_one hx, List.forall_mem_cons.mpr ⟨⟨show (20 : Nat) < 100 from by decide, nf0⟩, List.forall_mem_cons.mpr ⟨⟨show (20 : Nat) < 100 from by decide, nf1⟩, List.forall_mem_cons.mpr ⟨⟨show (24 : Nat) < 100 from by decide, nf2⟩, (fun _ h => (by cases h))⟩⟩⟩, List.forall_mem_cons.mpr ⟨ho, (fun _ h => (by cases h))⟩⟩
set_option maxHeartbeats 4000000 in
theorem vc_Mo_styleTokens_40_0 (x6 : Int) (tokens_0 : Int) (pos_0 : Int) (k6 : 0 ≤ x6 ∧ x6 ≤ 1999) (f0 : (tokens_0 ≤ x6) ∧ (pos_0 = x6)) (kz_0_11 : 0 ≤ pos_0 ∧ pos_0 ≤ 2000) (kz_0_157 : 0 ≤ tokens_0 ∧ tokens_0 ≤ 2010) : (tokens_0 ≤ x6) ∧ (pos_0 = x6) := by
  first | assumption | omega | grind
set_option maxHeartbeats 4000000 in
theorem vc_Mo_styleTokens_40_1 (x6 : Int) (x10 : Int) (tokens_0 : Int) (pos_0 : Int) (gx : Int) (k6 : 0 ≤ x6 ∧ x6 ≤ 1999) (k10 : 0 ≤ x10 ∧ x10 ≤ 4001) (f0 : (tokens_0 ≤ x6) ∧ (pos_0 = x6)) (f1 : (-1) * x10 + ((-2) * x6 + 0) ≤ (-4001)) (kz_0_11 : 0 ≤ pos_0 ∧ pos_0 ≤ 2000) (kz_0_157 : 0 ≤ tokens_0 ∧ tokens_0 ≤ 2010) (ex2 : gx = 0 + (1 * x10 + 0)) : (-1) * gx + ((-2) * x6 + 0) ≤ (-4001) := by
  first | assumption | omega | grind
def o_Mo_styleTokens_40 : or_T := (334, 20, [(0, (2, 0, 0, [165])), (2, (2, 0, 0, [165])), (6, (0, 0, 1999, [])), (10, (0, 0, 4001, []))], [(20, [2, 6], [50, 2, 0, 157, 11, 2, 7, 0, 3, 2, 0, 157, 1, 1, 1, 3, 2, 0, 11, 1, 1]), (20, [10, 6], [30, -4001, -1, 0, 0, -2, 0, 0]), (24, [0, 2], [])], [], [(0, 0, 4001, [])], [(20, [2, 6], [50, 2, 0, 157, 11, 2, 7, 0, 3, 2, 0, 157, 1, 1, 1, 3, 2, 0, 11, 1, 1]), (20, [20, 6], [30, -4001, -1, 0, 0, -2, 0, 0]), (24, [0, 2], [])], [(20, 10, 0, 0)], [])
theorem oo_Mo_styleTokens_40 {kA : Nat → ClassId} : or_ok PRD kA GG o_Mo_styleTokens_40 := by
  refine or_mk fun A ta ws vs hD hth hl => ?_
  intro t0 r0 t2 r2 t6 k6 t10 k10 f0 f1 f2
  replace f0 := shm_1294 f0
  replace f1 := shm_1293 f1
  replace f2 := shm_5 f2
  have q2 : n_v vs 2 = n_v vs 0 := f2.symm
  simp only [q2] at f0
  have kz_0_11 := fdq_273 hD hth r0
  have kz_0_157 := fdq_42 hD hth r0
  obtain ⟨x, ex, hx⟩ := iv_ex (ta := ta) (lo := 0) (hi := 4001) (z := 0 + (1 * v_iv (n_v vs 10) + 0)) (by omega) (by omega) (by omega) (by omega)
  have ex2 : v_iv (Value.int x) = 0 + (1 * v_iv (n_v vs 10) + 0) := ex
  have ex3 : 0 ≤ v_iv (Value.int x) ∧ v_iv (Value.int x) ≤ 4001 := tv_rng hx
  have e_0 : n_v (vs ++ [Value.int x]) 0 = n_v vs 0 := n_v_old (by rw [hl]; decide)
  have e_2 : n_v (vs ++ [Value.int x]) 2 = n_v vs 2 := n_v_old (by rw [hl]; decide)
  have e_6 : n_v (vs ++ [Value.int x]) 6 = n_v vs 6 := n_v_old (by rw [hl]; decide)
  have e_20 : n_v (vs ++ [Value.int x]) 20 = Value.int x := n_v_new hl
  have nf0 : fc_1 PRD (20, [2, 6], [50, 2, 0, 157, 11, 2, 7, 0, 3, 2, 0, 157, 1, 1, 1, 3, 2, 0, 11, 1, 1]) ws (vs ++ [Value.int x]) := by
    refine ⟨nf_inA hl rfl, sgq_1294 ?_⟩
    · show (w_fi ws (n_v (vs ++ [Value.int x]) 2) 157 ≤ v_iv (n_v (vs ++ [Value.int x]) 6)) ∧ (w_fi ws (n_v (vs ++ [Value.int x]) 2) 11 = v_iv (n_v (vs ++ [Value.int x]) 6))
      simp only [e_2, e_6, q2]
      exact vc_Mo_styleTokens_40_0 (v_iv (n_v vs 6)) (w_fi ws (n_v vs 0) 157) (w_fi ws (n_v vs 0) 11) k6 f0 kz_0_11 kz_0_157
  have nf1 : fc_1 PRD (20, [20, 6], [30, -4001, -1, 0, 0, -2, 0, 0]) ws (vs ++ [Value.int x]) := by
    refine ⟨nf_inA hl rfl, sgq_1293 ?_⟩
    · show (-1) * v_iv (n_v (vs ++ [Value.int x]) 20) + ((-2) * v_iv (n_v (vs ++ [Value.int x]) 6) + 0) ≤ (-4001)
      simp only [e_6, e_20]
      exact vc_Mo_styleTokens_40_1 (v_iv (n_v vs 6)) (v_iv (n_v vs 10)) (w_fi ws (n_v vs 0) 157) (w_fi ws (n_v vs 0) 11) (v_iv (Value.int x)) k6 k10 f0 f1 kz_0_11 kz_0_157 ex2
  have nf2 : fc_1 PRD (24, [0, 2], []) ws (vs ++ [Value.int x]) := by
    refine ⟨nf_inA hl rfl, sgq_5 ?_⟩
    · show n_v (vs ++ [Value.int x]) 0 = n_v (vs ++ [Value.int x]) 2
      first | rfl | simp only [e_0, e_2, q2]
  obtain ⟨x0, e0, _, _⟩ := tv_int t10 rfl
  have e1 : v_iv (n_v vs 10) = x0.toInt := by rw [e0]; rfl
  have ho : sy_ofs (vs ++ [Value.int x]) (20, 10, 0, 0) := by
    refine ⟨x, x0, by rw [List.getElem?_append_right (by rw [hl]; decide), hl]; rfl, ?_, ?_, ?_⟩
    · rw [List.getElem?_append_left (by rw [hl]; decide)]; exact n_v_some (by rw [hl]; decide) e0
    · show x0.toInt + 0 ≤ x.toInt; omega
    · show x.toInt ≤ x0.toInt + 0; omega
  exact ⟨(fun _ h => (by cases h)), [Value.int x], ag_one hx, List.forall_mem_cons.mpr ⟨⟨show (20 : Nat) < 100 from by decide, nf0⟩, List.forall_mem_cons.mpr ⟨⟨show (20 : Nat) < 100 from by decide, nf1⟩, List.forall_mem_cons.mpr ⟨⟨show (24 : Nat) < 100 from by decide, nf2⟩, (fun _ h => (by cases h))⟩⟩⟩, List.forall_mem_cons.mpr ⟨ho, (fun _ h => (by cases h))⟩⟩
set_option maxHeartbeats 4000000 in
theorem vc_Mo_styleTokens_41_0 (x6 : Int) (tokens_0 : Int) (pos_0 : Int) (k6 : 0 ≤ x6 ∧ x6 ≤ 1999) (f0 : (tokens_0 ≤ x6) ∧ (pos_0 = x6)) (kz_0_11 : 0 ≤ pos_0 ∧ pos_0 ≤ 2000) (kz_0_157 : 0 ≤ tokens_0 ∧ tokens_0 ≤ 2010) : (tokens_0 ≤ x6) ∧ (pos_0 = x6) := by
  first | assumption | omega | grind
set_option maxHeartbeats 4000000 in
theorem vc_Mo_styleTokens_41_1 (x6 : Int) (x10 : Int) (tokens_0 : Int) (pos_0 : Int) (gx : Int) (k6 : 0 ≤ x6 ∧ x6 ≤ 1999) (k10 : 0 ≤ x10 ∧ x10 ≤ 4001) (f0 : (tokens_0 ≤ x6) ∧ (pos_0 = x6)) (f1 : (-1) * x10 + ((-2) * x6 + 0) ≤ (-4001)) (kz_0_11 : 0 ≤ pos_0 ∧ pos_0 ≤ 2000) (kz_0_157 : 0 ≤ tokens_0 ∧ tokens_0 ≤ 2010) (ex2 : gx = 0 + (1 * x10 + 0)) : (-1) * gx + ((-2) * x6 + 0) ≤ (-4001) := by
  first | assumption | omega | grind
def o_Mo_styleTokens_41 : or_T := (334, 21, [(0, (2, 0, 0, [165])), (2, (2, 0, 0, [165])), (6, (0, 0, 1999, [])), (10, (0, 0, 4001, []))], [(20, [2, 6], [50, 2, 0, 157, 11, 2, 7, 0, 3, 2, 0, 157, 1, 1, 1, 3, 2, 0, 11, 1, 1]), (20, [10, 6], [30, -4001, -1, 0, 0, -2, 0, 0]), (24, [0, 2], [])], [], [(0, 0, 4001, [])], [(20, [2, 6], [50, 2, 0, 157, 11, 2, 7, 0, 3, 2, 0, 157, 1, 1, 1, 3, 2, 0, 11, 1, 1]), (20, [21, 6], [30, -4001, -1, 0, 0, -2, 0, 0]), (24, [0, 2], [])], [(21, 10, 0, 0)], [])
theorem oo_Mo_styleTokens_41 {kA : Nat → ClassId} : or_ok PRD kA GG o_Mo_styleTokens_41 := by
  refine or_mk fun A ta ws vs hD hth hl => ?_
  intro t0 r0 t2 r2 t6 k6 t10 k10 f0 f1 f2
  replace f0 := shm_1294 f0
  replace f1 := shm_1293 f1
  replace f2 := shm_5 f2
  have q2 : n_v vs 2 = n_v vs 0 := f2.symm
  simp only [q2] at f0
  have kz_0_11 := fdq_273 hD hth r0
  have kz_0_157 := fdq_42 hD hth r0
  obtain ⟨x, ex, hx⟩ := iv_ex (ta := ta) (lo := 0) (hi := 4001) (z := 0 + (1 * v_iv (n_v vs 10) + 0)) (by omega) (by omega) (by omega) (by omega)
  have ex2 : v_iv (Value.int x) = 0 + (1 * v_iv (n_v vs 10) + 0) := ex
  have ex3 : 0 ≤ v_iv (Value.int x) ∧ v_iv (Value.int x) ≤ 4001 := tv_rng hx
  have e_0 : n_v (vs ++ [Value.int x]) 0 = n_v vs 0 := n_v_old (by rw [hl]; decide)
  have e_2 : n_v (vs ++ [Value.int x]) 2 = n_v vs 2 := n_v_old (by rw [hl]; decide)
  have e_6 : n_v (vs ++ [Value.int x]) 6 = n_v vs 6 := n_v_old (by rw [hl]; decide)
  have e_21 : n_v (vs ++ [Value.int x]) 21 = Value.int x := n_v_new hl
  have nf0 : fc_1 PRD (20, [2, 6], [50, 2, 0, 157, 11, 2, 7, 0, 3, 2, 0, 157, 1, 1, 1, 3, 2, 0, 11, 1, 1]) ws (vs ++ [Value.int x]) := by
    refine ⟨nf_inA hl rfl, sgq_1294 ?_⟩
    · show (w_fi ws (n_v (vs ++ [Value.int x]) 2) 157 ≤ v_iv (n_v (vs ++ [Value.int x]) 6)) ∧ (w_fi ws (n_v (vs ++ [Value.int x]) 2) 11 = v_iv (n_v (vs ++ [Value.int x]) 6))
      simp only [e_2, e_6, q2]
      exact vc_Mo_styleTokens_41_0 (v_iv (n_v vs 6)) (w_fi ws (n_v vs 0) 157) (w_fi ws (n_v vs 0) 11) k6 f0 kz_0_11 kz_0_157
  have nf1 : fc_1 PRD (20, [21, 6], [30, -4001, -1, 0, 0, -2, 0, 0]) ws (vs ++ [Value.int x]) := by
    refine ⟨nf_inA hl rfl, sgq_1293 ?_⟩
    · show (-1) * v_iv (n_v (vs ++ [Value.int x]) 21) + ((-2) * v_iv (n_v (vs ++ [Value.int x]) 6) + 0) ≤ (-4001)
      simp only [e_6, e_21]
      exact vc_Mo_styleTokens_41_1 (v_iv (n_v vs 6)) (v_iv (n_v vs 10)) (w_fi ws (n_v vs 0) 157) (w_fi ws (n_v vs 0) 11) (v_iv (Value.int x)) k6 k10 f0 f1 kz_0_11 kz_0_157 ex2
  have nf2 : fc_1 PRD (24, [0, 2], []) ws (vs ++ [Value.int x]) := by
    refine ⟨nf_inA hl rfl, sgq_5 ?_⟩
    · show n_v (vs ++ [Value.int x]) 0 = n_v (vs ++ [Value.int x]) 2
      first | rfl | simp only [e_0, e_2, q2]
  obtain ⟨x0, e0, _, _⟩ := tv_int t10 rfl
  have e1 : v_iv (n_v vs 10) = x0.toInt := by rw [e0]; rfl
  have ho : sy_ofs (vs ++ [Value.int x]) (21, 10, 0, 0) := by
    refine ⟨x, x0, by rw [List.getElem?_append_right (by rw [hl]; decide), hl]; rfl, ?_, ?_, ?_⟩
    · rw [List.getElem?_append_left (by rw [hl]; decide)]; exact n_v_some (by rw [hl]; decide) e0
    · show x0.toInt + 0 ≤ x.toInt; omega
    · show x.toInt ≤ x0.toInt + 0; omega
  exact ⟨(fun _ h => (by cases h)), [Value.int x], ag_one hx, List.forall_mem_cons.mpr ⟨⟨show (20 : Nat) < 100 from by decide, nf0⟩, List.forall_mem_cons.mpr ⟨⟨show (20 : Nat) < 100 from by decide, nf1⟩, List.forall_mem_cons.mpr ⟨⟨show (24 : Nat) < 100 from by decide, nf2⟩, (fun _ h => (by cases h))⟩⟩⟩, List.forall_mem_cons.mpr ⟨ho, (fun _ h => (by cases h))⟩⟩
set_option maxHeartbeats 4000000 in
theorem vc_Mo_styleTokens_42_0 (x6 : Int) (tokens_0 : Int) (pos_0 : Int) (k6 : 0 ≤ x6 ∧ x6 ≤ 1999) (f0 : (tokens_0 ≤ x6) ∧ (pos_0 = x6)) (kz_0_11 : 0 ≤ pos_0 ∧ pos_0 ≤ 2000) (kz_0_157 : 0 ≤ tokens_0 ∧ tokens_0 ≤ 2010) : (tokens_0 ≤ x6) ∧ (pos_0 = x6) := by
  first | assumption | omega | grind
set_option maxHeartbeats 4000000 in
theorem vc_Mo_styleTokens_42_1 (x6 : Int) (x10 : Int) (tokens_0 : Int) (pos_0 : Int) (gx : Int) (k6 : 0 ≤ x6 ∧ x6 ≤ 1999) (k10 : 0 ≤ x10 ∧ x10 ≤ 4001) (f0 : (tokens_0 ≤ x6) ∧ (pos_0 = x6)) (f1 : (-1) * x10 + ((-2) * x6 + 0) ≤ (-4001)) (kz_0_11 : 0 ≤ pos_0 ∧ pos_0 ≤ 2000) (kz_0_157 : 0 ≤ tokens_0 ∧ tokens_0 ≤ 2010) (ex2 : gx = 0 + (1 * x10 + 0)) : (-1) * gx + ((-2) * x6 + 0) ≤ (-4001) := by
  first | assumption | omega | grind
def o_Mo_styleTokens_42 : or_T := (334, 22, [(0, (2, 0, 0, [165])), (2, (2, 0, 0, [165])), (6, (0, 0, 1999, [])), (10, (0, 0, 4001, []))], [(20, [2, 6], [50, 2, 0, 157, 11, 2, 7, 0, 3, 2, 0, 157, 1, 1, 1, 3, 2, 0, 11, 1, 1]), (20, [10, 6], [30, -4001, -1, 0, 0, -2, 0, 0]), (24, [0, 2], [])], [], [(0, 0, 4001, [])], [(20, [2, 6], [50, 2, 0, 157, 11, 2, 7, 0, 3, 2, 0, 157, 1, 1, 1, 3, 2, 0, 11, 1, 1]), (20, [22, 6], [30, -4001, -1, 0, 0, -2, 0, 0]), (24, [0, 2], [])], [(22, 10, 0, 0)], [])
theorem oo_Mo_styleTokens_42 {kA : Nat → ClassId} : or_ok PRD kA GG o_Mo_styleTokens_42 := by
  refine or_mk fun A ta ws vs hD hth hl => ?_
  intro t0 r0 t2 r2 t6 k6 t10 k10 f0 f1 f2
  replace f0 := shm_1294 f0
  replace f1 := shm_1293 f1
  replace f2 := shm_5 f2
  have q2 : n_v vs 2 = n_v vs 0 := f2.symm
  simp only [q2] at f0
  have kz_0_11 := fdq_273 hD hth r0
  have kz_0_157 := fdq_42 hD hth r0
  obtain ⟨x, ex, hx⟩ := iv_ex (ta := ta) (lo := 0) (hi := 4001) (z := 0 + (1 * v_iv (n_v vs 10) + 0)) (by omega) (by omega) (by omega) (by omega)
  have ex2 : v_iv (Value.int x) = 0 + (1 * v_iv (n_v vs 10) + 0) := ex
  have ex3 : 0 ≤ v_iv (Value.int x) ∧ v_iv (Value.int x) ≤ 4001 := tv_rng hx
  have e_0 : n_v (vs ++ [Value.int x]) 0 = n_v vs 0 := n_v_old (by rw [hl]; decide)
  have e_2 : n_v (vs ++ [Value.int x]) 2 = n_v vs 2 := n_v_old (by rw [hl]; decide)
  have e_6 : n_v (vs ++ [Value.int x]) 6 = n_v vs 6 := n_v_old (by rw [hl]; decide)
  have e_22 : n_v (vs ++ [Value.int x]) 22 = Value.int x := n_v_new hl
  have nf0 : fc_1 PRD (20, [2, 6], [50, 2, 0, 157, 11, 2, 7, 0, 3, 2, 0, 157, 1, 1, 1, 3, 2, 0, 11, 1, 1]) ws (vs ++ [Value.int x]) := by
    refine ⟨nf_inA hl rfl, sgq_1294 ?_⟩
    · show (w_fi ws (n_v (vs ++ [Value.int x]) 2) 157 ≤ v_iv (n_v (vs ++ [Value.int x]) 6)) ∧ (w_fi ws (n_v (vs ++ [Value.int x]) 2) 11 = v_iv (n_v (vs ++ [Value.int x]) 6))
      simp only [e_2, e_6, q2]
      exact vc_Mo_styleTokens_42_0 (v_iv (n_v vs 6)) (w_fi ws (n_v vs 0) 157) (w_fi ws (n_v vs 0) 11) k6 f0 kz_0_11 kz_0_157
  have nf1 : fc_1 PRD (20, [22, 6], [30, -4001, -1, 0, 0, -2, 0, 0]) ws (vs ++ [Value.int x]) := by
    refine ⟨nf_inA hl rfl, sgq_1293 ?_⟩
    · show (-1) * v_iv (n_v (vs ++ [Value.int x]) 22) + ((-2) * v_iv (n_v (vs ++ [Value.int x]) 6) + 0) ≤ (-4001)
      simp only [e_6, e_22]
      exact vc_Mo_styleTokens_42_1 (v_iv (n_v vs 6)) (v_iv (n_v vs 10)) (w_fi ws (n_v vs 0) 157) (w_fi ws (n_v vs 0) 11) (v_iv (Value.int x)) k6 k10 f0 f1 kz_0_11 kz_0_157 ex2
  have nf2 : fc_1 PRD (24, [0, 2], []) ws (vs ++ [Value.int x]) := by
    refine ⟨nf_inA hl rfl, sgq_5 ?_⟩
    · show n_v (vs ++ [Value.int x]) 0 = n_v (vs ++ [Value.int x]) 2
      first | rfl | simp only [e_0, e_2, q2]
  obtain ⟨x0, e0, _, _⟩ := tv_int t10 rfl
  have e1 : v_iv (n_v vs 10) = x0.toInt := by rw [e0]; rfl
  have ho : sy_ofs (vs ++ [Value.int x]) (22, 10, 0, 0) := by
    refine ⟨x, x0, by rw [List.getElem?_append_right (by rw [hl]; decide), hl]; rfl, ?_, ?_, ?_⟩
    · rw [List.getElem?_append_left (by rw [hl]; decide)]; exact n_v_some (by rw [hl]; decide) e0
    · show x0.toInt + 0 ≤ x.toInt; omega
    · show x.toInt ≤ x0.toInt + 0; omega
  exact ⟨(fun _ h => (by cases h)), [Value.int x], ag_one hx, List.forall_mem_cons.mpr ⟨⟨show (20 : Nat) < 100 from by decide, nf0⟩, List.forall_mem_cons.mpr ⟨⟨show (20 : Nat) < 100 from by decide, nf1⟩, List.forall_mem_cons.mpr ⟨⟨show (24 : Nat) < 100 from by decide, nf2⟩, (fun _ h => (by cases h))⟩⟩⟩, List.forall_mem_cons.mpr ⟨ho, (fun _ h => (by cases h))⟩⟩
set_option maxHeartbeats 4000000 in
theorem vc_Mo_styleTokens_43_0 (x6 : Int) (tokens_0 : Int) (pos_0 : Int) (k6 : 0 ≤ x6 ∧ x6 ≤ 1999) (f0 : (tokens_0 ≤ x6) ∧ (pos_0 = x6)) (kz_0_11 : 0 ≤ pos_0 ∧ pos_0 ≤ 2000) (kz_0_157 : 0 ≤ tokens_0 ∧ tokens_0 ≤ 2010) : (tokens_0 ≤ x6) ∧ (pos_0 = x6) := by
  first | assumption | omega | grind
set_option maxHeartbeats 4000000 in
theorem vc_Mo_styleTokens_43_1 (x6 : Int) (x10 : Int) (tokens_0 : Int) (pos_0 : Int) (gx : Int) (k6 : 0 ≤ x6 ∧ x6 ≤ 1999) (k10 : 0 ≤ x10 ∧ x10 ≤ 4001) (f0 : (tokens_0 ≤ x6) ∧ (pos_0 = x6)) (f1 : (-1) * x10 + ((-2) * x6 + 0) ≤ (-4001)) (kz_0_11 : 0 ≤ pos_0 ∧ pos_0 ≤ 2000) (kz_0_157 : 0 ≤ tokens_0 ∧ tokens_0 ≤ 2010) (ex2 : gx = 0 + (1 * x10 + 0)) : (-1) * gx + ((-2) * x6 + 0) ≤ (-4001) := by
  first | assumption | omega | grind
def o_Mo_styleTokens_43 : or_T := (334, 23, [(0, (2, 0, 0, [165])), (2, (2, 0, 0, [165])), (6, (0, 0, 1999, [])), (10, (0, 0, 4001, []))], [(20, [2, 6], [50, 2, 0, 157, 11, 2, 7, 0, 3, 2, 0, 157, 1, 1, 1, 3, 2, 0, 11, 1, 1]), (20, [10, 6], [30, -4001, -1, 0, 0, -2, 0, 0]), (24, [0, 2], [])], [], [(0, 0, 4001, [])], [(20, [2, 6], [50, 2, 0, 157, 11, 2, 7, 0, 3, 2, 0, 157, 1, 1, 1, 3, 2, 0, 11, 1, 1]), (20, [23, 6], [30, -4001, -1, 0, 0, -2, 0, 0]), (24, [0, 2], [])], [(23, 10, 0, 0)], [])
theorem oo_Mo_styleTokens_43 {kA : Nat → ClassId} : or_ok PRD kA GG o_Mo_styleTokens_43 := by
  refine or_mk fun A ta ws vs hD hth hl => ?_
  intro t0 r0 t2 r2 t6 k6 t10 k10 f0 f1 f2
  replace f0 := shm_1294 f0
  replace f1 := shm_1293 f1
  replace f2 := shm_5 f2
  have q2 : n_v vs 2 = n_v vs 0 := f2.symm
  simp only [q2] at f0
  have kz_0_11 := fdq_273 hD hth r0
  have kz_0_157 := fdq_42 hD hth r0
  obtain ⟨x, ex, hx⟩ := iv_ex (ta := ta) (lo := 0) (hi := 4001) (z := 0 + (1 * v_iv (n_v vs 10) + 0)) (by omega) (by omega) (by omega) (by omega)
  have ex2 : v_iv (Value.int x) = 0 + (1 * v_iv (n_v vs 10) + 0) := ex
  have ex3 : 0 ≤ v_iv (Value.int x) ∧ v_iv (Value.int x) ≤ 4001 := tv_rng hx
  have e_0 : n_v (vs ++ [Value.int x]) 0 = n_v vs 0 := n_v_old (by rw [hl]; decide)
  have e_2 : n_v (vs ++ [Value.int x]) 2 = n_v vs 2 := n_v_old (by rw [hl]; decide)
  have e_6 : n_v (vs ++ [Value.int x]) 6 = n_v vs 6 := n_v_old (by rw [hl]; decide)
  have e_23 : n_v (vs ++ [Value.int x]) 23 = Value.int x := n_v_new hl
  have nf0 : fc_1 PRD (20, [2, 6], [50, 2, 0, 157, 11, 2, 7, 0, 3, 2, 0, 157, 1, 1, 1, 3, 2, 0, 11, 1, 1]) ws (vs ++ [Value.int x]) := by
    refine ⟨nf_inA hl rfl, sgq_1294 ?_⟩
    · show (w_fi ws (n_v (vs ++ [Value.int x]) 2) 157 ≤ v_iv (n_v (vs ++ [Value.int x]) 6)) ∧ (w_fi ws (n_v (vs ++ [Value.int x]) 2) 11 = v_iv (n_v (vs ++ [Value.int x]) 6))
      simp only [e_2, e_6, q2]
      exact vc_Mo_styleTokens_43_0 (v_iv (n_v vs 6)) (w_fi ws (n_v vs 0) 157) (w_fi ws (n_v vs 0) 11) k6 f0 kz_0_11 kz_0_157
  have nf1 : fc_1 PRD (20, [23, 6], [30, -4001, -1, 0, 0, -2, 0, 0]) ws (vs ++ [Value.int x]) := by
    refine ⟨nf_inA hl rfl, sgq_1293 ?_⟩
    · show (-1) * v_iv (n_v (vs ++ [Value.int x]) 23) + ((-2) * v_iv (n_v (vs ++ [Value.int x]) 6) + 0) ≤ (-4001)
      simp only [e_6, e_23]
      exact vc_Mo_styleTokens_43_1 (v_iv (n_v vs 6)) (v_iv (n_v vs 10)) (w_fi ws (n_v vs 0) 157) (w_fi ws (n_v vs 0) 11) (v_iv (Value.int x)) k6 k10 f0 f1 kz_0_11 kz_0_157 ex2
  have nf2 : fc_1 PRD (24, [0, 2], []) ws (vs ++ [Value.int x]) := by
    refine ⟨nf_inA hl rfl, sgq_5 ?_⟩
    · show n_v (vs ++ [Value.int x]) 0 = n_v (vs ++ [Value.int x]) 2
      first | rfl | simp only [e_0, e_2, q2]
  obtain ⟨x0, e0, _, _⟩ := tv_int t10 rfl
  have e1 : v_iv (n_v vs 10) = x0.toInt := by rw [e0]; rfl
  have ho : sy_ofs (vs ++ [Value.int x]) (23, 10, 0, 0) := by
    refine ⟨x, x0, by rw [List.getElem?_append_right (by rw [hl]; decide), hl]; rfl, ?_, ?_, ?_⟩
    · rw [List.getElem?_append_left (by rw [hl]; decide)]; exact n_v_some (by rw [hl]; decide) e0
    · show x0.toInt + 0 ≤ x.toInt; omega
    · show x.toInt ≤ x0.toInt + 0; omega
  exact ⟨(fun _ h => (by cases h)), [Value.int x], ag_one hx, List.forall_mem_cons.mpr ⟨⟨show (20 : Nat) < 100 from by decide, nf0⟩, List.forall_mem_cons.mpr ⟨⟨show (20 : Nat) < 100 from by decide, nf1⟩, List.forall_mem_cons.mpr ⟨⟨show (24 : Nat) < 100 from by decide, nf2⟩, (fun _ h => (by cases h))⟩⟩⟩, List.forall_mem_cons.mpr ⟨ho, (fun _ h => (by cases h))⟩⟩
set_option maxHeartbeats 4000000 in
theorem vc_Mo_styleTokens_44_0 (x6 : Int) (tokens_0 : Int) (pos_0 : Int) (k6 : 0 ≤ x6 ∧ x6 ≤ 1999) (f0 : (tokens_0 ≤ x6) ∧ (pos_0 = x6)) (kz_0_11 : 0 ≤ pos_0 ∧ pos_0 ≤ 2000) (kz_0_157 : 0 ≤ tokens_0 ∧ tokens_0 ≤ 2010) : (tokens_0 ≤ x6) ∧ (pos_0 = x6) := by
  first | assumption | omega | grind
set_option maxHeartbeats 4000000 in
theorem vc_Mo_styleTokens_44_1 (x6 : Int) (x10 : Int) (tokens_0 : Int) (pos_0 : Int) (gx : Int) (k6 : 0 ≤ x6 ∧ x6 ≤ 1999) (k10 : 0 ≤ x10 ∧ x10 ≤ 4001) (f0 : (tokens_0 ≤ x6) ∧ (pos_0 = x6)) (f1 : (-1) * x10 + ((-2) * x6 + 0) ≤ (-4001)) (kz_0_11 : 0 ≤ pos_0 ∧ pos_0 ≤ 2000) (kz_0_157 : 0 ≤ tokens_0 ∧ tokens_0 ≤ 2010) (ex2 : gx = 0 + (1 * x10 + 0)) : (-1) * gx + ((-2) * x6 + 0) ≤ (-4001) := by
  first | assumption | omega | grind
def o_Mo_styleTokens_44 : or_T := (334, 24, [(0, (2, 0, 0, [165])), (2, (2, 0, 0, [165])), (6, (0, 0, 1999, [])), (10, (0, 0, 4001, []))], [(20, [2, 6], [50, 2, 0, 157, 11, 2, 7, 0, 3, 2, 0, 157, 1, 1, 1, 3, 2, 0, 11, 1, 1]), (20, [10, 6], [30, -4001, -1, 0, 0, -2, 0, 0]), (24, [0, 2], [])], [], [(0, 0, 4001, [])], [(20, [2, 6], [50, 2, 0, 157, 11, 2, 7, 0, 3, 2, 0, 157, 1, 1, 1, 3, 2, 0, 11, 1, 1]), (20, [24, 6], [30, -4001, -1, 0, 0, -2, 0, 0]), (24, [0, 2], [])], [(24, 10, 0, 0)], [])
theorem oo_Mo_styleTokens_44 {kA : Nat → ClassId} : or_ok PRD kA GG o_Mo_styleTokens_44 := by
  refine or_mk fun A ta ws vs hD hth hl => ?_
  intro t0 r0 t2 r2 t6 k6 t10 k10 f0 f1 f2
  replace f0 := shm_1294 f0
  replace f1 := shm_1293 f1
  replace f2 := shm_5 f2
  have q2 : n_v vs 2 = n_v vs 0 := f2.symm
  simp only [q2] at f0
  have kz_0_11 := fdq_273 hD hth r0
  have kz_0_157 := fdq_42 hD hth r0
  obtain ⟨x, ex, hx⟩ := iv_ex (ta := ta) (lo := 0) (hi := 4001) (z := 0 + (1 * v_iv (n_v vs 10) + 0)) (by omega) (by omega) (by omega) (by omega)
  have ex2 : v_iv (Value.int x) = 0 + (1 * v_iv (n_v vs 10) + 0) := ex
  have ex3 : 0 ≤ v_iv (Value.int x) ∧ v_iv (Value.int x) ≤ 4001 := tv_rng hx
  have e_0 : n_v (vs ++ [Value.int x]) 0 = n_v vs 0 := n_v_old (by rw [hl]; decide)
  have e_2 : n_v (vs ++ [Value.int x]) 2 = n_v vs 2 := n_v_old (by rw [hl]; decide)
  have e_6 : n_v (vs ++ [Value.int x]) 6 = n_v vs 6 := n_v_old (by rw [hl]; decide)
  have e_24 : n_v (vs ++ [Value.int x]) 24 = Value.int x := n_v_new hl
  have nf0 : fc_1 PRD (20, [2, 6], [50, 2, 0, 157, 11, 2, 7, 0, 3, 2, 0, 157, 1, 1, 1, 3, 2, 0, 11, 1, 1]) ws (vs ++ [Value.int x]) := by
    refine ⟨nf_inA hl rfl, sgq_1294 ?_⟩
    · show (w_fi ws (n_v (vs ++ [Value.int x]) 2) 157 ≤ v_iv (n_v (vs ++ [Value.int x]) 6)) ∧ (w_fi ws (n_v (vs ++ [Value.int x]) 2) 11 = v_iv (n_v (vs ++ [Value.int x]) 6))
      simp only [e_2, e_6, q2]
      exact vc_Mo_styleTokens_44_0 (v_iv (n_v vs 6)) (w_fi ws (n_v vs 0) 157) (w_fi ws (n_v vs 0) 11) k6 f0 kz_0_11 kz_0_157
  have nf1 : fc_1 PRD (20, [24, 6], [30, -4001, -1, 0, 0, -2, 0, 0]) ws (vs ++ [Value.int x]) := by
    refine ⟨nf_inA hl rfl, sgq_1293 ?_⟩
    · show (-1) * v_iv (n_v (vs ++ [Value.int x]) 24) + ((-2) * v_iv (n_v (vs ++ [Value.int x]) 6) + 0) ≤ (-4001)
      simp only [e_6, e_24]
      exact vc_Mo_styleTokens_44_1 (v_iv (n_v vs 6)) (v_iv (n_v vs 10)) (w_fi ws (n_v vs 0) 157) (w_fi ws (n_v vs 0) 11) (v_iv (Value.int x)) k6 k10 f0 f1 kz_0_11 kz_0_157 ex2
  have nf2 : fc_1 PRD (24, [0, 2], []) ws (vs ++ [Value.int x]) := by
    refine ⟨nf_inA hl rfl, sgq_5 ?_⟩
    · show n_v (vs ++ [Value.int x]) 0 = n_v (vs ++ [Value.int x]) 2
      first | rfl | simp only [e_0, e_2, q2]
  obtain ⟨x0, e0, _, _⟩ := tv_int t10 rfl
  have e1 : v_iv (n_v vs 10) = x0.toInt := by rw [e0]; rfl
  have ho : sy_ofs (vs ++ [Value.int x]) (24, 10, 0, 0) := by
    refine ⟨x, x0, by rw [List.getElem?_append_right (by rw [hl]; decide), hl]; rfl, ?_, ?_, ?_⟩
    · rw [List.getElem?_append_left (by rw [hl]; decide)]; exact n_v_some (by rw [hl]; decide) e0
    · show x0.toInt + 0 ≤ x.toInt; omega
    · show x.toInt ≤ x0.toInt + 0; omega
  exact ⟨(fun _ h => (by cases h)), [Value.int x], ag_one hx, List.forall_mem_cons.mpr ⟨⟨show (20 : Nat) < 100 from by decide, nf0⟩, List.forall_mem_cons.mpr ⟨⟨show (20 : Nat) < 100 from by decide, nf1⟩, List.forall_mem_cons.mpr ⟨⟨show (24 : Nat) < 100 from by decide, nf2⟩, (fun _ h => (by cases h))⟩⟩⟩, List.forall_mem_cons.mpr ⟨ho, (fun _ h => (by cases h))⟩⟩
set_option maxHeartbeats 4000000 in
theorem vc_Mo_styleTokens_45_0 (x6 : Int) (tokens_0 : Int) (pos_0 : Int) (k6 : 0 ≤ x6 ∧ x6 ≤ 1999) (f0 : (tokens_0 ≤ x6) ∧ (pos_0 = x6)) (kz_0_11 : 0 ≤ pos_0 ∧ pos_0 ≤ 2000) (kz_0_157 : 0 ≤ tokens_0 ∧ tokens_0 ≤ 2010) : (tokens_0 ≤ x6) ∧ (pos_0 = x6) := by
  first | assumption | omega | grind
set_option maxHeartbeats 4000000 in
theorem vc_Mo_styleTokens_45_1 (x6 : Int) (x10 : Int) (tokens_0 : Int) (pos_0 : Int) (gx : Int) (k6 : 0 ≤ x6 ∧ x6 ≤ 1999) (k10 : 0 ≤ x10 ∧ x10 ≤ 4001) (f0 : (tokens_0 ≤ x6) ∧ (pos_0 = x6)) (f1 : (-1) * x10 + ((-2) * x6 + 0) ≤ (-4001)) (kz_0_11 : 0 ≤ pos_0 ∧ pos_0 ≤ 2000) (kz_0_157 : 0 ≤ tokens_0 ∧ tokens_0 ≤ 2010) (ex2 : gx = 0 + (1 * x10 + 0)) : (-1) * gx + ((-2) * x6 + 0) ≤ (-4001) := by
  first | assumption | omega | grind
def o_Mo_styleTokens_45 : or_T := (339, 26, [(0, (2, 0, 0, [165])), (2, (2, 0, 0, [165])), (6, (0, 0, 1999, [])), (10, (0, 0, 4001, []))], [(20, [2, 6], [50, 2, 0, 157, 11, 2, 7, 0, 3, 2, 0, 157, 1, 1, 1, 3, 2, 0, 11, 1, 1]), (20, [10, 6], [30, -4001, -1, 0, 0, -2, 0, 0]), (24, [0, 2], [])], [], [(0, 0, 4001, [])], [(20, [2, 6], [50, 2, 0, 157, 11, 2, 7, 0, 3, 2, 0, 157, 1, 1, 1, 3, 2, 0, 11, 1, 1]), (20, [26, 6], [30, -4001, -1, 0, 0, -2, 0, 0]), (24, [0, 2], [])], [(26, 10, 0, 0)], [])
theorem oo_Mo_styleTokens_45 {kA : Nat → ClassId} : or_ok PRD kA GG o_Mo_styleTokens_45 := by
  refine or_mk fun A ta ws vs hD hth hl => ?_
  intro t0 r0 t2 r2 t6 k6 t10 k10 f0 f1 f2
  replace f0 := shm_1294 f0
  replace f1 := shm_1293 f1
  replace f2 := shm_5 f2
  have q2 : n_v vs 2 = n_v vs 0 := f2.symm
  simp only [q2] at f0
  have kz_0_11 := fdq_273 hD hth r0
  have kz_0_157 := fdq_42 hD hth r0
  obtain ⟨x, ex, hx⟩ := iv_ex (ta := ta) (lo := 0) (hi := 4001) (z := 0 + (1 * v_iv (n_v vs 10) + 0)) (by omega) (by omega) (by omega) (by omega)
  have ex2 : v_iv (Value.int x) = 0 + (1 * v_iv (n_v vs 10) + 0) := ex
  have ex3 : 0 ≤ v_iv (Value.int x) ∧ v_iv (Value.int x) ≤ 4001 := tv_rng hx
  have e_0 : n_v (vs ++ [Value.int x]) 0 = n_v vs 0 := n_v_old (by rw [hl]; decide)
  have e_2 : n_v (vs ++ [Value.int x]) 2 = n_v vs 2 := n_v_old (by rw [hl]; decide)
  have e_6 : n_v (vs ++ [Value.int x]) 6 = n_v vs 6 := n_v_old (by rw [hl]; decide)
  have e_26 : n_v (vs ++ [Value.int x]) 26 = Value.int x := n_v_new hl
  have nf0 : fc_1 PRD (20, [2, 6], [50, 2, 0, 157, 11, 2, 7, 0, 3, 2, 0, 157, 1, 1, 1, 3, 2, 0, 11, 1, 1]) ws (vs ++ [Value.int x]) := by
    refine ⟨nf_inA hl rfl, sgq_1294 ?_⟩
    · show (w_fi ws (n_v (vs ++ [Value.int x]) 2) 157 ≤ v_iv (n_v (vs ++ [Value.int x]) 6)) ∧ (w_fi ws (n_v (vs ++ [Value.int x]) 2) 11 = v_iv (n_v (vs ++ [Value.int x]) 6))
      simp only [e_2, e_6, q2]
      exact vc_Mo_styleTokens_45_0 (v_iv (n_v vs 6)) (w_fi ws (n_v vs 0) 157) (w_fi ws (n_v vs 0) 11) k6 f0 kz_0_11 kz_0_157
  have nf1 : fc_1 PRD (20, [26, 6], [30, -4001, -1, 0, 0, -2, 0, 0]) ws (vs ++ [Value.int x]) := by
    refine ⟨nf_inA hl rfl, sgq_1293 ?_⟩
    · show (-1) * v_iv (n_v (vs ++ [Value.int x]) 26) + ((-2) * v_iv (n_v (vs ++ [Value.int x]) 6) + 0) ≤ (-4001)
      simp only [e_6, e_26]
      exact vc_Mo_styleTokens_45_1 (v_iv (n_v vs 6)) (v_iv (n_v vs 10)) (w_fi ws (n_v vs 0) 157) (w_fi ws (n_v vs 0) 11) (v_iv (Value.int x)) k6 k10 f0 f1 kz_0_11 kz_0_157 ex2
  have nf2 : fc_1 PRD (24, [0, 2], []) ws (vs ++ [Value.int x]) := by
    refine ⟨nf_inA hl rfl, sgq_5 ?_⟩
    · show n_v (vs ++ [Value.int x]) 0 = n_v (vs ++ [Value.int x]) 2
      first | rfl | simp only [e_0, e_2, q2]
  obtain ⟨x0, e0, _, _⟩ := tv_int t10 rfl
  have e1 : v_iv (n_v vs 10) = x0.toInt := by rw [e0]; rfl
  have ho : sy_ofs (vs ++ [Value.int x]) (26, 10, 0, 0) := by
    refine ⟨x, x0, by rw [List.getElem?_append_right (by rw [hl]; decide), hl]; rfl, ?_, ?_, ?_⟩
    · rw [List.getElem?_append_left (by rw [hl]; decide)]; exact n_v_some (by rw [hl]; decide) e0
    · show x0.toInt + 0 ≤ x.toInt; omega
    · show x.toInt ≤ x0.toInt + 0; omega
  exact ⟨(fun _ h => (by cases h)), [Value.int x], ag_one hx, List.forall_mem_cons.mpr ⟨⟨show (20 : Nat) < 100 from by decide, nf0⟩, List.forall_mem_cons.mpr ⟨⟨show (20 : Nat) < 100 from by decide, nf1⟩, List.forall_mem_cons.mpr ⟨⟨show (24 : Nat) < 100 from by decide, nf2⟩, (fun _ h => (by cases h))⟩⟩⟩, List.forall_mem_cons.mpr ⟨ho, (fun _ h => (by cases h))⟩⟩
set_option maxHeartbeats 4000000 in
theorem vc_Mo_styleTokens_46_0 (x6 : Int) (tokens_0 : Int) (pos_0 : Int) (k6 : 0 ≤ x6 ∧ x6 ≤ 1999) (f0 : (tokens_0 ≤ x6) ∧ (pos_0 = x6)) (kz_0_11 : 0 ≤ pos_0 ∧ pos_0 ≤ 2000) (kz_0_157 : 0 ≤ tokens_0 ∧ tokens_0 ≤ 2010) : (tokens_0 ≤ x6) ∧ (pos_0 = x6) := by
  first | assumption | omega | grind
set_option maxHeartbeats 4000000 in
theorem vc_Mo_styleTokens_46_1 (x6 : Int) (x10 : Int) (tokens_0 : Int) (pos_0 : Int) (gx : Int) (k6 : 0 ≤ x6 ∧ x6 ≤ 1999) (k10 : 0 ≤ x10 ∧ x10 ≤ 4001) (f0 : (tokens_0 ≤ x6) ∧ (pos_0 = x6)) (f1 : (-1) * x10 + ((-2) * x6 + 0) ≤ (-4001)) (kz_0_11 : 0 ≤ pos_0 ∧ pos_0 ≤ 2000) (kz_0_157 : 0 ≤ tokens_0 ∧ tokens_0 ≤ 2010) (ex2 : gx = 0 + (1 * x10 + 0)) : (-1) * gx + ((-2) * x6 + 0) ≤ (-4001) := by
  first | assumption | omega | grind
def o_Mo_styleTokens_46 : or_T := (334, 25, [(0, (2, 0, 0, [165])), (2, (2, 0, 0, [165])), (6, (0, 0, 1999, [])), (10, (0, 0, 4001, []))], [(20, [2, 6], [50, 2, 0, 157, 11, 2, 7, 0, 3, 2, 0, 157, 1, 1, 1, 3, 2, 0, 11, 1, 1]), (20, [10, 6], [30, -4001, -1, 0, 0, -2, 0, 0]), (24, [0, 2], [])], [], [(0, 0, 4001, [])], [(20, [2, 6], [50, 2, 0, 157, 11, 2, 7, 0, 3, 2, 0, 157, 1, 1, 1, 3, 2, 0, 11, 1, 1]), (20, [25, 6], [30, -4001, -1, 0, 0, -2, 0, 0]), (24, [0, 2], [])], [(25, 10, 0, 0)], [])
theorem oo_Mo_styleTokens_46 {kA : Nat → ClassId} : or_ok PRD kA GG o_Mo_styleTokens_46 := by
  refine or_mk fun A ta ws vs hD hth hl => ?_
  intro t0 r0 t2 r2 t6 k6 t10 k10 f0 f1 f2
  replace f0 := shm_1294 f0
  replace f1 := shm_1293 f1
  replace f2 := shm_5 f2
  have q2 : n_v vs 2 = n_v vs 0 := f2.symm
  simp only [q2] at f0
  have kz_0_11 := fdq_273 hD hth r0
  have kz_0_157 := fdq_42 hD hth r0
  obtain ⟨x, ex, hx⟩ := iv_ex (ta := ta) (lo := 0) (hi := 4001) (z := 0 + (1 * v_iv (n_v vs 10) + 0)) (by omega) (by omega) (by omega) (by omega)
  have ex2 : v_iv (Value.int x) = 0 + (1 * v_iv (n_v vs 10) + 0) := ex
  have ex3 : 0 ≤ v_iv (Value.int x) ∧ v_iv (Value.int x) ≤ 4001 := tv_rng hx
  have e_0 : n_v (vs ++ [Value.int x]) 0 = n_v vs 0 := n_v_old (by rw [hl]; decide)
  have e_2 : n_v (vs ++ [Value.int x]) 2 = n_v vs 2 := n_v_old (by rw [hl]; decide)
  have e_6 : n_v (vs ++ [Value.int x]) 6 = n_v vs 6 := n_v_old (by rw [hl]; decide)
  have e_25 : n_v (vs ++ [Value.int x]) 25 = Value.int x := n_v_new hl
  have nf0 : fc_1 PRD (20, [2, 6], [50, 2, 0, 157, 11, 2, 7, 0, 3, 2, 0, 157, 1, 1, 1, 3, 2, 0, 11, 1, 1]) ws (vs ++ [Value.int x]) := by
    refine ⟨nf_inA hl rfl, sgq_1294 ?_⟩
    · show (w_fi ws (n_v (vs ++ [Value.int x]) 2) 157 ≤ v_iv (n_v (vs ++ [Value.int x]) 6)) ∧ (w_fi ws (n_v (vs ++ [Value.int x]) 2) 11 = v_iv (n_v (vs ++ [Value.int x]) 6))
      simp only [e_2, e_6, q2]
      exact vc_Mo_styleTokens_46_0 (v_iv (n_v vs 6)) (w_fi ws (n_v vs 0) 157) (w_fi ws (n_v vs 0) 11) k6 f0 kz_0_11 kz_0_157
  have nf1 : fc_1 PRD (20, [25, 6], [30, -4001, -1, 0, 0, -2, 0, 0]) ws (vs ++ [Value.int x]) := by
    refine ⟨nf_inA hl rfl, sgq_1293 ?_⟩
    · show (-1) * v_iv (n_v (vs ++ [Value.int x]) 25) + ((-2) * v_iv (n_v (vs ++ [Value.int x]) 6) + 0) ≤ (-4001)
      simp only [e_6, e_25]
      exact vc_Mo_styleTokens_46_1 (v_iv (n_v vs 6)) (v_iv (n_v vs 10)) (w_fi ws (n_v vs 0) 157) (w_fi ws (n_v vs 0) 11) (v_iv (Value.int x)) k6 k10 f0 f1 kz_0_11 kz_0_157 ex2
  have nf2 : fc_1 PRD (24, [0, 2], []) ws (vs ++ [Value.int x]) := by
    refine ⟨nf_inA hl rfl, sgq_5 ?_⟩
    · show n_v (vs ++ [Value.int x]) 0 = n_v (vs ++ [Value.int x]) 2
      first | rfl | simp only [e_0, e_2, q2]
  obtain ⟨x0, e0, _, _⟩ := tv_int t10 rfl
  have e1 : v_iv (n_v vs 10) = x0.toInt := by rw [e0]; rfl
  have ho : sy_ofs (vs ++ [Value.int x]) (25, 10, 0, 0) := by
    refine ⟨x, x0, by rw [List.getElem?_append_right (by rw [hl]; decide), hl]; rfl, ?_, ?_, ?_⟩
    · rw [List.getElem?_append_left (by rw [hl]; decide)]; exact n_v_some (by rw [hl]; decide) e0
    · show x0.toInt + 0 ≤ x.toInt; omega
    · show x.toInt ≤ x0.toInt + 0; omega
  exact ⟨(fun _ h => (by cases h)), [Value.int x], ag_one hx, List.forall_mem_cons.mpr ⟨⟨show (20 : Nat) < 100 from by decide, nf0⟩, List.forall_mem_cons.mpr ⟨⟨show (20 : Nat) < 100 from by decide, nf1⟩, List.forall_mem_cons.mpr ⟨⟨show (24 : Nat) < 100 from by decide, nf2⟩, (fun _ h => (by cases h))⟩⟩⟩, List.forall_mem_cons.mpr ⟨ho, (fun _ h => (by cases h))⟩⟩
set_option maxHeartbeats 4000000 in
theorem vc_Mo_styleTokens_47_0 (x6 : Int) (tokens_0 : Int) (pos_0 : Int) (k6 : 0 ≤ x6 ∧ x6 ≤ 1999) (f0 : (tokens_0 ≤ x6) ∧ (pos_0 = x6)) (kz_0_11 : 0 ≤ pos_0 ∧ pos_0 ≤ 2000) (kz_0_157 : 0 ≤ tokens_0 ∧ tokens_0 ≤ 2010) : (tokens_0 ≤ x6) ∧ (pos_0 = x6) := by
  first | assumption | omega | grind
set_option maxHeartbeats 4000000 in
theorem vc_Mo_styleTokens_47_1 (x6 : Int) (x10 : Int) (tokens_0 : Int) (pos_0 : Int) (gx : Int) (k6 : 0 ≤ x6 ∧ x6 ≤ 1999) (k10 : 0 ≤ x10 ∧ x10 ≤ 4001) (f0 : (tokens_0 ≤ x6) ∧ (pos_0 = x6)) (f1 : (-1) * x10 + ((-2) * x6 + 0) ≤ (-4001)) (kz_0_11 : 0 ≤ pos_0 ∧ pos_0 ≤ 2000) (kz_0_157 : 0 ≤ tokens_0 ∧ tokens_0 ≤ 2010) (ex2 : gx = 0 + (1 * x10 + 0)) : (-1) * gx + ((-2) * x6 + 0) ≤ (-4001) := by
  first | assumption | omega | grind
def o_Mo_styleTokens_47 : or_T := (339, 12, [(0, (2, 0, 0, [165])), (2, (2, 0, 0, [165])), (6, (0, 0, 1999, [])), (10, (0, 0, 4001, []))], [(20, [2, 6], [50, 2, 0, 157, 11, 2, 7, 0, 3, 2, 0, 157, 1, 1, 1, 3, 2, 0, 11, 1, 1]), (20, [10, 6], [30, -4001, -1, 0, 0, -2, 0, 0]), (24, [0, 2], [])], [], [(0, 0, 4001, [])], [(20, [2, 6], [50, 2, 0, 157, 11, 2, 7, 0, 3, 2, 0, 157, 1, 1, 1, 3, 2, 0, 11, 1, 1]), (20, [12, 6], [30, -4001, -1, 0, 0, -2, 0, 0]), (24, [0, 2], [])], [(12, 10, 0, 0)], [])
theorem oo_Mo_styleTokens_47 {kA : Nat → ClassId} : or_ok PRD kA GG o_Mo_styleTokens_47 := by
  refine or_mk fun A ta ws vs hD hth hl => ?_
  intro t0 r0 t2 r2 t6 k6 t10 k10 f0 f1 f2
  replace f0 := shm_1294 f0
  replace f1 := shm_1293 f1
  replace f2 := shm_5 f2
  have q2 : n_v vs 2 = n_v vs 0 := f2.symm
  simp only [q2] at f0
  have kz_0_11 := fdq_273 hD hth r0
  have kz_0_157 := fdq_42 hD hth r0
  obtain ⟨x, ex, hx⟩ := iv_ex (ta := ta) (lo := 0) (hi := 4001) (z := 0 + (1 * v_iv (n_v vs 10) + 0)) (by omega) (by omega) (by omega) (by omega)
  have ex2 : v_iv (Value.int x) = 0 + (1 * v_iv (n_v vs 10) + 0) := ex
  have ex3 : 0 ≤ v_iv (Value.int x) ∧ v_iv (Value.int x) ≤ 4001 := tv_rng hx
  have e_0 : n_v (vs ++ [Value.int x]) 0 = n_v vs 0 := n_v_old (by rw [hl]; decide)
  have e_2 : n_v (vs ++ [Value.int x]) 2 = n_v vs 2 := n_v_old (by rw [hl]; decide)
  have e_6 : n_v (vs ++ [Value.int x]) 6 = n_v vs 6 := n_v_old (by rw [hl]; decide)
  have e_12 : n_v (vs ++ [Value.int x]) 12 = Value.int x := n_v_new hl
  have nf0 : fc_1 PRD (20, [2, 6], [50, 2, 0, 157, 11, 2, 7, 0, 3, 2, 0, 157, 1, 1, 1, 3, 2, 0, 11, 1, 1]) ws (vs ++ [Value.int x]) := by
    refine ⟨nf_inA hl rfl, sgq_1294 ?_⟩
    · show (w_fi ws (n_v (vs ++ [Value.int x]) 2) 157 ≤ v_iv (n_v (vs ++ [Value.int x]) 6)) ∧ (w_fi ws (n_v (vs ++ [Value.int x]) 2) 11 = v_iv (n_v (vs ++ [Value.int x]) 6))
      simp only [e_2, e_6, q2]
      exact vc_Mo_styleTokens_47_0 (v_iv (n_v vs 6)) (w_fi ws (n_v vs 0) 157) (w_fi ws (n_v vs 0) 11) k6 f0 kz_0_11 kz_0_157
  have nf1 : fc_1 PRD (20, [12, 6], [30, -4001, -1, 0, 0, -2, 0, 0]) ws (vs ++ [Value.int x]) := by
    refine ⟨nf_inA hl rfl, sgq_1293 ?_⟩
    · show (-1) * v_iv (n_v (vs ++ [Value.int x]) 12) + ((-2) * v_iv (n_v (vs ++ [Value.int x]) 6) + 0) ≤ (-4001)
      simp only [e_6, e_12]
      exact vc_Mo_styleTokens_47_1 (v_iv (n_v vs 6)) (v_iv (n_v vs 10)) (w_fi ws (n_v vs 0) 157) (w_fi ws (n_v vs 0) 11) (v_iv (Value.int x)) k6 k10 f0 f1 kz_0_11 kz_0_157 ex2
  have nf2 : fc_1 PRD (24, [0, 2], []) ws (vs ++ [Value.int x]) := by
    refine ⟨nf_inA hl rfl, sgq_5 ?_⟩
    · show n_v (vs ++ [Value.int x]) 0 = n_v (vs ++ [Value.int x]) 2
      first | rfl | simp only [e_0, e_2, q2]
  obtain ⟨x0, e0, _, _⟩ := tv_int t10 rfl
  have e1 : v_iv (n_v vs 10) = x0.toInt := by rw [e0]; rfl
  have ho : sy_ofs (vs ++ [Value.int x]) (12, 10, 0, 0) := by
    refine ⟨x, x0, by rw [List.getElem?_append_right (by rw [hl]; decide), hl]; rfl, ?_, ?_, ?_⟩
    · rw [List.getElem?_append_left (by rw [hl]; decide)]; exact n_v_some (by rw [hl]; decide) e0
    · show x0.toInt + 0 ≤ x.toInt; omega
    · show x.toInt ≤ x0.toInt + 0; omega
  exact ⟨(fun _ h => (by cases h)), [Value.int x], ag_one hx, List.forall_mem_cons.mpr ⟨⟨show (20 : Nat) < 100 from by decide, nf0⟩, List.forall_mem_cons.mpr ⟨⟨show (20 : Nat) < 100 from by decide, nf1⟩, List.forall_mem_cons.mpr ⟨⟨show (24 : Nat) < 100 from by decide, nf2⟩, (fun _ h => (by cases h))⟩⟩⟩, List.forall_mem_cons.mpr ⟨ho, (fun _ h => (by cases h))⟩⟩
set_option maxHeartbeats 4000000 in
theorem vc_Mo_styleTokens_48_0 (x6 : Int) (x10 : Int) (x12 : Int) (x14 : Int) (pos_1 : Int) (tokens_1 : Int) (pos_0 : Int) (tokens_0 : Int) (k6 : 0 ≤ x6 ∧ x6 ≤ 1999) (k10 : 0 ≤ x10 ∧ x10 ≤ 1999) (k12 : 4 ≤ x12 ∧ x12 ≤ 4) (k14 : 1 ≤ x14 ∧ x14 ≤ 2000) (d0 : x10 + 1 ≤ x14 ∧ x14 ≤ x10 + 1) (d1 : x6 + (-4294967296) ≤ x14 ∧ x14 ≤ x6 + 1) (d2 : x10 + (-4294967296) ≤ x6 ∧ x6 ≤ x10 + 0) (g4 : x10 = pos_1) (f5 : (tokens_1 ≤ x6) ∧ (pos_1 = x6)) (fe_0_11_1 : pos_0 = x14) (fe_0_157_1 : tokens_0 = tokens_1) (kz_0_11 : 0 ≤ pos_0 ∧ pos_0 ≤ 2000) (kz_0_157 : 0 ≤ tokens_0 ∧ tokens_0 ≤ 2010) : (tokens_0 ≤ x6) ∧ ((x6 ≤ pos_0) ∧ ((x12 = 0) ∨ ((x12 = 4) ∨ ((x6 + 1) ≤ pos_0)))) := by
  subst fe_0_157_1
  first | assumption | omega | grind
set_option maxHeartbeats 4000000 in
theorem vc_Mo_styleTokens_48_1 (x6 : Int) (x10 : Int) (x11 : Int) (x14 : Int) (pos_1 : Int) (tokens_1 : Int) (pos_0 : Int) (tokens_0 : Int) (gx : Int) (k6 : 0 ≤ x6 ∧ x6 ≤ 1999) (k10 : 0 ≤ x10 ∧ x10 ≤ 1999) (k11 : 0 ≤ x11 ∧ x11 ≤ 4001) (k14 : 1 ≤ x14 ∧ x14 ≤ 2000) (d0 : x10 + 1 ≤ x14 ∧ x14 ≤ x10 + 1) (d1 : x6 + (-4294967296) ≤ x14 ∧ x14 ≤ x6 + 1) (d2 : x10 + (-4294967296) ≤ x6 ∧ x6 ≤ x10 + 0) (f0 : (-1) * x11 + ((-2) * x6 + 0) ≤ (-4001)) (g4 : x10 = pos_1) (fe_0_11_1 : pos_0 = x14) (fe_0_157_1 : tokens_0 = tokens_1) (kz_0_11 : 0 ≤ pos_0 ∧ pos_0 ≤ 2000) (kz_0_157 : 0 ≤ tokens_0 ∧ tokens_0 ≤ 2010) (ex2 : gx = 0 + (1 * x11 + 0)) : (-1) * gx + ((-2) * x6 + 0) ≤ (-4001) := by
  subst fe_0_157_1
  first | assumption | omega | grind
def o_Mo_styleTokens_48 : or_T := (363, 15, [(0, (2, 0, 0, [165])), (2, (2, 0, 0, [165])), (6, (0, 0, 1999, [])), (10, (0, 0, 1999, [])), (11, (0, 0, 4001, [])), (12, (0, 4, 4, [])), (13, (0, 1, 1, [])), (14, (0, 1, 2000, []))], [(20, [11, 6], [30, -4001, -1, 0, 0, -2, 0, 0]), (24, [0, 2], []), (101, [2, 14], [11]), (1, [14, 10, 13], []), (9, [10, 2], [11]), (20, [2, 6], [50, 2, 0, 157, 11, 2, 7, 0, 3, 2, 0, 157, 1, 1, 1, 3, 2, 0, 11, 1, 1]), (20, [11, 6], [30, -4001, -1, 0, 0, -2, 0, 0])], [], [(0, 0, 4001, [])], [(20, [2, 6, 12], [50, 2, 0, 157, 11, 2, 7, 0, 3, 2, 0, 157, 1, 1, 2, 7, 0, 2, 1, 1, 2, 0, 11, 3, 6, 1, 2, 1, 2, 0, 0, 3, 6, 1, 2, 1, 2, 0, 4, 0, 6, 4, 2, 1, 1, 0, 1, 2, 0, 11]), (20, [15, 6], [30, -4001, -1, 0, 0, -2, 0, 0]), (24, [0, 2], [])], [(15, 11, 0, 0)], [(14, 10, 1, 1), (14, 6, -4294967296, 1), (6, 10, -4294967296, 0), (10, 6, -4294967296, 0)])
theorem oo_Mo_styleTokens_48 {kA : Nat → ClassId} : or_ok PRD kA GG o_Mo_styleTokens_48 := by
  refine or_mk fun A ta ws vs hD hth hl => ?_
  intro t0 r0 t2 r2 t6 k6 t10 k10 t11 k11 t12 k12 t13 k13 t14 k14 d0 d1 d2 d3 f0 f1 ta1 w1 le1 s1 f3 f4 f5 f6
  replace f0 := shm_1293 f0
  replace f1 := shm_5 f1
  have s1 : (∀ b j, w_el ws b j = w_el w1 b j) ∧ ∀ b j, w_fd ws b j = if b = v_ad (n_v vs 2) ∧ j = 11 then n_v vs 14 else w_fd w1 b j := s1.2
  replace f3 := shm_12 f3
  replace f4 := shm_117 f4
  replace f5 := shm_1294 f5
  replace f6 := shm_1293 f6
  have q2 : n_v vs 2 = n_v vs 0 := f1.symm
  rw [q2] at s1
  simp only [q2] at f4 f5
  have g4 : v_iv (n_v vs 10) = w_fi w1 (n_v vs 0) 11 := congrArg v_iv f4
  have fe_0_11_1 : w_fi ws (n_v vs 0) 11 = v_iv (n_v vs 14) := by show v_iv (w_fd _ _ _) = _; rw [s1.2, if_pos ⟨rfl, rfl⟩]
  have fe_0_157_1 : w_fi ws (n_v vs 0) 157 = w_fi w1 (n_v vs 0) 157 := by show v_iv (w_fd _ _ _) = v_iv (w_fd _ _ _); rw [s1.2, if_neg (fun e => absurd e.2 (by decide))]
  have kz_0_11 := fdq_273 hD hth r0
  have kz_0_157 := fdq_42 hD hth r0
  obtain ⟨x, ex, hx⟩ := iv_ex (ta := ta) (lo := 0) (hi := 4001) (z := 0 + (1 * v_iv (n_v vs 11) + 0)) (by omega) (by omega) (by omega) (by omega)
  have ex2 : v_iv (Value.int x) = 0 + (1 * v_iv (n_v vs 11) + 0) := ex
  have ex3 : 0 ≤ v_iv (Value.int x) ∧ v_iv (Value.int x) ≤ 4001 := tv_rng hx
  have e_0 : n_v (vs ++ [Value.int x]) 0 = n_v vs 0 := n_v_old (by rw [hl]; decide)
  have e_2 : n_v (vs ++ [Value.int x]) 2 = n_v vs 2 := n_v_old (by rw [hl]; decide)
  have e_6 : n_v (vs ++ [Value.int x]) 6 = n_v vs 6 := n_v_old (by rw [hl]; decide)
  have e_12 : n_v (vs ++ [Value.int x]) 12 = n_v vs 12 := n_v_old (by rw [hl]; decide)
  have e_15 : n_v (vs ++ [Value.int x]) 15 = Value.int x := n_v_new hl
  have nf0 : fc_1 PRD (20, [2, 6, 12], [50, 2, 0, 157, 11, 2, 7, 0, 3, 2, 0, 157, 1, 1, 2, 7, 0, 2, 1, 1, 2, 0, 11, 3, 6, 1, 2, 1, 2, 0, 0, 3, 6, 1, 2, 1, 2, 0, 4, 0, 6, 4, 2, 1, 1, 0, 1, 2, 0, 11]) ws (vs ++ [Value.int x]) := by
    refine ⟨nf_inA hl rfl, sgq_1292 ?_⟩
    · show (w_fi ws (n_v (vs ++ [Value.int x]) 2) 157 ≤ v_iv (n_v (vs ++ [Value.int x]) 6)) ∧ ((v_iv (n_v (vs ++ [Value.int x]) 6) ≤ w_fi ws (n_v (vs ++ [Value.int x]) 2) 11) ∧ ((v_iv (n_v (vs ++ [Value.int x]) 12) = 0) ∨ ((v_iv (n_v (vs ++ [Value.int x]) 12) = 4) ∨ ((v_iv (n_v (vs ++ [Value.int x]) 6) + 1) ≤ w_fi ws (n_v (vs ++ [Value.int x]) 2) 11))))
      simp only [e_2, e_6, e_12, q2]
      exact vc_Mo_styleTokens_48_0 (v_iv (n_v vs 6)) (v_iv (n_v vs 10)) (v_iv (n_v vs 12)) (v_iv (n_v vs 14)) (w_fi w1 (n_v vs 0) 11) (w_fi w1 (n_v vs 0) 157) (w_fi ws (n_v vs 0) 11) (w_fi ws (n_v vs 0) 157) k6 k10 k12 k14 d0 d1 d2 g4 f5 fe_0_11_1 fe_0_157_1 kz_0_11 kz_0_157
  have nf1 : fc_1 PRD (20, [15, 6], [30, -4001, -1, 0, 0, -2, 0, 0]) ws (vs ++ [Value.int x]) := by
    refine ⟨nf_inA hl rfl, sgq_1293 ?_⟩
    · show (-1) * v_iv (n_v (vs ++ [Value.int x]) 15) + ((-2) * v_iv (n_v (vs ++ [Value.int x]) 6) + 0) ≤ (-4001)
      simp only [e_6, e_15]
      exact vc_Mo_styleTokens_48_1 (v_iv (n_v vs 6)) (v_iv (n_v vs 10)) (v_iv (n_v vs 11)) (v_iv (n_v vs 14)) (w_fi w1 (n_v vs 0) 11) (w_fi w1 (n_v vs 0) 157) (w_fi ws (n_v vs 0) 11) (w_fi ws (n_v vs 0) 157) (v_iv (Value.int x)) k6 k10 k11 k14 d0 d1 d2 f0 g4 fe_0_11_1 fe_0_157_1 kz_0_11 kz_0_157 ex2
  have nf2 : fc_1 PRD (24, [0, 2], []) ws (vs ++ [Value.int x]) := by
    refine ⟨nf_inA hl rfl, sgq_5 ?_⟩
    · show n_v (vs ++ [Value.int x]) 0 = n_v (vs ++ [Value.int x]) 2
      first | rfl | simp only [e_0, e_2, q2]
  obtain ⟨x0, e0, _, _⟩ := tv_int t11 rfl
  have e1 : v_iv (n_v vs 11) = x0.toInt := by rw [e0]; rfl
  have ho : sy_ofs (vs ++ [Value.int x]) (15, 11, 0, 0) := by
    refine ⟨x, x0, by rw [List.getElem?_append_right (by rw [hl]; decide), hl]; rfl, ?_, ?_, ?_⟩
    · rw [List.getElem?_append_left (by rw [hl]; decide)]; exact n_v_some (by rw [hl]; decide) e0
    · show x0.toInt + 0 ≤ x.toInt; omega
    · show x.toInt ≤ x0.toInt + 0; omega
  exact ⟨(fun _ h => (by cases h)), [Value.int x], ag_one hx, List.forall_mem_cons.mpr ⟨⟨show (20 : Nat) < 100 from by decide, nf0⟩, List.forall_mem_cons.mpr ⟨⟨show (20 : Nat) < 100 from by decide, nf1⟩, List.forall_mem_cons.mpr ⟨⟨show (24 : Nat) < 100 from by decide, nf2⟩, (fun _ h => (by cases h))⟩⟩⟩, List.forall_mem_cons.mpr ⟨ho, (fun _ h => (by cases h))⟩⟩
set_option maxHeartbeats 4000000 in
theorem vc_Mo_styleTokens_49_0 (x6 : Int) (x10 : Int) (x12 : Int) (x14 : Int) (pos_1 : Int) (tokens_1 : Int) (pos_0 : Int) (tokens_0 : Int) (k6 : 0 ≤ x6 ∧ x6 ≤ 1999) (k10 : 0 ≤ x10 ∧ x10 ≤ 1999) (k12 : 3 ≤ x12 ∧ x12 ≤ 3) (k14 : 1 ≤ x14 ∧ x14 ≤ 2000) (d0 : x10 + 1 ≤ x14 ∧ x14 ≤ x10 + 1) (d1 : x6 + (-4294967296) ≤ x14 ∧ x14 ≤ x6 + 1) (d2 : x10 + (-4294967296) ≤ x6 ∧ x6 ≤ x10 + 0) (g4 : x10 = pos_1) (f5 : (tokens_1 ≤ x6) ∧ (pos_1 = x6)) (fe_0_11_1 : pos_0 = x14) (fe_0_157_1 : tokens_0 = tokens_1) (kz_0_11 : 0 ≤ pos_0 ∧ pos_0 ≤ 2000) (kz_0_157 : 0 ≤ tokens_0 ∧ tokens_0 ≤ 2010) : (tokens_0 ≤ x6) ∧ ((x6 ≤ pos_0) ∧ ((x12 = 0) ∨ ((x12 = 4) ∨ ((x6 + 1) ≤ pos_0)))) := by
  subst fe_0_157_1
  first | assumption | omega | grind
set_option maxHeartbeats 4000000 in
theorem vc_Mo_styleTokens_49_1 (x6 : Int) (x10 : Int) (x11 : Int) (x14 : Int) (pos_1 : Int) (tokens_1 : Int) (pos_0 : Int) (tokens_0 : Int) (gx : Int) (k6 : 0 ≤ x6 ∧ x6 ≤ 1999) (k10 : 0 ≤ x10 ∧ x10 ≤ 1999) (k11 : 0 ≤ x11 ∧ x11 ≤ 4001) (k14 : 1 ≤ x14 ∧ x14 ≤ 2000) (d0 : x10 + 1 ≤ x14 ∧ x14 ≤ x10 + 1) (d1 : x6 + (-4294967296) ≤ x14 ∧ x14 ≤ x6 + 1) (d2 : x10 + (-4294967296) ≤ x6 ∧ x6 ≤ x10 + 0) (f0 : (-1) * x11 + ((-2) * x6 + 0) ≤ (-4001)) (g4 : x10 = pos_1) (fe_0_11_1 : pos_0 = x14) (fe_0_157_1 : tokens_0 = tokens_1) (kz_0_11 : 0 ≤ pos_0 ∧ pos_0 ≤ 2000) (kz_0_157 : 0 ≤ tokens_0 ∧ tokens_0 ≤ 2010) (ex2 : gx = 0 + (1 * x11 + 0)) : (-1) * gx + ((-2) * x6 + 0) ≤ (-4001) := by
  subst fe_0_157_1
  first | assumption | omega | grind
def o_Mo_styleTokens_49 : or_T := (363, 15, [(0, (2, 0, 0, [165])), (2, (2, 0, 0, [165])), (6, (0, 0, 1999, [])), (10, (0, 0, 1999, [])), (11, (0, 0, 4001, [])), (12, (0, 3, 3, [])), (13, (0, 1, 1, [])), (14, (0, 1, 2000, []))], [(20, [11, 6], [30, -4001, -1, 0, 0, -2, 0, 0]), (24, [0, 2], []), (101, [2, 14], [11]), (1, [14, 10, 13], []), (9, [10, 2], [11]), (20, [2, 6], [50, 2, 0, 157, 11, 2, 7, 0, 3, 2, 0, 157, 1, 1, 1, 3, 2, 0, 11, 1, 1]), (20, [11, 6], [30, -4001, -1, 0, 0, -2, 0, 0])], [], [(0, 0, 4001, [])], [(20, [2, 6, 12], [50, 2, 0, 157, 11, 2, 7, 0, 3, 2, 0, 157, 1, 1, 2, 7, 0, 2, 1, 1, 2, 0, 11, 3, 6, 1, 2, 1, 2, 0, 0, 3, 6, 1, 2, 1, 2, 0, 4, 0, 6, 4, 2, 1, 1, 0, 1, 2, 0, 11]), (20, [15, 6], [30, -4001, -1, 0, 0, -2, 0, 0]), (24, [0, 2], [])], [(15, 11, 0, 0)], [(14, 10, 1, 1), (14, 6, -4294967296, 1), (6, 10, -4294967296, 0), (10, 6, -4294967296, 0)])
theorem oo_Mo_styleTokens_49 {kA : Nat → ClassId} : or_ok PRD kA GG o_Mo_styleTokens_49 := by
  refine or_mk fun A ta ws vs hD hth hl => ?_
  intro t0 r0 t2 r2 t6 k6 t10 k10 t11 k11 t12 k12 t13 k13 t14 k14 d0 d1 d2 d3 f0 f1 ta1 w1 le1 s1 f3 f4 f5 f6
  replace f0 := shm_1293 f0
  replace f1 := shm_5 f1
  have s1 : (∀ b j, w_el ws b j = w_el w1 b j) ∧ ∀ b j, w_fd ws b j = if b = v_ad (n_v vs 2) ∧ j = 11 then n_v vs 14 else w_fd w1 b j := s1.2
  replace f3 := shm_12 f3
  replace f4 := shm_117 f4
  replace f5 := shm_1294 f5
  replace f6 := shm_1293 f6
  have q2 : n_v vs 2 = n_v vs 0 := f1.symm
  rw [q2] at s1
  simp only [q2] at f4 f5
  have g4 : v_iv (n_v vs 10) = w_fi w1 (n_v vs 0) 11 := congrArg v_iv f4
  have fe_0_11_1 : w_fi ws (n_v vs 0) 11 = v_iv (n_v vs 14) := by show v_iv (w_fd _ _ _) = _; rw [s1.2, if_pos ⟨rfl, rfl⟩]
  have fe_0_157_1 : w_fi ws (n_v vs 0) 157 = w_fi w1 (n_v vs 0) 157 := by show v_iv (w_fd _ _ _) = v_iv (w_fd _ _ _); rw [s1.2, if_neg (fun e => absurd e.2 (by decide))]
  have kz_0_11 := fdq_273 hD hth r0
  have kz_0_157 := fdq_42 hD hth r0
  obtain ⟨x, ex, hx⟩ := iv_ex (ta := ta) (lo := 0) (hi := 4001) (z := 0 + (1 * v_iv (n_v vs 11) + 0)) (by omega) (by omega) (by omega) (by omega)
  have ex2 : v_iv (Value.int x) = 0 + (1 * v_iv (n_v vs 11) + 0) := ex
  have ex3 : 0 ≤ v_iv (Value.int x) ∧ v_iv (Value.int x) ≤ 4001 := tv_rng hx
  have e_0 : n_v (vs ++ [Value.int x]) 0 = n_v vs 0 := n_v_old (by rw [hl]; decide)
  have e_2 : n_v (vs ++ [Value.int x]) 2 = n_v vs 2 := n_v_old (by rw [hl]; decide)
  have e_6 : n_v (vs ++ [Value.int x]) 6 = n_v vs 6 := n_v_old (by rw [hl]; decide)
  have e_12 : n_v (vs ++ [Value.int x]) 12 = n_v vs 12 := n_v_old (by rw [hl]; decide)
  have e_15 : n_v (vs ++ [Value.int x]) 15 = Value.int x := n_v_new hl
  have nf0 : fc_1 PRD (20, [2, 6, 12], [50, 2, 0, 157, 11, 2, 7, 0, 3, 2, 0, 157, 1, 1, 2, 7, 0, 2, 1, 1, 2, 0, 11, 3, 6, 1, 2, 1, 2, 0, 0, 3, 6, 1, 2, 1, 2, 0, 4, 0, 6, 4, 2, 1, 1, 0, 1, 2, 0, 11]) ws (vs ++ [Value.int x]) := by
    refine ⟨nf_inA hl rfl, sgq_1292 ?_⟩
    · show (w_fi ws (n_v (vs ++ [Value.int x]) 2) 157 ≤ v_iv (n_v (vs ++ [Value.int x]) 6)) ∧ ((v_iv (n_v (vs ++ [Value.int x]) 6) ≤ w_fi ws (n_v (vs ++ [Value.int x]) 2) 11) ∧ ((v_iv (n_v (vs ++ [Value.int x]) 12) = 0) ∨ ((v_iv (n_v (vs ++ [Value.int x]) 12) = 4) ∨ ((v_iv (n_v (vs ++ [Value.int x]) 6) + 1) ≤ w_fi ws (n_v (vs ++ [Value.int x]) 2) 11))))
      simp only [e_2, e_6, e_12, q2]
      exact vc_Mo_styleTokens_49_0 (v_iv (n_v vs 6)) (v_iv (n_v vs 10)) (v_iv (n_v vs 12)) (v_iv (n_v vs 14)) (w_fi w1 (n_v vs 0) 11) (w_fi w1 (n_v vs 0) 157) (w_fi ws (n_v vs 0) 11) (w_fi ws (n_v vs 0) 157) k6 k10 k12 k14 d0 d1 d2 g4 f5 fe_0_11_1 fe_0_157_1 kz_0_11 kz_0_157
  have nf1 : fc_1 PRD (20, [15, 6], [30, -4001, -1, 0, 0, -2, 0, 0]) ws (vs ++ [Value.int x]) := by
    refine ⟨nf_inA hl rfl, sgq_1293 ?_⟩
    · show (-1) * v_iv (n_v (vs ++ [Value.int x]) 15) + ((-2) * v_iv (n_v (vs ++ [Value.int x]) 6) + 0) ≤ (-4001)
      simp only [e_6, e_15]
      exact vc_Mo_styleTokens_49_1 (v_iv (n_v vs 6)) (v_iv (n_v vs 10)) (v_iv (n_v vs 11)) (v_iv (n_v vs 14)) (w_fi w1 (n_v vs 0) 11) (w_fi w1 (n_v vs 0) 157) (w_fi ws (n_v vs 0) 11) (w_fi ws (n_v vs 0) 157) (v_iv (Value.int x)) k6 k10 k11 k14 d0 d1 d2 f0 g4 fe_0_11_1 fe_0_157_1 kz_0_11 kz_0_157 ex2
  have nf2 : fc_1 PRD (24, [0, 2], []) ws (vs ++ [Value.int x]) := by
    refine ⟨nf_inA hl rfl, sgq_5 ?_⟩
    · show n_v (vs ++ [Value.int x]) 0 = n_v (vs ++ [Value.int x]) 2
      first | rfl | simp only [e_0, e_2, q2]
  obtain ⟨x0, e0, _, _⟩ := tv_int t11 rfl
  have e1 : v_iv (n_v vs 11) = x0.toInt := by rw [e0]; rfl
  have ho : sy_ofs (vs ++ [Value.int x]) (15, 11, 0, 0) := by
    refine ⟨x, x0, by rw [List.getElem?_append_right (by rw [hl]; decide), hl]; rfl, ?_, ?_, ?_⟩
    · rw [List.getElem?_append_left (by rw [hl]; decide)]; exact n_v_some (by rw [hl]; decide) e0
    · show x0.toInt + 0 ≤ x.toInt; omega
    · show x.toInt ≤ x0.toInt + 0; omega
  exact ⟨(fun _ h => (by cases h)), [Value.int x], ag_one hx, List.forall_mem_cons.mpr ⟨⟨show (20 : Nat) < 100 from by decide, nf0⟩, List.forall_mem_cons.mpr ⟨⟨show (20 : Nat) < 100 from by decide, nf1⟩, List.forall_mem_cons.mpr ⟨⟨show (24 : Nat) < 100 from by decide, nf2⟩, (fun _ h => (by cases h))⟩⟩⟩, List.forall_mem_cons.mpr ⟨ho, (fun _ h => (by cases h))⟩⟩
set_option maxHeartbeats 4000000 in
theorem vc_Mo_styleTokens_50_r0 (x6 : Int) (x7 : Int) (x12 : Int) (tokens_0 : Int) (pos_0 : Int) (k6 : 0 ≤ x6 ∧ x6 ≤ 2000) (k7 : 0 ≤ x7 ∧ x7 ≤ 4) (k12 : 0 ≤ x12 ∧ x12 ≤ 2010) (g0 : x12 = tokens_0) (f1 : (tokens_0 ≤ x6) ∧ ((x6 ≤ pos_0) ∧ ((x7 = 0) ∨ ((x7 = 4) ∨ ((x6 + 1) ≤ pos_0))))) (kz_0_11 : 0 ≤ pos_0 ∧ pos_0 ≤ 2000) (kz_0_157 : 0 ≤ tokens_0 ∧ tokens_0 ≤ 2010) : 0 ≤ x12 ∧ x12 ≤ 2000 := by
  first | assumption | omega | grind
def o_Mo_styleTokens_50 : or_T := (373, 13, [(0, (2, 0, 0, [165])), (2, (2, 0, 0, [165])), (6, (0, 0, 2000, [])), (7, (0, 0, 4, [])), (10, (0, 0, 4001, [])), (12, (0, 0, 2010, []))], [(9, [12, 2], [157]), (20, [2, 6, 7], [50, 2, 0, 157, 11, 2, 7, 0, 3, 2, 0, 157, 1, 1, 2, 7, 0, 2, 1, 1, 2, 0, 11, 3, 6, 1, 2, 1, 2, 0, 0, 3, 6, 1, 2, 1, 2, 0, 4, 0, 6, 4, 2, 1, 1, 0, 1, 2, 0, 11]), (20, [10, 6], [30, -4001, -1, 0, 0, -2, 0, 0]), (24, [0, 2], [])], [(12, (0, 0, 2000, []))], [], [], [], [])
theorem oo_Mo_styleTokens_50 {kA : Nat → ClassId} : or_ok PRD kA GG o_Mo_styleTokens_50 := by
  refine or_mk fun A ta ws vs hD hth hl => ?_
  intro t0 r0 t2 r2 t6 k6 t7 k7 t10 k10 t12 k12 f0 f1 f2 f3
  replace f0 := shm_1297 f0
  replace f1 := shm_1292 f1
  replace f3 := shm_5 f3
  have q2 : n_v vs 2 = n_v vs 0 := f3.symm
  simp only [q2] at f0 f1
  have g0 : v_iv (n_v vs 12) = w_fi ws (n_v vs 0) 157 := congrArg v_iv f0
  have kz_0_11 := fdq_273 hD hth r0
  have kz_0_157 := fdq_42 hD hth r0
  have hrf0 : 0 ≤ v_iv (n_v vs 12) ∧ v_iv (n_v vs 12) ≤ 2000 := vc_Mo_styleTokens_50_r0 (v_iv (n_v vs 6)) (v_iv (n_v vs 7)) (v_iv (n_v vs 12)) (w_fi ws (n_v vs 0) 157) (w_fi ws (n_v vs 0) 11) k6 k7 k12 g0 f1 kz_0_11 kz_0_157
  have rf12 : tv_ok ta (0, 0, 2000, []) (n_v vs 12) := tv_in t12 (by first | omega | grind) (by first | omega | grind)
  refine ⟨List.forall_mem_cons.mpr ⟨rf12, (fun _ h => (by cases h))⟩, [], trivial, ?_, (fun _ h => (by cases h))⟩
  rw [List.append_nil]
  exact (fun _ h => (by cases h))
set_option maxHeartbeats 4000000 in
theorem vc_Mo_styleTokens_51_0 (x6 : Int) (x7 : Int) (x9 : Int) (x12 : Int) (x17 : Int) (x18 : Int) (tokens_1 : Int) (pos_1 : Int) (pos_2 : Int) (tokens_2 : Int) (tokens_3 : Int) (pos_3 : Int) (tokens_4 : Int) (pos_4 : Int) (tokens_5 : Int) (pos_5 : Int) (pos_0 : Int) (tokens_0 : Int) (tokenKind_0 : Int → Int) (tokenKind_1 : Int → Int) (tokenKind_2 : Int → Int) (tokenKind_3 : Int → Int) (tokenKind_4 : Int → Int) (tokenKind_5 : Int → Int) (k6 : 0 ≤ x6 ∧ x6 ≤ 2000) (k7 : 0 ≤ x7 ∧ x7 ≤ 0) (k9 : 0 ≤ x9 ∧ x9 ≤ 2000) (k12 : 0 ≤ x12 ∧ x12 ≤ 2000) (k17 : 1 ≤ x17 ∧ x17 ≤ 2001) (k18 : 0 ≤ x18 ∧ x18 ≤ 0) (d0 : x12 + 1 ≤ x17 ∧ x17 ≤ x12 + 1) (g5 : x12 = tokens_1) (f6 : (tokens_1 ≤ x6) ∧ ((x6 ≤ pos_1) ∧ ((x7 = 0) ∨ ((x7 = 4) ∨ ((x6 + 1) ≤ pos_1))))) (g9 : x9 = pos_2) (fe_0_11_1 : pos_0 = pos_1) (fe_0_157_1 : tokens_0 = x17) (fe_0_11_2 : pos_1 = pos_2) (fe_0_157_2 : tokens_1 = tokens_2) (fe_0_11_3 : pos_2 = pos_3) (fe_0_157_3 : tokens_2 = tokens_3) (fe_0_11_4 : pos_3 = pos_4) (fe_0_157_4 : tokens_3 = tokens_4) (fe_0_11_5 : pos_4 = pos_5) (fe_0_157_5 : tokens_4 = tokens_5) (hE_0_160_1 : ∀ j : Int, tokenKind_0 j = tokenKind_1 j) (hE_0_160_2 : ∀ j : Int, tokenKind_1 j = tokenKind_2 j) (hE_0_160_3 : ∀ j : Int, tokenKind_2 j = tokenKind_3 j) (hE_0_160_4 : ∀ j : Int, tokenKind_3 j = tokenKind_4 j) (hE_0_160_5 : ∀ j : Int, 0 ≤ j → (j = x12 → tokenKind_4 j = x7) ∧ (j ≠ x12 → tokenKind_4 j = tokenKind_5 j)) (kz_0_11 : 0 ≤ pos_0 ∧ pos_0 ≤ 2000) (kz_0_157 : 0 ≤ tokens_0 ∧ tokens_0 ≤ 2010) : ((tokens_0 + x18) ≤ (pos_0 + 1)) ∧ ((x18 = 1) ∨ ((1 ≤ tokens_0) ∧ ((tokenKind_0 ((tokens_0 - 1)) = 0) ∨ (tokenKind_0 ((tokens_0 - 1)) = 4)))) := by
  subst fe_0_11_1
  subst fe_0_11_2
  subst fe_0_157_2
  subst fe_0_11_3
  subst fe_0_157_3
  subst fe_0_11_4
  subst fe_0_157_4
  subst fe_0_11_5
  subst fe_0_157_5
  have e_hE_0_160_1 := funext hE_0_160_1; subst e_hE_0_160_1
  have e_hE_0_160_2 := funext hE_0_160_2; subst e_hE_0_160_2
  have e_hE_0_160_3 := funext hE_0_160_3; subst e_hE_0_160_3
  have e_hE_0_160_4 := funext hE_0_160_4; subst e_hE_0_160_4
  first | assumption | omega | grind
set_option maxHeartbeats 4000000 in
theorem vc_Mo_styleTokens_51_2 (x18 : Int) (tokens_1 : Int) (pos_1 : Int) (pos_2 : Int) (tokens_2 : Int) (tokens_3 : Int) (pos_3 : Int) (tokens_4 : Int) (pos_4 : Int) (tokens_5 : Int) (pos_5 : Int) (pos_0 : Int) (tokenKind_0 : Int → Int) (tokenKind_1 : Int → Int) (tokenKind_2 : Int → Int) (tokenKind_3 : Int → Int) (tokenKind_4 : Int → Int) (gx : Int) (k18 : 0 ≤ x18 ∧ x18 ≤ 0) (fe_0_11_1 : pos_0 = pos_1) (fe_0_11_2 : pos_1 = pos_2) (fe_0_157_2 : tokens_1 = tokens_2) (fe_0_11_3 : pos_2 = pos_3) (fe_0_157_3 : tokens_2 = tokens_3) (fe_0_11_4 : pos_3 = pos_4) (fe_0_157_4 : tokens_3 = tokens_4) (fe_0_11_5 : pos_4 = pos_5) (fe_0_157_5 : tokens_4 = tokens_5) (hE_0_160_1 : ∀ j : Int, tokenKind_0 j = tokenKind_1 j) (hE_0_160_2 : ∀ j : Int, tokenKind_1 j = tokenKind_2 j) (hE_0_160_3 : ∀ j : Int, tokenKind_2 j = tokenKind_3 j) (hE_0_160_4 : ∀ j : Int, tokenKind_3 j = tokenKind_4 j) (kz_0_11 : 0 ≤ pos_0 ∧ pos_0 ≤ 2000) (ex2 : gx = 4000 + ((-2) * pos_0 + (1 * x18 + 0))) : 1 * gx + (2 * pos_0 + ((-1) * x18 + 0)) ≤ 4000 := by
  subst fe_0_11_1
  subst fe_0_11_2
  subst fe_0_157_2
  subst fe_0_11_3
  subst fe_0_157_3
  subst fe_0_11_4
  subst fe_0_157_4
  subst fe_0_11_5
  subst fe_0_157_5
  have e_hE_0_160_1 := funext hE_0_160_1; subst e_hE_0_160_1
  have e_hE_0_160_2 := funext hE_0_160_2; subst e_hE_0_160_2
  have e_hE_0_160_3 := funext hE_0_160_3; subst e_hE_0_160_3
  have e_hE_0_160_4 := funext hE_0_160_4; subst e_hE_0_160_4
  first | assumption | omega | grind
set_option maxHeartbeats 4000000 in
theorem vc_Mo_styleTokens_51_3 (x18 : Int) (tokens_1 : Int) (pos_1 : Int) (pos_2 : Int) (tokens_2 : Int) (tokens_3 : Int) (pos_3 : Int) (tokens_4 : Int) (pos_4 : Int) (tokens_5 : Int) (pos_5 : Int) (pos_0 : Int) (tokenKind_0 : Int → Int) (tokenKind_1 : Int → Int) (tokenKind_2 : Int → Int) (tokenKind_3 : Int → Int) (tokenKind_4 : Int → Int) (gx : Int) (k18 : 0 ≤ x18 ∧ x18 ≤ 0) (fe_0_11_1 : pos_0 = pos_1) (fe_0_11_2 : pos_1 = pos_2) (fe_0_157_2 : tokens_1 = tokens_2) (fe_0_11_3 : pos_2 = pos_3) (fe_0_157_3 : tokens_2 = tokens_3) (fe_0_11_4 : pos_3 = pos_4) (fe_0_157_4 : tokens_3 = tokens_4) (fe_0_11_5 : pos_4 = pos_5) (fe_0_157_5 : tokens_4 = tokens_5) (hE_0_160_1 : ∀ j : Int, tokenKind_0 j = tokenKind_1 j) (hE_0_160_2 : ∀ j : Int, tokenKind_1 j = tokenKind_2 j) (hE_0_160_3 : ∀ j : Int, tokenKind_2 j = tokenKind_3 j) (hE_0_160_4 : ∀ j : Int, tokenKind_3 j = tokenKind_4 j) (kz_0_11 : 0 ≤ pos_0 ∧ pos_0 ≤ 2000) (ex2 : gx = 4000 + ((-2) * pos_0 + (1 * x18 + 0))) : (-1) * gx + ((-2) * pos_0 + (1 * x18 + 0)) ≤ (-4000) := by
  subst fe_0_11_1
  subst fe_0_11_2
  subst fe_0_157_2
  subst fe_0_11_3
  subst fe_0_157_3
  subst fe_0_11_4
  subst fe_0_157_4
  subst fe_0_11_5
  subst fe_0_157_5
  have e_hE_0_160_1 := funext hE_0_160_1; subst e_hE_0_160_1
  have e_hE_0_160_2 := funext hE_0_160_2; subst e_hE_0_160_2
  have e_hE_0_160_3 := funext hE_0_160_3; subst e_hE_0_160_3
  have e_hE_0_160_4 := funext hE_0_160_4; subst e_hE_0_160_4
  first | assumption | omega | grind
def o_Mo_styleTokens_51 : or_T := (17, 19, [(0, (2, 0, 0, [165])), (2, (2, 0, 0, [165])), (6, (0, 0, 2000, [])), (7, (0, 0, 0, [])), (9, (0, 0, 2000, [])), (10, (0, 0, 4001, [])), (11, (2, 0, 0, [274])), (12, (0, 0, 2000, [])), (13, (2, 0, 0, [275])), (14, (2, 0, 0, [276])), (15, (2, 0, 0, [277])), (16, (0, 1, 1, [])), (17, (0, 1, 2001, [])), (18, (0, 0, 0, []))], [(8, [7], [0]), (20, [10, 6], [30, -4001, -1, 0, 0, -2, 0, 0]), (24, [0, 2], []), (101, [2, 17], [157]), (1, [17, 12, 16], []), (9, [12, 2], [157]), (20, [2, 6, 7], [50, 2, 0, 157, 11, 2, 7, 0, 3, 2, 0, 157, 1, 1, 2, 7, 0, 2, 1, 1, 2, 0, 11, 3, 6, 1, 2, 1, 2, 0, 0, 3, 6, 1, 2, 1, 2, 0, 4, 0, 6, 4, 2, 1, 1, 0, 1, 2, 0, 11]), (20, [10, 6], [30, -4001, -1, 0, 0, -2, 0, 0]), (100, [15, 12, 9], []), (9, [9, 2], [11]), (9, [15, 2], [163]), (20, [2, 6, 7], [50, 2, 0, 157, 11, 2, 7, 0, 3, 2, 0, 157, 1, 1, 2, 7, 0, 2, 1, 1, 2, 0, 11, 3, 6, 1, 2, 1, 2, 0, 0, 3, 6, 1, 2, 1, 2, 0, 4, 0, 6, 4, 2, 1, 1, 0, 1, 2, 0, 11]), (20, [10, 6], [30, -4001, -1, 0, 0, -2, 0, 0]), (100, [14, 12, 6], []), (9, [14, 2], [162]), (20, [2, 6, 7], [50, 2, 0, 157, 11, 2, 7, 0, 3, 2, 0, 157, 1, 1, 2, 7, 0, 2, 1, 1, 2, 0, 11, 3, 6, 1, 2, 1, 2, 0, 0, 3, 6, 1, 2, 1, 2, 0, 4, 0, 6, 4, 2, 1, 1, 0, 1, 2, 0, 11]), (20, [10, 6], [30, -4001, -1, 0, 0, -2, 0, 0]), (100, [13, 12, 8], []), (9, [13, 2], [161]), (20, [2, 6, 7], [50, 2, 0, 157, 11, 2, 7, 0, 3, 2, 0, 157, 1, 1, 2, 7, 0, 2, 1, 1, 2, 0, 11, 3, 6, 1, 2, 1, 2, 0, 0, 3, 6, 1, 2, 1, 2, 0, 4, 0, 6, 4, 2, 1, 1, 0, 1, 2, 0, 11]), (20, [10, 6], [30, -4001, -1, 0, 0, -2, 0, 0]), (100, [11, 12, 7], []), (9, [11, 2], [160]), (20, [2, 6, 7], [50, 2, 0, 157, 11, 2, 7, 0, 3, 2, 0, 157, 1, 1, 2, 7, 0, 2, 1, 1, 2, 0, 11, 3, 6, 1, 2, 1, 2, 0, 0, 3, 6, 1, 2, 1, 2, 0, 4, 0, 6, 4, 2, 1, 1, 0, 1, 2, 0, 11]), (20, [10, 6], [30, -4001, -1, 0, 0, -2, 0, 0])], [], [(0, 0, 4001, [])], [(20, [2, 18], [50, 2, 1, 157, 11, 160, 2, 16, 0, 7, 4, 3, 2, 0, 157, 1, 1, 4, 3, 2, 0, 11, 0, 1, 3, 6, 1, 2, 1, 1, 0, 1, 2, 7, 0, 2, 0, 1, 2, 0, 157, 3, 14, 1, 10, 3, 0, 160, 5, 3, 2, 0, 157, 0, 1, 0, 0, 1, 10, 3, 0, 160, 5, 3, 2, 0, 157, 0, 1, 0, 4]), (24, [0, 2], []), (20, [19, 2, 18], [30, 4000, 1, 0, 0, 2, 1, 11, -1, 0, 0]), (20, [19, 2, 18], [30, -4000, -1, 0, 0, -2, 1, 11, 1, 0, 0])], [(19, 10, -1000000000000, -1)], [(17, 12, 1, 1)])
theorem oo_Mo_styleTokens_51 {kA : Nat → ClassId} : or_ok PRD kA GG o_Mo_styleTokens_51 := by
  refine or_mk fun A ta ws vs hD hth hl => ?_
  intro t0 r0 t2 r2 t6 k6 t7 k7 t9 k9 t10 k10 t11 r11 t12 k12 t13 r13 t14 r14 t15 r15 t16 k16 t17 k17 t18 k18 d0 f0 f1 f2 ta1 w1 le1 s1 f4 f5 f6 f7 ta2 w2 le2 s2 f9 f10 f11 f12 ta3 w3 le3 s3 f14 f15 f16 ta4 w4 le4 s4 f18 f19 f20 ta5 w5 le5 s5 f22 f23 f24
  replace f0 := shm_210 f0
  replace f1 := shm_1293 f1
  replace f2 := shm_5 f2
  have s1 : (∀ b j, w_el ws b j = w_el w1 b j) ∧ ∀ b j, w_fd ws b j = if b = v_ad (n_v vs 2) ∧ j = 157 then n_v vs 17 else w_fd w1 b j := s1.2
  replace f4 := shm_12 f4
  replace f5 := shm_1297 f5
  replace f6 := shm_1292 f6
  replace f7 := shm_1293 f7
  have s2 : (∀ b j, w_el w1 b j = if b = v_ad (n_v vs 15) ∧ j = (v_iv (n_v vs 12)).toNat then v_iv (n_v vs 9) else w_el w2 b j) ∧ ∀ b k, w_fd w1 b k = w_fd w2 b k := s2.2
  replace f9 := shm_117 f9
  replace f10 := shm_1298 f10
  replace f11 := shm_1292 f11
  replace f12 := shm_1293 f12
  have s3 : (∀ b j, w_el w2 b j = if b = v_ad (n_v vs 14) ∧ j = (v_iv (n_v vs 12)).toNat then v_iv (n_v vs 6) else w_el w3 b j) ∧ ∀ b k, w_fd w2 b k = w_fd w3 b k := s3.2
  replace f14 := shm_324 f14
  replace f15 := shm_1292 f15
  replace f16 := shm_1293 f16
  have s4 : (∀ b j, w_el w3 b j = if b = v_ad (n_v vs 13) ∧ j = (v_iv (n_v vs 12)).toNat then v_iv (n_v vs 8) else w_el w4 b j) ∧ ∀ b k, w_fd w3 b k = w_fd w4 b k := s4.2
  replace f18 := shm_354 f18
  replace f19 := shm_1292 f19
  replace f20 := shm_1293 f20
  have s5 : (∀ b j, w_el w4 b j = if b = v_ad (n_v vs 11) ∧ j = (v_iv (n_v vs 12)).toNat then v_iv (n_v vs 7) else w_el w5 b j) ∧ ∀ b k, w_fd w4 b k = w_fd w5 b k := s5.2
  replace f22 := shm_345 f22
  replace f23 := shm_1292 f23
  replace f24 := shm_1293 f24
  have q2 : n_v vs 2 = n_v vs 0 := f2.symm
  rw [q2] at s1
  simp only [q2] at f5 f6 f9 f10 f11 f14 f15 f18 f19 f22 f23
  have ar_0_160_1 : w_ar w1 (n_v vs 0) 160 = w_ar ws (n_v vs 0) 160 := by show v_ad (w_fd w1 _ _) = v_ad (w_fd ws _ _); rw [s1.2, if_neg (fun e => absurd e.2 (by decide))]
  have ar_0_160_2 : w_ar w2 (n_v vs 0) 160 = w_ar ws (n_v vs 0) 160 := by rw [← ar_0_160_1]; show v_ad (w_fd w2 _ _) = v_ad (w_fd w1 _ _); rw [s2.2]
  have ar_0_160_3 : w_ar w3 (n_v vs 0) 160 = w_ar ws (n_v vs 0) 160 := by rw [← ar_0_160_2]; show v_ad (w_fd w3 _ _) = v_ad (w_fd w2 _ _); rw [s3.2]
  have ar_0_160_4 : w_ar w4 (n_v vs 0) 160 = w_ar ws (n_v vs 0) 160 := by rw [← ar_0_160_3]; show v_ad (w_fd w4 _ _) = v_ad (w_fd w3 _ _); rw [s4.2]
  have ar_0_160_5 : w_ar w5 (n_v vs 0) 160 = w_ar ws (n_v vs 0) 160 := by rw [← ar_0_160_4]; show v_ad (w_fd w5 _ _) = v_ad (w_fd w4 _ _); rw [s5.2]
  have cr_0_160 := fdq_41 hD hth r0
  have ar_0_161_1 : w_ar w1 (n_v vs 0) 161 = w_ar ws (n_v vs 0) 161 := by show v_ad (w_fd w1 _ _) = v_ad (w_fd ws _ _); rw [s1.2, if_neg (fun e => absurd e.2 (by decide))]
  have ar_0_161_2 : w_ar w2 (n_v vs 0) 161 = w_ar ws (n_v vs 0) 161 := by rw [← ar_0_161_1]; show v_ad (w_fd w2 _ _) = v_ad (w_fd w1 _ _); rw [s2.2]
  have ar_0_161_3 : w_ar w3 (n_v vs 0) 161 = w_ar ws (n_v vs 0) 161 := by rw [← ar_0_161_2]; show v_ad (w_fd w3 _ _) = v_ad (w_fd w2 _ _); rw [s3.2]
  have ar_0_161_4 : w_ar w4 (n_v vs 0) 161 = w_ar ws (n_v vs 0) 161 := by rw [← ar_0_161_3]; show v_ad (w_fd w4 _ _) = v_ad (w_fd w3 _ _); rw [s4.2]
  have ar_0_161_5 : w_ar w5 (n_v vs 0) 161 = w_ar ws (n_v vs 0) 161 := by rw [← ar_0_161_4]; show v_ad (w_fd w5 _ _) = v_ad (w_fd w4 _ _); rw [s5.2]
  have cr_0_161 := fdq_47 hD hth r0
  have ar_0_162_1 : w_ar w1 (n_v vs 0) 162 = w_ar ws (n_v vs 0) 162 := by show v_ad (w_fd w1 _ _) = v_ad (w_fd ws _ _); rw [s1.2, if_neg (fun e => absurd e.2 (by decide))]
  have ar_0_162_2 : w_ar w2 (n_v vs 0) 162 = w_ar ws (n_v vs 0) 162 := by rw [← ar_0_162_1]; show v_ad (w_fd w2 _ _) = v_ad (w_fd w1 _ _); rw [s2.2]
  have ar_0_162_3 : w_ar w3 (n_v vs 0) 162 = w_ar ws (n_v vs 0) 162 := by rw [← ar_0_162_2]; show v_ad (w_fd w3 _ _) = v_ad (w_fd w2 _ _); rw [s3.2]
  have ar_0_162_4 : w_ar w4 (n_v vs 0) 162 = w_ar ws (n_v vs 0) 162 := by rw [← ar_0_162_3]; show v_ad (w_fd w4 _ _) = v_ad (w_fd w3 _ _); rw [s4.2]
  have ar_0_162_5 : w_ar w5 (n_v vs 0) 162 = w_ar ws (n_v vs 0) 162 := by rw [← ar_0_162_4]; show v_ad (w_fd w5 _ _) = v_ad (w_fd w4 _ _); rw [s5.2]
  have cr_0_162 := fdq_48 hD hth r0
  have ar_0_163_1 : w_ar w1 (n_v vs 0) 163 = w_ar ws (n_v vs 0) 163 := by show v_ad (w_fd w1 _ _) = v_ad (w_fd ws _ _); rw [s1.2, if_neg (fun e => absurd e.2 (by decide))]
  have ar_0_163_2 : w_ar w2 (n_v vs 0) 163 = w_ar ws (n_v vs 0) 163 := by rw [← ar_0_163_1]; show v_ad (w_fd w2 _ _) = v_ad (w_fd w1 _ _); rw [s2.2]
  have ar_0_163_3 : w_ar w3 (n_v vs 0) 163 = w_ar ws (n_v vs 0) 163 := by rw [← ar_0_163_2]; show v_ad (w_fd w3 _ _) = v_ad (w_fd w2 _ _); rw [s3.2]
  have ar_0_163_4 : w_ar w4 (n_v vs 0) 163 = w_ar ws (n_v vs 0) 163 := by rw [← ar_0_163_3]; show v_ad (w_fd w4 _ _) = v_ad (w_fd w3 _ _); rw [s4.2]
  have ar_0_163_5 : w_ar w5 (n_v vs 0) 163 = w_ar ws (n_v vs 0) 163 := by rw [← ar_0_163_4]; show v_ad (w_fd w5 _ _) = v_ad (w_fd w4 _ _); rw [s5.2]
  have cr_0_163 := fdq_49 hD hth r0
  have ad_15 : v_ad (n_v vs 15) = w_ar ws (n_v vs 0) 163 := (congrArg v_ad f10).trans ar_0_163_2
  have ad_14 : v_ad (n_v vs 14) = w_ar ws (n_v vs 0) 162 := (congrArg v_ad f14).trans ar_0_162_3
  have ad_13 : v_ad (n_v vs 13) = w_ar ws (n_v vs 0) 161 := (congrArg v_ad f18).trans ar_0_161_4
  have ad_11 : v_ad (n_v vs 11) = w_ar ws (n_v vs 0) 160 := (congrArg v_ad f22).trans ar_0_160_5
  have g5 : v_iv (n_v vs 12) = w_fi w1 (n_v vs 0) 157 := congrArg v_iv f5
  have g9 : v_iv (n_v vs 9) = w_fi w2 (n_v vs 0) 11 := congrArg v_iv f9
  have fe_0_11_1 : w_fi ws (n_v vs 0) 11 = w_fi w1 (n_v vs 0) 11 := by show v_iv (w_fd _ _ _) = v_iv (w_fd _ _ _); rw [s1.2, if_neg (fun e => absurd e.2 (by decide))]
  have fe_0_157_1 : w_fi ws (n_v vs 0) 157 = v_iv (n_v vs 17) := by show v_iv (w_fd _ _ _) = _; rw [s1.2, if_pos ⟨rfl, rfl⟩]
  have fe_0_11_2 : w_fi w1 (n_v vs 0) 11 = w_fi w2 (n_v vs 0) 11 := congrArg v_iv (s2.2 _ _)
  have fe_0_157_2 : w_fi w1 (n_v vs 0) 157 = w_fi w2 (n_v vs 0) 157 := congrArg v_iv (s2.2 _ _)
  have fe_0_11_3 : w_fi w2 (n_v vs 0) 11 = w_fi w3 (n_v vs 0) 11 := congrArg v_iv (s3.2 _ _)
  have fe_0_157_3 : w_fi w2 (n_v vs 0) 157 = w_fi w3 (n_v vs 0) 157 := congrArg v_iv (s3.2 _ _)
  have fe_0_11_4 : w_fi w3 (n_v vs 0) 11 = w_fi w4 (n_v vs 0) 11 := congrArg v_iv (s4.2 _ _)
  have fe_0_157_4 : w_fi w3 (n_v vs 0) 157 = w_fi w4 (n_v vs 0) 157 := congrArg v_iv (s4.2 _ _)
  have fe_0_11_5 : w_fi w4 (n_v vs 0) 11 = w_fi w5 (n_v vs 0) 11 := congrArg v_iv (s5.2 _ _)
  have fe_0_157_5 : w_fi w4 (n_v vs 0) 157 = w_fi w5 (n_v vs 0) 157 := congrArg v_iv (s5.2 _ _)
  have hE_0_160_1 : ∀ j : Int, w_ei ws (w_ar ws (n_v vs 0) 160) j = w_ei w1 (w_ar ws (n_v vs 0) 160) j := fun j => s1.1 _ _
  have hE_0_160_2 : ∀ j : Int, w_ei w1 (w_ar ws (n_v vs 0) 160) j = w_ei w2 (w_ar ws (n_v vs 0) 160) j := el_kp s2.1 r15 cr_0_160 (by decide)
  have hE_0_160_3 : ∀ j : Int, w_ei w2 (w_ar ws (n_v vs 0) 160) j = w_ei w3 (w_ar ws (n_v vs 0) 160) j := el_kp s3.1 r14 cr_0_160 (by decide)
  have hE_0_160_4 : ∀ j : Int, w_ei w3 (w_ar ws (n_v vs 0) 160) j = w_ei w4 (w_ar ws (n_v vs 0) 160) j := el_kp s4.1 r13 cr_0_160 (by decide)
  have hE_0_160_5 : ∀ j : Int, 0 ≤ j → (j = v_iv (n_v vs 12) → w_ei w4 (w_ar ws (n_v vs 0) 160) j = v_iv (n_v vs 7)) ∧ (j ≠ v_iv (n_v vs 12) → w_ei w4 (w_ar ws (n_v vs 0) 160) j = w_ei w5 (w_ar ws (n_v vs 0) 160) j) := fun j hj => ⟨fun h => by unfold w_ei; rw [s5.1, if_pos ⟨ad_11.symm, by rw [h]⟩], fun h => by unfold w_ei; rw [s5.1, if_neg (fun e => h (by have := e.2; omega))]⟩
  have hK_0_160 := elq_5 hD hth cr_0_160
  have kz_0_11 := fdq_273 hD hth r0
  have kz_0_157 := fdq_42 hD hth r0
  have kb_0_11 := fdq_273 hD hth r0
  obtain ⟨x, ex, hx⟩ := iv_ex (ta := ta) (lo := 0) (hi := 4001) (z := 4000 + ((-2) * w_fi ws (n_v vs 0) 11 + (1 * v_iv (n_v vs 18) + 0))) (by omega) (by omega) (by omega) (by omega)
  have ex2 : v_iv (Value.int x) = 4000 + ((-2) * w_fi ws (n_v vs 0) 11 + (1 * v_iv (n_v vs 18) + 0)) := ex
  have ex3 : 0 ≤ v_iv (Value.int x) ∧ v_iv (Value.int x) ≤ 4001 := tv_rng hx
  have e_0 : n_v (vs ++ [Value.int x]) 0 = n_v vs 0 := n_v_old (by rw [hl]; decide)
  have e_2 : n_v (vs ++ [Value.int x]) 2 = n_v vs 2 := n_v_old (by rw [hl]; decide)
  have e_18 : n_v (vs ++ [Value.int x]) 18 = n_v vs 18 := n_v_old (by rw [hl]; decide)
  have e_19 : n_v (vs ++ [Value.int x]) 19 = Value.int x := n_v_new hl
  have nf0 : fc_1 PRD (20, [2, 18], [50, 2, 1, 157, 11, 160, 2, 16, 0, 7, 4, 3, 2, 0, 157, 1, 1, 4, 3, 2, 0, 11, 0, 1, 3, 6, 1, 2, 1, 1, 0, 1, 2, 7, 0, 2, 0, 1, 2, 0, 157, 3, 14, 1, 10, 3, 0, 160, 5, 3, 2, 0, 157, 0, 1, 0, 0, 1, 10, 3, 0, 160, 5, 3, 2, 0, 157, 0, 1, 0, 4]) ws (vs ++ [Value.int x]) := by
    refine ⟨nf_inA hl rfl, sgq_1285 ?_⟩
    · show ((w_fi ws (n_v (vs ++ [Value.int x]) 2) 157 + v_iv (n_v (vs ++ [Value.int x]) 18)) ≤ (w_fi ws (n_v (vs ++ [Value.int x]) 2) 11 + 1)) ∧ ((v_iv (n_v (vs ++ [Value.int x]) 18) = 1) ∨ ((1 ≤ w_fi ws (n_v (vs ++ [Value.int x]) 2) 157) ∧ ((w_ei ws (w_ar ws (n_v (vs ++ [Value.int x]) 2) 160) ((w_fi ws (n_v (vs ++ [Value.int x]) 2) 157 - 1)) = 0) ∨ (w_ei ws (w_ar ws (n_v (vs ++ [Value.int x]) 2) 160) ((w_fi ws (n_v (vs ++ [Value.int x]) 2) 157 - 1)) = 4))))
      simp only [e_2, e_18, q2]
      exact vc_Mo_styleTokens_51_0 (v_iv (n_v vs 6)) (v_iv (n_v vs 7)) (v_iv (n_v vs 9)) (v_iv (n_v vs 12)) (v_iv (n_v vs 17)) (v_iv (n_v vs 18)) (w_fi w1 (n_v vs 0) 157) (w_fi w1 (n_v vs 0) 11) (w_fi w2 (n_v vs 0) 11) (w_fi w2 (n_v vs 0) 157) (w_fi w3 (n_v vs 0) 157) (w_fi w3 (n_v vs 0) 11) (w_fi w4 (n_v vs 0) 157) (w_fi w4 (n_v vs 0) 11) (w_fi w5 (n_v vs 0) 157) (w_fi w5 (n_v vs 0) 11) (w_fi ws (n_v vs 0) 11) (w_fi ws (n_v vs 0) 157) (w_ei ws (w_ar ws (n_v vs 0) 160)) (w_ei w1 (w_ar ws (n_v vs 0) 160)) (w_ei w2 (w_ar ws (n_v vs 0) 160)) (w_ei w3 (w_ar ws (n_v vs 0) 160)) (w_ei w4 (w_ar ws (n_v vs 0) 160)) (w_ei w5 (w_ar ws (n_v vs 0) 160)) k6 k7 k9 k12 k17 k18 d0 g5 f6 g9 fe_0_11_1 fe_0_157_1 fe_0_11_2 fe_0_157_2 fe_0_11_3 fe_0_157_3 fe_0_11_4 fe_0_157_4 fe_0_11_5 fe_0_157_5 hE_0_160_1 hE_0_160_2 hE_0_160_3 hE_0_160_4 hE_0_160_5 kz_0_11 kz_0_157
  have nf1 : fc_1 PRD (24, [0, 2], []) ws (vs ++ [Value.int x]) := by
    refine ⟨nf_inA hl rfl, sgq_5 ?_⟩
    · show n_v (vs ++ [Value.int x]) 0 = n_v (vs ++ [Value.int x]) 2
      first | rfl | simp only [e_0, e_2, q2]
  have nf2 : fc_1 PRD (20, [19, 2, 18], [30, 4000, 1, 0, 0, 2, 1, 11, -1, 0, 0]) ws (vs ++ [Value.int x]) := by
    refine ⟨nf_inA hl rfl, sgq_1286 ?_⟩
    · show 1 * v_iv (n_v (vs ++ [Value.int x]) 19) + (2 * w_fi ws (n_v (vs ++ [Value.int x]) 2) 11 + ((-1) * v_iv (n_v (vs ++ [Value.int x]) 18) + 0)) ≤ 4000
      simp only [e_2, e_18, e_19, q2]
      exact vc_Mo_styleTokens_51_2 (v_iv (n_v vs 18)) (w_fi w1 (n_v vs 0) 157) (w_fi w1 (n_v vs 0) 11) (w_fi w2 (n_v vs 0) 11) (w_fi w2 (n_v vs 0) 157) (w_fi w3 (n_v vs 0) 157) (w_fi w3 (n_v vs 0) 11) (w_fi w4 (n_v vs 0) 157) (w_fi w4 (n_v vs 0) 11) (w_fi w5 (n_v vs 0) 157) (w_fi w5 (n_v vs 0) 11) (w_fi ws (n_v vs 0) 11) (w_ei ws (w_ar ws (n_v vs 0) 160)) (w_ei w1 (w_ar ws (n_v vs 0) 160)) (w_ei w2 (w_ar ws (n_v vs 0) 160)) (w_ei w3 (w_ar ws (n_v vs 0) 160)) (w_ei w4 (w_ar ws (n_v vs 0) 160)) (v_iv (Value.int x)) k18 fe_0_11_1 fe_0_11_2 fe_0_157_2 fe_0_11_3 fe_0_157_3 fe_0_11_4 fe_0_157_4 fe_0_11_5 fe_0_157_5 hE_0_160_1 hE_0_160_2 hE_0_160_3 hE_0_160_4 kz_0_11 ex2
  have nf3 : fc_1 PRD (20, [19, 2, 18], [30, -4000, -1, 0, 0, -2, 1, 11, 1, 0, 0]) ws (vs ++ [Value.int x]) := by
    refine ⟨nf_inA hl rfl, sgq_1287 ?_⟩
    · show (-1) * v_iv (n_v (vs ++ [Value.int x]) 19) + ((-2) * w_fi ws (n_v (vs ++ [Value.int x]) 2) 11 + (1 * v_iv (n_v (vs ++ [Value.int x]) 18) + 0)) ≤ (-4000)
      simp only [e_2, e_18, e_19, q2]
      exact vc_Mo_styleTokens_51_3 (v_iv (n_v vs 18)) (w_fi w1 (n_v vs 0) 157) (w_fi w1 (n_v vs 0) 11) (w_fi w2 (n_v vs 0) 11) (w_fi w2 (n_v vs 0) 157) (w_fi w3 (n_v vs 0) 157) (w_fi w3 (n_v vs 0) 11) (w_fi w4 (n_v vs 0) 157) (w_fi w4 (n_v vs 0) 11) (w_fi w5 (n_v vs 0) 157) (w_fi w5 (n_v vs 0) 11) (w_fi ws (n_v vs 0) 11) (w_ei ws (w_ar ws (n_v vs 0) 160)) (w_ei w1 (w_ar ws (n_v vs 0) 160)) (w_ei w2 (w_ar ws (n_v vs 0) 160)) (w_ei w3 (w_ar ws (n_v vs 0) 160)) (w_ei w4 (w_ar ws (n_v vs 0) 160)) (v_iv (Value.int x)) k18 fe_0_11_1 fe_0_11_2 fe_0_157_2 fe_0_11_3 fe_0_157_3 fe_0_11_4 fe_0_157_4 fe_0_11_5 fe_0_157_5 hE_0_160_1 hE_0_160_2 hE_0_160_3 hE_0_160_4 kz_0_11 ex2
  obtain ⟨x0, e0, _, _⟩ := tv_int t10 rfl
  have e1 : v_iv (n_v vs 10) = x0.toInt := by rw [e0]; rfl
  have ho : sy_ofs (vs ++ [Value.int x]) (19, 10, -1000000000000, -1) := by
    refine ⟨x, x0, by rw [List.getElem?_append_right (by rw [hl]; decide), hl]; rfl, ?_, ?_, ?_⟩
    · rw [List.getElem?_append_left (by rw [hl]; decide)]; exact n_v_some (by rw [hl]; decide) e0
    · show x0.toInt + (-1000000000000) ≤ x.toInt; omega
    · show x.toInt ≤ x0.toInt + (-1); omega
  exact ⟨(fun _ h => (by cases h)), [Value.int x], ag_one hx, List.forall_mem_cons.mpr ⟨⟨show (20 : Nat) < 100 from by decide, nf0⟩, List.forall_mem_cons.mpr ⟨⟨show (24 : Nat) < 100 from by decide, nf1⟩, List.forall_mem_cons.mpr ⟨⟨show (20 : Nat) < 100 from by decide, nf2⟩, List.forall_mem_cons.mpr ⟨⟨show (20 : Nat) < 100 from by decide, nf3⟩, (fun _ h => (by cases h))⟩⟩⟩⟩, List.forall_mem_cons.mpr ⟨ho, (fun _ h => (by cases h))⟩⟩
set_option maxHeartbeats 4000000 in
theorem vc_Mo_styleTokens_52_0 (x6 : Int) (x7 : Int) (x9 : Int) (x12 : Int) (x17 : Int) (x18 : Int) (x19 : Int) (tokens_1 : Int) (pos_1 : Int) (pos_2 : Int) (tokens_2 : Int) (tokens_3 : Int) (pos_3 : Int) (tokens_4 : Int) (pos_4 : Int) (tokens_5 : Int) (pos_5 : Int) (pos_0 : Int) (tokens_0 : Int) (tokenKind_0 : Int → Int) (tokenKind_1 : Int → Int) (tokenKind_2 : Int → Int) (tokenKind_3 : Int → Int) (tokenKind_4 : Int → Int) (tokenKind_5 : Int → Int) (k6 : 0 ≤ x6 ∧ x6 ≤ 2000) (k7 : 4 ≤ x7 ∧ x7 ≤ 4) (k9 : 0 ≤ x9 ∧ x9 ≤ 2000) (k12 : 0 ≤ x12 ∧ x12 ≤ 2000) (k17 : 1 ≤ x17 ∧ x17 ≤ 2001) (k18 : 4 ≤ x18 ∧ x18 ≤ 4) (k19 : 0 ≤ x19 ∧ x19 ≤ 0) (d0 : x12 + 1 ≤ x17 ∧ x17 ≤ x12 + 1) (g6 : x12 = tokens_1) (f7 : (tokens_1 ≤ x6) ∧ ((x6 ≤ pos_1) ∧ ((x7 = 0) ∨ ((x7 = 4) ∨ ((x6 + 1) ≤ pos_1))))) (g10 : x9 = pos_2) (fe_0_11_1 : pos_0 = pos_1) (fe_0_157_1 : tokens_0 = x17) (fe_0_11_2 : pos_1 = pos_2) (fe_0_157_2 : tokens_1 = tokens_2) (fe_0_11_3 : pos_2 = pos_3) (fe_0_157_3 : tokens_2 = tokens_3) (fe_0_11_4 : pos_3 = pos_4) (fe_0_157_4 : tokens_3 = tokens_4) (fe_0_11_5 : pos_4 = pos_5) (fe_0_157_5 : tokens_4 = tokens_5) (hE_0_160_1 : ∀ j : Int, tokenKind_0 j = tokenKind_1 j) (hE_0_160_2 : ∀ j : Int, tokenKind_1 j = tokenKind_2 j) (hE_0_160_3 : ∀ j : Int, tokenKind_2 j = tokenKind_3 j) (hE_0_160_4 : ∀ j : Int, tokenKind_3 j = tokenKind_4 j) (hE_0_160_5 : ∀ j : Int, 0 ≤ j → (j = x12 → tokenKind_4 j = x7) ∧ (j ≠ x12 → tokenKind_4 j = tokenKind_5 j)) (kz_0_11 : 0 ≤ pos_0 ∧ pos_0 ≤ 2000) (kz_0_157 : 0 ≤ tokens_0 ∧ tokens_0 ≤ 2010) : ((tokens_0 + x19) ≤ (pos_0 + 1)) ∧ ((x19 = 1) ∨ ((1 ≤ tokens_0) ∧ ((tokenKind_0 ((tokens_0 - 1)) = 0) ∨ (tokenKind_0 ((tokens_0 - 1)) = 4)))) := by
  subst fe_0_11_1
  subst fe_0_11_2
  subst fe_0_157_2
  subst fe_0_11_3
  subst fe_0_157_3
  subst fe_0_11_4
  subst fe_0_157_4
  subst fe_0_11_5
  subst fe_0_157_5
  have e_hE_0_160_1 := funext hE_0_160_1; subst e_hE_0_160_1
  have e_hE_0_160_2 := funext hE_0_160_2; subst e_hE_0_160_2
  have e_hE_0_160_3 := funext hE_0_160_3; subst e_hE_0_160_3
  have e_hE_0_160_4 := funext hE_0_160_4; subst e_hE_0_160_4
  first | assumption | omega | grind
set_option maxHeartbeats 4000000 in
theorem vc_Mo_styleTokens_52_2 (x19 : Int) (tokens_1 : Int) (pos_1 : Int) (pos_2 : Int) (tokens_2 : Int) (tokens_3 : Int) (pos_3 : Int) (tokens_4 : Int) (pos_4 : Int) (tokens_5 : Int) (pos_5 : Int) (pos_0 : Int) (tokenKind_0 : Int → Int) (tokenKind_1 : Int → Int) (tokenKind_2 : Int → Int) (tokenKind_3 : Int → Int) (tokenKind_4 : Int → Int) (gx : Int) (k19 : 0 ≤ x19 ∧ x19 ≤ 0) (fe_0_11_1 : pos_0 = pos_1) (fe_0_11_2 : pos_1 = pos_2) (fe_0_157_2 : tokens_1 = tokens_2) (fe_0_11_3 : pos_2 = pos_3) (fe_0_157_3 : tokens_2 = tokens_3) (fe_0_11_4 : pos_3 = pos_4) (fe_0_157_4 : tokens_3 = tokens_4) (fe_0_11_5 : pos_4 = pos_5) (fe_0_157_5 : tokens_4 = tokens_5) (hE_0_160_1 : ∀ j : Int, tokenKind_0 j = tokenKind_1 j) (hE_0_160_2 : ∀ j : Int, tokenKind_1 j = tokenKind_2 j) (hE_0_160_3 : ∀ j : Int, tokenKind_2 j = tokenKind_3 j) (hE_0_160_4 : ∀ j : Int, tokenKind_3 j = tokenKind_4 j) (kz_0_11 : 0 ≤ pos_0 ∧ pos_0 ≤ 2000) (ex2 : gx = 4000 + ((-2) * pos_0 + (1 * x19 + 0))) : 1 * gx + (2 * pos_0 + ((-1) * x19 + 0)) ≤ 4000 := by
  subst fe_0_11_1
  subst fe_0_11_2
  subst fe_0_157_2
  subst fe_0_11_3
  subst fe_0_157_3
  subst fe_0_11_4
  subst fe_0_157_4
  subst fe_0_11_5
  subst fe_0_157_5
  have e_hE_0_160_1 := funext hE_0_160_1; subst e_hE_0_160_1
  have e_hE_0_160_2 := funext hE_0_160_2; subst e_hE_0_160_2
  have e_hE_0_160_3 := funext hE_0_160_3; subst e_hE_0_160_3
  have e_hE_0_160_4 := funext hE_0_160_4; subst e_hE_0_160_4
  first | assumption | omega | grind
set_option maxHeartbeats 4000000 in
theorem vc_Mo_styleTokens_52_3 (x19 : Int) (tokens_1 : Int) (pos_1 : Int) (pos_2 : Int) (tokens_2 : Int) (tokens_3 : Int) (pos_3 : Int) (tokens_4 : Int) (pos_4 : Int) (tokens_5 : Int) (pos_5 : Int) (pos_0 : Int) (tokenKind_0 : Int → Int) (tokenKind_1 : Int → Int) (tokenKind_2 : Int → Int) (tokenKind_3 : Int → Int) (tokenKind_4 : Int → Int) (gx : Int) (k19 : 0 ≤ x19 ∧ x19 ≤ 0) (fe_0_11_1 : pos_0 = pos_1) (fe_0_11_2 : pos_1 = pos_2) (fe_0_157_2 : tokens_1 = tokens_2) (fe_0_11_3 : pos_2 = pos_3) (fe_0_157_3 : tokens_2 = tokens_3) (fe_0_11_4 : pos_3 = pos_4) (fe_0_157_4 : tokens_3 = tokens_4) (fe_0_11_5 : pos_4 = pos_5) (fe_0_157_5 : tokens_4 = tokens_5) (hE_0_160_1 : ∀ j : Int, tokenKind_0 j = tokenKind_1 j) (hE_0_160_2 : ∀ j : Int, tokenKind_1 j = tokenKind_2 j) (hE_0_160_3 : ∀ j : Int, tokenKind_2 j = tokenKind_3 j) (hE_0_160_4 : ∀ j : Int, tokenKind_3 j = tokenKind_4 j) (kz_0_11 : 0 ≤ pos_0 ∧ pos_0 ≤ 2000) (ex2 : gx = 4000 + ((-2) * pos_0 + (1 * x19 + 0))) : (-1) * gx + ((-2) * pos_0 + (1 * x19 + 0)) ≤ (-4000) := by
  subst fe_0_11_1
  subst fe_0_11_2
  subst fe_0_157_2
  subst fe_0_11_3
  subst fe_0_157_3
  subst fe_0_11_4
  subst fe_0_157_4
  subst fe_0_11_5
  subst fe_0_157_5
  have e_hE_0_160_1 := funext hE_0_160_1; subst e_hE_0_160_1
  have e_hE_0_160_2 := funext hE_0_160_2; subst e_hE_0_160_2
  have e_hE_0_160_3 := funext hE_0_160_3; subst e_hE_0_160_3
  have e_hE_0_160_4 := funext hE_0_160_4; subst e_hE_0_160_4
  first | assumption | omega | grind
def o_Mo_styleTokens_52 : or_T := (17, 20, [(0, (2, 0, 0, [165])), (2, (2, 0, 0, [165])), (6, (0, 0, 2000, [])), (7, (0, 4, 4, [])), (9, (0, 0, 2000, [])), (10, (0, 0, 4001, [])), (11, (2, 0, 0, [274])), (12, (0, 0, 2000, [])), (13, (2, 0, 0, [275])), (14, (2, 0, 0, [276])), (15, (2, 0, 0, [277])), (16, (0, 1, 1, [])), (17, (0, 1, 2001, [])), (18, (0, 4, 4, [])), (19, (0, 0, 0, []))], [(7, [7, 18], [0]), (8, [7], [1]), (20, [10, 6], [30, -4001, -1, 0, 0, -2, 0, 0]), (24, [0, 2], []), (101, [2, 17], [157]), (1, [17, 12, 16], []), (9, [12, 2], [157]), (20, [2, 6, 7], [50, 2, 0, 157, 11, 2, 7, 0, 3, 2, 0, 157, 1, 1, 2, 7, 0, 2, 1, 1, 2, 0, 11, 3, 6, 1, 2, 1, 2, 0, 0, 3, 6, 1, 2, 1, 2, 0, 4, 0, 6, 4, 2, 1, 1, 0, 1, 2, 0, 11]), (20, [10, 6], [30, -4001, -1, 0, 0, -2, 0, 0]), (100, [15, 12, 9], []), (9, [9, 2], [11]), (9, [15, 2], [163]), (20, [2, 6, 7], [50, 2, 0, 157, 11, 2, 7, 0, 3, 2, 0, 157, 1, 1, 2, 7, 0, 2, 1, 1, 2, 0, 11, 3, 6, 1, 2, 1, 2, 0, 0, 3, 6, 1, 2, 1, 2, 0, 4, 0, 6, 4, 2, 1, 1, 0, 1, 2, 0, 11]), (20, [10, 6], [30, -4001, -1, 0, 0, -2, 0, 0]), (100, [14, 12, 6], []), (9, [14, 2], [162]), (20, [2, 6, 7], [50, 2, 0, 157, 11, 2, 7, 0, 3, 2, 0, 157, 1, 1, 2, 7, 0, 2, 1, 1, 2, 0, 11, 3, 6, 1, 2, 1, 2, 0, 0, 3, 6, 1, 2, 1, 2, 0, 4, 0, 6, 4, 2, 1, 1, 0, 1, 2, 0, 11]), (20, [10, 6], [30, -4001, -1, 0, 0, -2, 0, 0]), (100, [13, 12, 8], []), (9, [13, 2], [161]), (20, [2, 6, 7], [50, 2, 0, 157, 11, 2, 7, 0, 3, 2, 0, 157, 1, 1, 2, 7, 0, 2, 1, 1, 2, 0, 11, 3, 6, 1, 2, 1, 2, 0, 0, 3, 6, 1, 2, 1, 2, 0, 4, 0, 6, 4, 2, 1, 1, 0, 1, 2, 0, 11]), (20, [10, 6], [30, -4001, -1, 0, 0, -2, 0, 0]), (100, [11, 12, 7], []), (9, [11, 2], [160]), (20, [2, 6, 7], [50, 2, 0, 157, 11, 2, 7, 0, 3, 2, 0, 157, 1, 1, 2, 7, 0, 2, 1, 1, 2, 0, 11, 3, 6, 1, 2, 1, 2, 0, 0, 3, 6, 1, 2, 1, 2, 0, 4, 0, 6, 4, 2, 1, 1, 0, 1, 2, 0, 11]), (20, [10, 6], [30, -4001, -1, 0, 0, -2, 0, 0])], [], [(0, 0, 4001, [])], [(20, [2, 19], [50, 2, 1, 157, 11, 160, 2, 16, 0, 7, 4, 3, 2, 0, 157, 1, 1, 4, 3, 2, 0, 11, 0, 1, 3, 6, 1, 2, 1, 1, 0, 1, 2, 7, 0, 2, 0, 1, 2, 0, 157, 3, 14, 1, 10, 3, 0, 160, 5, 3, 2, 0, 157, 0, 1, 0, 0, 1, 10, 3, 0, 160, 5, 3, 2, 0, 157, 0, 1, 0, 4]), (24, [0, 2], []), (20, [20, 2, 19], [30, 4000, 1, 0, 0, 2, 1, 11, -1, 0, 0]), (20, [20, 2, 19], [30, -4000, -1, 0, 0, -2, 1, 11, 1, 0, 0])], [(20, 10, -1000000000000, -1)], [(17, 12, 1, 1)])
theorem oo_Mo_styleTokens_52 {kA : Nat → ClassId} : or_ok PRD kA GG o_Mo_styleTokens_52 := by
  refine or_mk fun A ta ws vs hD hth hl => ?_
  intro t0 r0 t2 r2 t6 k6 t7 k7 t9 k9 t10 k10 t11 r11 t12 k12 t13 r13 t14 r14 t15 r15 t16 k16 t17 k17 t18 k18 t19 k19 d0 f0 f1 f2 f3 ta1 w1 le1 s1 f5 f6 f7 f8 ta2 w2 le2 s2 f10 f11 f12 f13 ta3 w3 le3 s3 f15 f16 f17 ta4 w4 le4 s4 f19 f20 f21 ta5 w5 le5 s5 f23 f24 f25
  replace f0 := shm_37 f0
  replace f1 := shm_154 f1
  replace f2 := shm_1293 f2
  replace f3 := shm_5 f3
  have s1 : (∀ b j, w_el ws b j = w_el w1 b j) ∧ ∀ b j, w_fd ws b j = if b = v_ad (n_v vs 2) ∧ j = 157 then n_v vs 17 else w_fd w1 b j := s1.2
  replace f5 := shm_12 f5
  replace f6 := shm_1297 f6
  replace f7 := shm_1292 f7
  replace f8 := shm_1293 f8
  have s2 : (∀ b j, w_el w1 b j = if b = v_ad (n_v vs 15) ∧ j = (v_iv (n_v vs 12)).toNat then v_iv (n_v vs 9) else w_el w2 b j) ∧ ∀ b k, w_fd w1 b k = w_fd w2 b k := s2.2
  replace f10 := shm_117 f10
  replace f11 := shm_1298 f11
  replace f12 := shm_1292 f12
  replace f13 := shm_1293 f13
  have s3 : (∀ b j, w_el w2 b j = if b = v_ad (n_v vs 14) ∧ j = (v_iv (n_v vs 12)).toNat then v_iv (n_v vs 6) else w_el w3 b j) ∧ ∀ b k, w_fd w2 b k = w_fd w3 b k := s3.2
  replace f15 := shm_324 f15
  replace f16 := shm_1292 f16
  replace f17 := shm_1293 f17
  have s4 : (∀ b j, w_el w3 b j = if b = v_ad (n_v vs 13) ∧ j = (v_iv (n_v vs 12)).toNat then v_iv (n_v vs 8) else w_el w4 b j) ∧ ∀ b k, w_fd w3 b k = w_fd w4 b k := s4.2
  replace f19 := shm_354 f19
  replace f20 := shm_1292 f20
  replace f21 := shm_1293 f21
  have s5 : (∀ b j, w_el w4 b j = if b = v_ad (n_v vs 11) ∧ j = (v_iv (n_v vs 12)).toNat then v_iv (n_v vs 7) else w_el w5 b j) ∧ ∀ b k, w_fd w4 b k = w_fd w5 b k := s5.2
  replace f23 := shm_345 f23
  replace f24 := shm_1292 f24
  replace f25 := shm_1293 f25
  have q2 : n_v vs 2 = n_v vs 0 := f3.symm
  rw [q2] at s1
  simp only [q2] at f6 f7 f10 f11 f12 f15 f16 f19 f20 f23 f24
  have ar_0_160_1 : w_ar w1 (n_v vs 0) 160 = w_ar ws (n_v vs 0) 160 := by show v_ad (w_fd w1 _ _) = v_ad (w_fd ws _ _); rw [s1.2, if_neg (fun e => absurd e.2 (by decide))]
  have ar_0_160_2 : w_ar w2 (n_v vs 0) 160 = w_ar ws (n_v vs 0) 160 := by rw [← ar_0_160_1]; show v_ad (w_fd w2 _ _) = v_ad (w_fd w1 _ _); rw [s2.2]
  have ar_0_160_3 : w_ar w3 (n_v vs 0) 160 = w_ar ws (n_v vs 0) 160 := by rw [← ar_0_160_2]; show v_ad (w_fd w3 _ _) = v_ad (w_fd w2 _ _); rw [s3.2]
  have ar_0_160_4 : w_ar w4 (n_v vs 0) 160 = w_ar ws (n_v vs 0) 160 := by rw [← ar_0_160_3]; show v_ad (w_fd w4 _ _) = v_ad (w_fd w3 _ _); rw [s4.2]
  have ar_0_160_5 : w_ar w5 (n_v vs 0) 160 = w_ar ws (n_v vs 0) 160 := by rw [← ar_0_160_4]; show v_ad (w_fd w5 _ _) = v_ad (w_fd w4 _ _); rw [s5.2]
  have cr_0_160 := fdq_41 hD hth r0
  have ar_0_161_1 : w_ar w1 (n_v vs 0) 161 = w_ar ws (n_v vs 0) 161 := by show v_ad (w_fd w1 _ _) = v_ad (w_fd ws _ _); rw [s1.2, if_neg (fun e => absurd e.2 (by decide))]
  have ar_0_161_2 : w_ar w2 (n_v vs 0) 161 = w_ar ws (n_v vs 0) 161 := by rw [← ar_0_161_1]; show v_ad (w_fd w2 _ _) = v_ad (w_fd w1 _ _); rw [s2.2]
  have ar_0_161_3 : w_ar w3 (n_v vs 0) 161 = w_ar ws (n_v vs 0) 161 := by rw [← ar_0_161_2]; show v_ad (w_fd w3 _ _) = v_ad (w_fd w2 _ _); rw [s3.2]
  have ar_0_161_4 : w_ar w4 (n_v vs 0) 161 = w_ar ws (n_v vs 0) 161 := by rw [← ar_0_161_3]; show v_ad (w_fd w4 _ _) = v_ad (w_fd w3 _ _); rw [s4.2]
  have ar_0_161_5 : w_ar w5 (n_v vs 0) 161 = w_ar ws (n_v vs 0) 161 := by rw [← ar_0_161_4]; show v_ad (w_fd w5 _ _) = v_ad (w_fd w4 _ _); rw [s5.2]
  have cr_0_161 := fdq_47 hD hth r0
  have ar_0_162_1 : w_ar w1 (n_v vs 0) 162 = w_ar ws (n_v vs 0) 162 := by show v_ad (w_fd w1 _ _) = v_ad (w_fd ws _ _); rw [s1.2, if_neg (fun e => absurd e.2 (by decide))]
  have ar_0_162_2 : w_ar w2 (n_v vs 0) 162 = w_ar ws (n_v vs 0) 162 := by rw [← ar_0_162_1]; show v_ad (w_fd w2 _ _) = v_ad (w_fd w1 _ _); rw [s2.2]
  have ar_0_162_3 : w_ar w3 (n_v vs 0) 162 = w_ar ws (n_v vs 0) 162 := by rw [← ar_0_162_2]; show v_ad (w_fd w3 _ _) = v_ad (w_fd w2 _ _); rw [s3.2]
  have ar_0_162_4 : w_ar w4 (n_v vs 0) 162 = w_ar ws (n_v vs 0) 162 := by rw [← ar_0_162_3]; show v_ad (w_fd w4 _ _) = v_ad (w_fd w3 _ _); rw [s4.2]
  have ar_0_162_5 : w_ar w5 (n_v vs 0) 162 = w_ar ws (n_v vs 0) 162 := by rw [← ar_0_162_4]; show v_ad (w_fd w5 _ _) = v_ad (w_fd w4 _ _); rw [s5.2]
  have cr_0_162 := fdq_48 hD hth r0
  have ar_0_163_1 : w_ar w1 (n_v vs 0) 163 = w_ar ws (n_v vs 0) 163 := by show v_ad (w_fd w1 _ _) = v_ad (w_fd ws _ _); rw [s1.2, if_neg (fun e => absurd e.2 (by decide))]
  have ar_0_163_2 : w_ar w2 (n_v vs 0) 163 = w_ar ws (n_v vs 0) 163 := by rw [← ar_0_163_1]; show v_ad (w_fd w2 _ _) = v_ad (w_fd w1 _ _); rw [s2.2]
  have ar_0_163_3 : w_ar w3 (n_v vs 0) 163 = w_ar ws (n_v vs 0) 163 := by rw [← ar_0_163_2]; show v_ad (w_fd w3 _ _) = v_ad (w_fd w2 _ _); rw [s3.2]
  have ar_0_163_4 : w_ar w4 (n_v vs 0) 163 = w_ar ws (n_v vs 0) 163 := by rw [← ar_0_163_3]; show v_ad (w_fd w4 _ _) = v_ad (w_fd w3 _ _); rw [s4.2]
  have ar_0_163_5 : w_ar w5 (n_v vs 0) 163 = w_ar ws (n_v vs 0) 163 := by rw [← ar_0_163_4]; show v_ad (w_fd w5 _ _) = v_ad (w_fd w4 _ _); rw [s5.2]
  have cr_0_163 := fdq_49 hD hth r0
  have ad_15 : v_ad (n_v vs 15) = w_ar ws (n_v vs 0) 163 := (congrArg v_ad f11).trans ar_0_163_2
  have ad_14 : v_ad (n_v vs 14) = w_ar ws (n_v vs 0) 162 := (congrArg v_ad f15).trans ar_0_162_3
  have ad_13 : v_ad (n_v vs 13) = w_ar ws (n_v vs 0) 161 := (congrArg v_ad f19).trans ar_0_161_4
  have ad_11 : v_ad (n_v vs 11) = w_ar ws (n_v vs 0) 160 := (congrArg v_ad f23).trans ar_0_160_5
  have g6 : v_iv (n_v vs 12) = w_fi w1 (n_v vs 0) 157 := congrArg v_iv f6
  have g10 : v_iv (n_v vs 9) = w_fi w2 (n_v vs 0) 11 := congrArg v_iv f10
  have fe_0_11_1 : w_fi ws (n_v vs 0) 11 = w_fi w1 (n_v vs 0) 11 := by show v_iv (w_fd _ _ _) = v_iv (w_fd _ _ _); rw [s1.2, if_neg (fun e => absurd e.2 (by decide))]
  have fe_0_157_1 : w_fi ws (n_v vs 0) 157 = v_iv (n_v vs 17) := by show v_iv (w_fd _ _ _) = _; rw [s1.2, if_pos ⟨rfl, rfl⟩]
  have fe_0_11_2 : w_fi w1 (n_v vs 0) 11 = w_fi w2 (n_v vs 0) 11 := congrArg v_iv (s2.2 _ _)
  have fe_0_157_2 : w_fi w1 (n_v vs 0) 157 = w_fi w2 (n_v vs 0) 157 := congrArg v_iv (s2.2 _ _)
  have fe_0_11_3 : w_fi w2 (n_v vs 0) 11 = w_fi w3 (n_v vs 0) 11 := congrArg v_iv (s3.2 _ _)
  have fe_0_157_3 : w_fi w2 (n_v vs 0) 157 = w_fi w3 (n_v vs 0) 157 := congrArg v_iv (s3.2 _ _)
  have fe_0_11_4 : w_fi w3 (n_v vs 0) 11 = w_fi w4 (n_v vs 0) 11 := congrArg v_iv (s4.2 _ _)
  have fe_0_157_4 : w_fi w3 (n_v vs 0) 157 = w_fi w4 (n_v vs 0) 157 := congrArg v_iv (s4.2 _ _)
  have fe_0_11_5 : w_fi w4 (n_v vs 0) 11 = w_fi w5 (n_v vs 0) 11 := congrArg v_iv (s5.2 _ _)
  have fe_0_157_5 : w_fi w4 (n_v vs 0) 157 = w_fi w5 (n_v vs 0) 157 := congrArg v_iv (s5.2 _ _)
  have hE_0_160_1 : ∀ j : Int, w_ei ws (w_ar ws (n_v vs 0) 160) j = w_ei w1 (w_ar ws (n_v vs 0) 160) j := fun j => s1.1 _ _
  have hE_0_160_2 : ∀ j : Int, w_ei w1 (w_ar ws (n_v vs 0) 160) j = w_ei w2 (w_ar ws (n_v vs 0) 160) j := el_kp s2.1 r15 cr_0_160 (by decide)
  have hE_0_160_3 : ∀ j : Int, w_ei w2 (w_ar ws (n_v vs 0) 160) j = w_ei w3 (w_ar ws (n_v vs 0) 160) j := el_kp s3.1 r14 cr_0_160 (by decide)
  have hE_0_160_4 : ∀ j : Int, w_ei w3 (w_ar ws (n_v vs 0) 160) j = w_ei w4 (w_ar ws (n_v vs 0) 160) j := el_kp s4.1 r13 cr_0_160 (by decide)
  have hE_0_160_5 : ∀ j : Int, 0 ≤ j → (j = v_iv (n_v vs 12) → w_ei w4 (w_ar ws (n_v vs 0) 160) j = v_iv (n_v vs 7)) ∧ (j ≠ v_iv (n_v vs 12) → w_ei w4 (w_ar ws (n_v vs 0) 160) j = w_ei w5 (w_ar ws (n_v vs 0) 160) j) := fun j hj => ⟨fun h => by unfold w_ei; rw [s5.1, if_pos ⟨ad_11.symm, by rw [h]⟩], fun h => by unfold w_ei; rw [s5.1, if_neg (fun e => h (by have := e.2; omega))]⟩
  have hK_0_160 := elq_5 hD hth cr_0_160
  have kz_0_11 := fdq_273 hD hth r0
  have kz_0_157 := fdq_42 hD hth r0
  have kb_0_11 := fdq_273 hD hth r0
  obtain ⟨x, ex, hx⟩ := iv_ex (ta := ta) (lo := 0) (hi := 4001) (z := 4000 + ((-2) * w_fi ws (n_v vs 0) 11 + (1 * v_iv (n_v vs 19) + 0))) (by omega) (by omega) (by omega) (by omega)
  have ex2 : v_iv (Value.int x) = 4000 + ((-2) * w_fi ws (n_v vs 0) 11 + (1 * v_iv (n_v vs 19) + 0)) := ex
  have ex3 : 0 ≤ v_iv (Value.int x) ∧ v_iv (Value.int x) ≤ 4001 := tv_rng hx
  have e_0 : n_v (vs ++ [Value.int x]) 0 = n_v vs 0 := n_v_old (by rw [hl]; decide)
  have e_2 : n_v (vs ++ [Value.int x]) 2 = n_v vs 2 := n_v_old (by rw [hl]; decide)
  have e_19 : n_v (vs ++ [Value.int x]) 19 = n_v vs 19 := n_v_old (by rw [hl]; decide)
  have e_20 : n_v (vs ++ [Value.int x]) 20 = Value.int x := n_v_new hl
  have nf0 : fc_1 PRD (20, [2, 19], [50, 2, 1, 157, 11, 160, 2, 16, 0, 7, 4, 3, 2, 0, 157, 1, 1, 4, 3, 2, 0, 11, 0, 1, 3, 6, 1, 2, 1, 1, 0, 1, 2, 7, 0, 2, 0, 1, 2, 0, 157, 3, 14, 1, 10, 3, 0, 160, 5, 3, 2, 0, 157, 0, 1, 0, 0, 1, 10, 3, 0, 160, 5, 3, 2, 0, 157, 0, 1, 0, 4]) ws (vs ++ [Value.int x]) := by
    refine ⟨nf_inA hl rfl, sgq_1285 ?_⟩
    · show ((w_fi ws (n_v (vs ++ [Value.int x]) 2) 157 + v_iv (n_v (vs ++ [Value.int x]) 19)) ≤ (w_fi ws (n_v (vs ++ [Value.int x]) 2) 11 + 1)) ∧ ((v_iv (n_v (vs ++ [Value.int x]) 19) = 1) ∨ ((1 ≤ w_fi ws (n_v (vs ++ [Value.int x]) 2) 157) ∧ ((w_ei ws (w_ar ws (n_v (vs ++ [Value.int x]) 2) 160) ((w_fi ws (n_v (vs ++ [Value.int x]) 2) 157 - 1)) = 0) ∨ (w_ei ws (w_ar ws (n_v (vs ++ [Value.int x]) 2) 160) ((w_fi ws (n_v (vs ++ [Value.int x]) 2) 157 - 1)) = 4))))
      simp only [e_2, e_19, q2]
      exact vc_Mo_styleTokens_52_0 (v_iv (n_v vs 6)) (v_iv (n_v vs 7)) (v_iv (n_v vs 9)) (v_iv (n_v vs 12)) (v_iv (n_v vs 17)) (v_iv (n_v vs 18)) (v_iv (n_v vs 19)) (w_fi w1 (n_v vs 0) 157) (w_fi w1 (n_v vs 0) 11) (w_fi w2 (n_v vs 0) 11) (w_fi w2 (n_v vs 0) 157) (w_fi w3 (n_v vs 0) 157) (w_fi w3 (n_v vs 0) 11) (w_fi w4 (n_v vs 0) 157) (w_fi w4 (n_v vs 0) 11) (w_fi w5 (n_v vs 0) 157) (w_fi w5 (n_v vs 0) 11) (w_fi ws (n_v vs 0) 11) (w_fi ws (n_v vs 0) 157) (w_ei ws (w_ar ws (n_v vs 0) 160)) (w_ei w1 (w_ar ws (n_v vs 0) 160)) (w_ei w2 (w_ar ws (n_v vs 0) 160)) (w_ei w3 (w_ar ws (n_v vs 0) 160)) (w_ei w4 (w_ar ws (n_v vs 0) 160)) (w_ei w5 (w_ar ws (n_v vs 0) 160)) k6 k7 k9 k12 k17 k18 k19 d0 g6 f7 g10 fe_0_11_1 fe_0_157_1 fe_0_11_2 fe_0_157_2 fe_0_11_3 fe_0_157_3 fe_0_11_4 fe_0_157_4 fe_0_11_5 fe_0_157_5 hE_0_160_1 hE_0_160_2 hE_0_160_3 hE_0_160_4 hE_0_160_5 kz_0_11 kz_0_157
  have nf1 : fc_1 PRD (24, [0, 2], []) ws (vs ++ [Value.int x]) := by
    refine ⟨nf_inA hl rfl, sgq_5 ?_⟩
    · show n_v (vs ++ [Value.int x]) 0 = n_v (vs ++ [Value.int x]) 2
      first | rfl | simp only [e_0, e_2, q2]
  have nf2 : fc_1 PRD (20, [20, 2, 19], [30, 4000, 1, 0, 0, 2, 1, 11, -1, 0, 0]) ws (vs ++ [Value.int x]) := by
    refine ⟨nf_inA hl rfl, sgq_1286 ?_⟩
    · show 1 * v_iv (n_v (vs ++ [Value.int x]) 20) + (2 * w_fi ws (n_v (vs ++ [Value.int x]) 2) 11 + ((-1) * v_iv (n_v (vs ++ [Value.int x]) 19) + 0)) ≤ 4000
      simp only [e_2, e_19, e_20, q2]
      exact vc_Mo_styleTokens_52_2 (v_iv (n_v vs 19)) (w_fi w1 (n_v vs 0) 157) (w_fi w1 (n_v vs 0) 11) (w_fi w2 (n_v vs 0) 11) (w_fi w2 (n_v vs 0) 157) (w_fi w3 (n_v vs 0) 157) (w_fi w3 (n_v vs 0) 11) (w_fi w4 (n_v vs 0) 157) (w_fi w4 (n_v vs 0) 11) (w_fi w5 (n_v vs 0) 157) (w_fi w5 (n_v vs 0) 11) (w_fi ws (n_v vs 0) 11) (w_ei ws (w_ar ws (n_v vs 0) 160)) (w_ei w1 (w_ar ws (n_v vs 0) 160)) (w_ei w2 (w_ar ws (n_v vs 0) 160)) (w_ei w3 (w_ar ws (n_v vs 0) 160)) (w_ei w4 (w_ar ws (n_v vs 0) 160)) (v_iv (Value.int x)) k19 fe_0_11_1 fe_0_11_2 fe_0_157_2 fe_0_11_3 fe_0_157_3 fe_0_11_4 fe_0_157_4 fe_0_11_5 fe_0_157_5 hE_0_160_1 hE_0_160_2 hE_0_160_3 hE_0_160_4 kz_0_11 ex2
  have nf3 : fc_1 PRD (20, [20, 2, 19], [30, -4000, -1, 0, 0, -2, 1, 11, 1, 0, 0]) ws (vs ++ [Value.int x]) := by
    refine ⟨nf_inA hl rfl, sgq_1287 ?_⟩
    · show (-1) * v_iv (n_v (vs ++ [Value.int x]) 20) + ((-2) * w_fi ws (n_v (vs ++ [Value.int x]) 2) 11 + (1 * v_iv (n_v (vs ++ [Value.int x]) 19) + 0)) ≤ (-4000)
      simp only [e_2, e_19, e_20, q2]
      exact vc_Mo_styleTokens_52_3 (v_iv (n_v vs 19)) (w_fi w1 (n_v vs 0) 157) (w_fi w1 (n_v vs 0) 11) (w_fi w2 (n_v vs 0) 11) (w_fi w2 (n_v vs 0) 157) (w_fi w3 (n_v vs 0) 157) (w_fi w3 (n_v vs 0) 11) (w_fi w4 (n_v vs 0) 157) (w_fi w4 (n_v vs 0) 11) (w_fi w5 (n_v vs 0) 157) (w_fi w5 (n_v vs 0) 11) (w_fi ws (n_v vs 0) 11) (w_ei ws (w_ar ws (n_v vs 0) 160)) (w_ei w1 (w_ar ws (n_v vs 0) 160)) (w_ei w2 (w_ar ws (n_v vs 0) 160)) (w_ei w3 (w_ar ws (n_v vs 0) 160)) (w_ei w4 (w_ar ws (n_v vs 0) 160)) (v_iv (Value.int x)) k19 fe_0_11_1 fe_0_11_2 fe_0_157_2 fe_0_11_3 fe_0_157_3 fe_0_11_4 fe_0_157_4 fe_0_11_5 fe_0_157_5 hE_0_160_1 hE_0_160_2 hE_0_160_3 hE_0_160_4 kz_0_11 ex2
  obtain ⟨x0, e0, _, _⟩ := tv_int t10 rfl
  have e1 : v_iv (n_v vs 10) = x0.toInt := by rw [e0]; rfl
  have ho : sy_ofs (vs ++ [Value.int x]) (20, 10, -1000000000000, -1) := by
    refine ⟨x, x0, by rw [List.getElem?_append_right (by rw [hl]; decide), hl]; rfl, ?_, ?_, ?_⟩
    · rw [List.getElem?_append_left (by rw [hl]; decide)]; exact n_v_some (by rw [hl]; decide) e0
    · show x0.toInt + (-1000000000000) ≤ x.toInt; omega
    · show x.toInt ≤ x0.toInt + (-1); omega
  exact ⟨(fun _ h => (by cases h)), [Value.int x], ag_one hx, List.forall_mem_cons.mpr ⟨⟨show (20 : Nat) < 100 from by decide, nf0⟩, List.forall_mem_cons.mpr ⟨⟨show (24 : Nat) < 100 from by decide, nf1⟩, List.forall_mem_cons.mpr ⟨⟨show (20 : Nat) < 100 from by decide, nf2⟩, List.forall_mem_cons.mpr ⟨⟨show (20 : Nat) < 100 from by decide, nf3⟩, (fun _ h => (by cases h))⟩⟩⟩⟩, List.forall_mem_cons.mpr ⟨ho, (fun _ h => (by cases h))⟩⟩
set_option maxHeartbeats 4000000 in
theorem vc_Mo_styleTokens_53_0 (x6 : Int) (x7 : Int) (x12 : Int) (x17 : Int) (x19 : Int) (tokens_1 : Int) (pos_1 : Int) (pos_2 : Int) (tokens_2 : Int) (tokens_3 : Int) (pos_3 : Int) (tokens_4 : Int) (pos_4 : Int) (tokens_5 : Int) (pos_5 : Int) (pos_0 : Int) (tokens_0 : Int) (tokenKind_0 : Int → Int) (tokenKind_1 : Int → Int) (tokenKind_2 : Int → Int) (tokenKind_3 : Int → Int) (tokenKind_4 : Int → Int) (k6 : 0 ≤ x6 ∧ x6 ≤ 2000) (k7 : 1 ≤ x7 ∧ x7 ≤ 3) (k12 : 0 ≤ x12 ∧ x12 ≤ 2000) (k17 : 1 ≤ x17 ∧ x17 ≤ 2001) (k19 : 1 ≤ x19 ∧ x19 ≤ 1) (d0 : x12 + 1 ≤ x17 ∧ x17 ≤ x12 + 1) (g6 : x12 = tokens_1) (f7 : (tokens_1 ≤ x6) ∧ ((x6 ≤ pos_1) ∧ ((x7 = 0) ∨ ((x7 = 4) ∨ ((x6 + 1) ≤ pos_1))))) (f24 : (tokens_5 ≤ x6) ∧ ((x6 ≤ pos_5) ∧ ((x7 = 0) ∨ ((x7 = 4) ∨ ((x6 + 1) ≤ pos_5))))) (fe_0_11_1 : pos_0 = pos_1) (fe_0_157_1 : tokens_0 = x17) (fe_0_11_2 : pos_1 = pos_2) (fe_0_157_2 : tokens_1 = tokens_2) (fe_0_11_3 : pos_2 = pos_3) (fe_0_157_3 : tokens_2 = tokens_3) (fe_0_11_4 : pos_3 = pos_4) (fe_0_157_4 : tokens_3 = tokens_4) (fe_0_11_5 : pos_4 = pos_5) (fe_0_157_5 : tokens_4 = tokens_5) (hE_0_160_1 : ∀ j : Int, tokenKind_0 j = tokenKind_1 j) (hE_0_160_2 : ∀ j : Int, tokenKind_1 j = tokenKind_2 j) (hE_0_160_3 : ∀ j : Int, tokenKind_2 j = tokenKind_3 j) (hE_0_160_4 : ∀ j : Int, tokenKind_3 j = tokenKind_4 j) (kz_0_11 : 0 ≤ pos_0 ∧ pos_0 ≤ 2000) (kz_0_157 : 0 ≤ tokens_0 ∧ tokens_0 ≤ 2010) : ((tokens_0 + x19) ≤ (pos_0 + 1)) ∧ ((x19 = 1) ∨ ((1 ≤ tokens_0) ∧ ((tokenKind_0 ((tokens_0 - 1)) = 0) ∨ (tokenKind_0 ((tokens_0 - 1)) = 4)))) := by
  subst fe_0_11_1
  subst fe_0_11_2
  subst fe_0_157_2
  subst fe_0_11_3
  subst fe_0_157_3
  subst fe_0_11_4
  subst fe_0_157_4
  subst fe_0_11_5
  subst fe_0_157_5
  have e_hE_0_160_1 := funext hE_0_160_1; subst e_hE_0_160_1
  have e_hE_0_160_2 := funext hE_0_160_2; subst e_hE_0_160_2
  have e_hE_0_160_3 := funext hE_0_160_3; subst e_hE_0_160_3
  have e_hE_0_160_4 := funext hE_0_160_4; subst e_hE_0_160_4
  first | assumption | omega | grind
set_option maxHeartbeats 4000000 in
theorem vc_Mo_styleTokens_53_2 (x19 : Int) (tokens_1 : Int) (pos_1 : Int) (pos_2 : Int) (tokens_2 : Int) (tokens_3 : Int) (pos_3 : Int) (tokens_4 : Int) (pos_4 : Int) (tokens_5 : Int) (pos_5 : Int) (pos_0 : Int) (tokenKind_0 : Int → Int) (tokenKind_1 : Int → Int) (tokenKind_2 : Int → Int) (tokenKind_3 : Int → Int) (tokenKind_4 : Int → Int) (gx : Int) (k19 : 1 ≤ x19 ∧ x19 ≤ 1) (fe_0_11_1 : pos_0 = pos_1) (fe_0_11_2 : pos_1 = pos_2) (fe_0_157_2 : tokens_1 = tokens_2) (fe_0_11_3 : pos_2 = pos_3) (fe_0_157_3 : tokens_2 = tokens_3) (fe_0_11_4 : pos_3 = pos_4) (fe_0_157_4 : tokens_3 = tokens_4) (fe_0_11_5 : pos_4 = pos_5) (fe_0_157_5 : tokens_4 = tokens_5) (hE_0_160_1 : ∀ j : Int, tokenKind_0 j = tokenKind_1 j) (hE_0_160_2 : ∀ j : Int, tokenKind_1 j = tokenKind_2 j) (hE_0_160_3 : ∀ j : Int, tokenKind_2 j = tokenKind_3 j) (hE_0_160_4 : ∀ j : Int, tokenKind_3 j = tokenKind_4 j) (kz_0_11 : 0 ≤ pos_0 ∧ pos_0 ≤ 2000) (ex2 : gx = 4000 + ((-2) * pos_0 + (1 * x19 + 0))) : 1 * gx + (2 * pos_0 + ((-1) * x19 + 0)) ≤ 4000 := by
  subst fe_0_11_1
  subst fe_0_11_2
  subst fe_0_157_2
  subst fe_0_11_3
  subst fe_0_157_3
  subst fe_0_11_4
  subst fe_0_157_4
  subst fe_0_11_5
  subst fe_0_157_5
  have e_hE_0_160_1 := funext hE_0_160_1; subst e_hE_0_160_1
  have e_hE_0_160_2 := funext hE_0_160_2; subst e_hE_0_160_2
  have e_hE_0_160_3 := funext hE_0_160_3; subst e_hE_0_160_3
  have e_hE_0_160_4 := funext hE_0_160_4; subst e_hE_0_160_4
  first | assumption | omega | grind
set_option maxHeartbeats 4000000 in
theorem vc_Mo_styleTokens_53_3 (x19 : Int) (tokens_1 : Int) (pos_1 : Int) (pos_2 : Int) (tokens_2 : Int) (tokens_3 : Int) (pos_3 : Int) (tokens_4 : Int) (pos_4 : Int) (tokens_5 : Int) (pos_5 : Int) (pos_0 : Int) (tokenKind_0 : Int → Int) (tokenKind_1 : Int → Int) (tokenKind_2 : Int → Int) (tokenKind_3 : Int → Int) (tokenKind_4 : Int → Int) (gx : Int) (k19 : 1 ≤ x19 ∧ x19 ≤ 1) (fe_0_11_1 : pos_0 = pos_1) (fe_0_11_2 : pos_1 = pos_2) (fe_0_157_2 : tokens_1 = tokens_2) (fe_0_11_3 : pos_2 = pos_3) (fe_0_157_3 : tokens_2 = tokens_3) (fe_0_11_4 : pos_3 = pos_4) (fe_0_157_4 : tokens_3 = tokens_4) (fe_0_11_5 : pos_4 = pos_5) (fe_0_157_5 : tokens_4 = tokens_5) (hE_0_160_1 : ∀ j : Int, tokenKind_0 j = tokenKind_1 j) (hE_0_160_2 : ∀ j : Int, tokenKind_1 j = tokenKind_2 j) (hE_0_160_3 : ∀ j : Int, tokenKind_2 j = tokenKind_3 j) (hE_0_160_4 : ∀ j : Int, tokenKind_3 j = tokenKind_4 j) (kz_0_11 : 0 ≤ pos_0 ∧ pos_0 ≤ 2000) (ex2 : gx = 4000 + ((-2) * pos_0 + (1 * x19 + 0))) : (-1) * gx + ((-2) * pos_0 + (1 * x19 + 0)) ≤ (-4000) := by
  subst fe_0_11_1
  subst fe_0_11_2
  subst fe_0_157_2
  subst fe_0_11_3
  subst fe_0_157_3
  subst fe_0_11_4
  subst fe_0_157_4
  subst fe_0_11_5
  subst fe_0_157_5
  have e_hE_0_160_1 := funext hE_0_160_1; subst e_hE_0_160_1
  have e_hE_0_160_2 := funext hE_0_160_2; subst e_hE_0_160_2
  have e_hE_0_160_3 := funext hE_0_160_3; subst e_hE_0_160_3
  have e_hE_0_160_4 := funext hE_0_160_4; subst e_hE_0_160_4
  first | assumption | omega | grind
def o_Mo_styleTokens_53 : or_T := (17, 20, [(0, (2, 0, 0, [165])), (2, (2, 0, 0, [165])), (6, (0, 0, 2000, [])), (7, (0, 1, 3, [])), (9, (0, 0, 2000, [])), (10, (0, 0, 4001, [])), (11, (2, 0, 0, [274])), (12, (0, 0, 2000, [])), (13, (2, 0, 0, [275])), (14, (2, 0, 0, [276])), (15, (2, 0, 0, [277])), (16, (0, 1, 1, [])), (17, (0, 1, 2001, [])), (18, (0, 4, 4, [])), (19, (0, 1, 1, []))], [(7, [7, 18], [1]), (8, [7], [1]), (20, [10, 6], [30, -4001, -1, 0, 0, -2, 0, 0]), (24, [0, 2], []), (101, [2, 17], [157]), (1, [17, 12, 16], []), (9, [12, 2], [157]), (20, [2, 6, 7], [50, 2, 0, 157, 11, 2, 7, 0, 3, 2, 0, 157, 1, 1, 2, 7, 0, 2, 1, 1, 2, 0, 11, 3, 6, 1, 2, 1, 2, 0, 0, 3, 6, 1, 2, 1, 2, 0, 4, 0, 6, 4, 2, 1, 1, 0, 1, 2, 0, 11]), (20, [10, 6], [30, -4001, -1, 0, 0, -2, 0, 0]), (100, [15, 12, 9], []), (9, [9, 2], [11]), (9, [15, 2], [163]), (20, [2, 6, 7], [50, 2, 0, 157, 11, 2, 7, 0, 3, 2, 0, 157, 1, 1, 2, 7, 0, 2, 1, 1, 2, 0, 11, 3, 6, 1, 2, 1, 2, 0, 0, 3, 6, 1, 2, 1, 2, 0, 4, 0, 6, 4, 2, 1, 1, 0, 1, 2, 0, 11]), (20, [10, 6], [30, -4001, -1, 0, 0, -2, 0, 0]), (100, [14, 12, 6], []), (9, [14, 2], [162]), (20, [2, 6, 7], [50, 2, 0, 157, 11, 2, 7, 0, 3, 2, 0, 157, 1, 1, 2, 7, 0, 2, 1, 1, 2, 0, 11, 3, 6, 1, 2, 1, 2, 0, 0, 3, 6, 1, 2, 1, 2, 0, 4, 0, 6, 4, 2, 1, 1, 0, 1, 2, 0, 11]), (20, [10, 6], [30, -4001, -1, 0, 0, -2, 0, 0]), (100, [13, 12, 8], []), (9, [13, 2], [161]), (20, [2, 6, 7], [50, 2, 0, 157, 11, 2, 7, 0, 3, 2, 0, 157, 1, 1, 2, 7, 0, 2, 1, 1, 2, 0, 11, 3, 6, 1, 2, 1, 2, 0, 0, 3, 6, 1, 2, 1, 2, 0, 4, 0, 6, 4, 2, 1, 1, 0, 1, 2, 0, 11]), (20, [10, 6], [30, -4001, -1, 0, 0, -2, 0, 0]), (100, [11, 12, 7], []), (9, [11, 2], [160]), (20, [2, 6, 7], [50, 2, 0, 157, 11, 2, 7, 0, 3, 2, 0, 157, 1, 1, 2, 7, 0, 2, 1, 1, 2, 0, 11, 3, 6, 1, 2, 1, 2, 0, 0, 3, 6, 1, 2, 1, 2, 0, 4, 0, 6, 4, 2, 1, 1, 0, 1, 2, 0, 11]), (20, [10, 6], [30, -4001, -1, 0, 0, -2, 0, 0])], [], [(0, 0, 4001, [])], [(20, [2, 19], [50, 2, 1, 157, 11, 160, 2, 16, 0, 7, 4, 3, 2, 0, 157, 1, 1, 4, 3, 2, 0, 11, 0, 1, 3, 6, 1, 2, 1, 1, 0, 1, 2, 7, 0, 2, 0, 1, 2, 0, 157, 3, 14, 1, 10, 3, 0, 160, 5, 3, 2, 0, 157, 0, 1, 0, 0, 1, 10, 3, 0, 160, 5, 3, 2, 0, 157, 0, 1, 0, 4]), (24, [0, 2], []), (20, [20, 2, 19], [30, 4000, 1, 0, 0, 2, 1, 11, -1, 0, 0]), (20, [20, 2, 19], [30, -4000, -1, 0, 0, -2, 1, 11, 1, 0, 0])], [(20, 10, -1000000000000, -1)], [(17, 12, 1, 1)])
theorem oo_Mo_styleTokens_53 {kA : Nat → ClassId} : or_ok PRD kA GG o_Mo_styleTokens_53 := by
  refine or_mk fun A ta ws vs hD hth hl => ?_
  intro t0 r0 t2 r2 t6 k6 t7 k7 t9 k9 t10 k10 t11 r11 t12 k12 t13 r13 t14 r14 t15 r15 t16 k16 t17 k17 t18 k18 t19 k19 d0 f0 f1 f2 f3 ta1 w1 le1 s1 f5 f6 f7 f8 ta2 w2 le2 s2 f10 f11 f12 f13 ta3 w3 le3 s3 f15 f16 f17 ta4 w4 le4 s4 f19 f20 f21 ta5 w5 le5 s5 f23 f24 f25
  replace f0 := shm_40 f0
  replace f1 := shm_154 f1
  replace f2 := shm_1293 f2
  replace f3 := shm_5 f3
  have s1 : (∀ b j, w_el ws b j = w_el w1 b j) ∧ ∀ b j, w_fd ws b j = if b = v_ad (n_v vs 2) ∧ j = 157 then n_v vs 17 else w_fd w1 b j := s1.2
  replace f5 := shm_12 f5
  replace f6 := shm_1297 f6
  replace f7 := shm_1292 f7
  replace f8 := shm_1293 f8
  have s2 : (∀ b j, w_el w1 b j = if b = v_ad (n_v vs 15) ∧ j = (v_iv (n_v vs 12)).toNat then v_iv (n_v vs 9) else w_el w2 b j) ∧ ∀ b k, w_fd w1 b k = w_fd w2 b k := s2.2
  replace f10 := shm_117 f10
  replace f11 := shm_1298 f11
  replace f12 := shm_1292 f12
  replace f13 := shm_1293 f13
  have s3 : (∀ b j, w_el w2 b j = if b = v_ad (n_v vs 14) ∧ j = (v_iv (n_v vs 12)).toNat then v_iv (n_v vs 6) else w_el w3 b j) ∧ ∀ b k, w_fd w2 b k = w_fd w3 b k := s3.2
  replace f15 := shm_324 f15
  replace f16 := shm_1292 f16
  replace f17 := shm_1293 f17
  have s4 : (∀ b j, w_el w3 b j = if b = v_ad (n_v vs 13) ∧ j = (v_iv (n_v vs 12)).toNat then v_iv (n_v vs 8) else w_el w4 b j) ∧ ∀ b k, w_fd w3 b k = w_fd w4 b k := s4.2
  replace f19 := shm_354 f19
  replace f20 := shm_1292 f20
  replace f21 := shm_1293 f21
  have s5 : (∀ b j, w_el w4 b j = if b = v_ad (n_v vs 11) ∧ j = (v_iv (n_v vs 12)).toNat then v_iv (n_v vs 7) else w_el w5 b j) ∧ ∀ b k, w_fd w4 b k = w_fd w5 b k := s5.2
  replace f23 := shm_345 f23
  replace f24 := shm_1292 f24
  replace f25 := shm_1293 f25
  have q2 : n_v vs 2 = n_v vs 0 := f3.symm
  rw [q2] at s1
  simp only [q2] at f6 f7 f10 f11 f12 f15 f16 f19 f20 f23 f24
  have ar_0_160_1 : w_ar w1 (n_v vs 0) 160 = w_ar ws (n_v vs 0) 160 := by show v_ad (w_fd w1 _ _) = v_ad (w_fd ws _ _); rw [s1.2, if_neg (fun e => absurd e.2 (by decide))]
  have ar_0_160_2 : w_ar w2 (n_v vs 0) 160 = w_ar ws (n_v vs 0) 160 := by rw [← ar_0_160_1]; show v_ad (w_fd w2 _ _) = v_ad (w_fd w1 _ _); rw [s2.2]
  have ar_0_160_3 : w_ar w3 (n_v vs 0) 160 = w_ar ws (n_v vs 0) 160 := by rw [← ar_0_160_2]; show v_ad (w_fd w3 _ _) = v_ad (w_fd w2 _ _); rw [s3.2]
  have ar_0_160_4 : w_ar w4 (n_v vs 0) 160 = w_ar ws (n_v vs 0) 160 := by rw [← ar_0_160_3]; show v_ad (w_fd w4 _ _) = v_ad (w_fd w3 _ _); rw [s4.2]
  have ar_0_160_5 : w_ar w5 (n_v vs 0) 160 = w_ar ws (n_v vs 0) 160 := by rw [← ar_0_160_4]; show v_ad (w_fd w5 _ _) = v_ad (w_fd w4 _ _); rw [s5.2]
  have cr_0_160 := fdq_41 hD hth r0
  have ar_0_161_1 : w_ar w1 (n_v vs 0) 161 = w_ar ws (n_v vs 0) 161 := by show v_ad (w_fd w1 _ _) = v_ad (w_fd ws _ _); rw [s1.2, if_neg (fun e => absurd e.2 (by decide))]
  have ar_0_161_2 : w_ar w2 (n_v vs 0) 161 = w_ar ws (n_v vs 0) 161 := by rw [← ar_0_161_1]; show v_ad (w_fd w2 _ _) = v_ad (w_fd w1 _ _); rw [s2.2]
  have ar_0_161_3 : w_ar w3 (n_v vs 0) 161 = w_ar ws (n_v vs 0) 161 := by rw [← ar_0_161_2]; show v_ad (w_fd w3 _ _) = v_ad (w_fd w2 _ _); rw [s3.2]
  have ar_0_161_4 : w_ar w4 (n_v vs 0) 161 = w_ar ws (n_v vs 0) 161 := by rw [← ar_0_161_3]; show v_ad (w_fd w4 _ _) = v_ad (w_fd w3 _ _); rw [s4.2]
  have ar_0_161_5 : w_ar w5 (n_v vs 0) 161 = w_ar ws (n_v vs 0) 161 := by rw [← ar_0_161_4]; show v_ad (w_fd w5 _ _) = v_ad (w_fd w4 _ _); rw [s5.2]
  have cr_0_161 := fdq_47 hD hth r0
  have ar_0_162_1 : w_ar w1 (n_v vs 0) 162 = w_ar ws (n_v vs 0) 162 := by show v_ad (w_fd w1 _ _) = v_ad (w_fd ws _ _); rw [s1.2, if_neg (fun e => absurd e.2 (by decide))]
  have ar_0_162_2 : w_ar w2 (n_v vs 0) 162 = w_ar ws (n_v vs 0) 162 := by rw [← ar_0_162_1]; show v_ad (w_fd w2 _ _) = v_ad (w_fd w1 _ _); rw [s2.2]
  have ar_0_162_3 : w_ar w3 (n_v vs 0) 162 = w_ar ws (n_v vs 0) 162 := by rw [← ar_0_162_2]; show v_ad (w_fd w3 _ _) = v_ad (w_fd w2 _ _); rw [s3.2]
  have ar_0_162_4 : w_ar w4 (n_v vs 0) 162 = w_ar ws (n_v vs 0) 162 := by rw [← ar_0_162_3]; show v_ad (w_fd w4 _ _) = v_ad (w_fd w3 _ _); rw [s4.2]
  have ar_0_162_5 : w_ar w5 (n_v vs 0) 162 = w_ar ws (n_v vs 0) 162 := by rw [← ar_0_162_4]; show v_ad (w_fd w5 _ _) = v_ad (w_fd w4 _ _); rw [s5.2]
  have cr_0_162 := fdq_48 hD hth r0
  have ar_0_163_1 : w_ar w1 (n_v vs 0) 163 = w_ar ws (n_v vs 0) 163 := by show v_ad (w_fd w1 _ _) = v_ad (w_fd ws _ _); rw [s1.2, if_neg (fun e => absurd e.2 (by decide))]
  have ar_0_163_2 : w_ar w2 (n_v vs 0) 163 = w_ar ws (n_v vs 0) 163 := by rw [← ar_0_163_1]; show v_ad (w_fd w2 _ _) = v_ad (w_fd w1 _ _); rw [s2.2]
  have ar_0_163_3 : w_ar w3 (n_v vs 0) 163 = w_ar ws (n_v vs 0) 163 := by rw [← ar_0_163_2]; show v_ad (w_fd w3 _ _) = v_ad (w_fd w2 _ _); rw [s3.2]
  have ar_0_163_4 : w_ar w4 (n_v vs 0) 163 = w_ar ws (n_v vs 0) 163 := by rw [← ar_0_163_3]; show v_ad (w_fd w4 _ _) = v_ad (w_fd w3 _ _); rw [s4.2]
  have ar_0_163_5 : w_ar w5 (n_v vs 0) 163 = w_ar ws (n_v vs 0) 163 := by rw [← ar_0_163_4]; show v_ad (w_fd w5 _ _) = v_ad (w_fd w4 _ _); rw [s5.2]
  have cr_0_163 := fdq_49 hD hth r0
  have ad_15 : v_ad (n_v vs 15) = w_ar ws (n_v vs 0) 163 := (congrArg v_ad f11).trans ar_0_163_2
  have ad_14 : v_ad (n_v vs 14) = w_ar ws (n_v vs 0) 162 := (congrArg v_ad f15).trans ar_0_162_3
  have ad_13 : v_ad (n_v vs 13) = w_ar ws (n_v vs 0) 161 := (congrArg v_ad f19).trans ar_0_161_4
  have ad_11 : v_ad (n_v vs 11) = w_ar ws (n_v vs 0) 160 := (congrArg v_ad f23).trans ar_0_160_5
  have g6 : v_iv (n_v vs 12) = w_fi w1 (n_v vs 0) 157 := congrArg v_iv f6
  have g10 : v_iv (n_v vs 9) = w_fi w2 (n_v vs 0) 11 := congrArg v_iv f10
  have fe_0_11_1 : w_fi ws (n_v vs 0) 11 = w_fi w1 (n_v vs 0) 11 := by show v_iv (w_fd _ _ _) = v_iv (w_fd _ _ _); rw [s1.2, if_neg (fun e => absurd e.2 (by decide))]
  have fe_0_157_1 : w_fi ws (n_v vs 0) 157 = v_iv (n_v vs 17) := by show v_iv (w_fd _ _ _) = _; rw [s1.2, if_pos ⟨rfl, rfl⟩]
  have fe_0_11_2 : w_fi w1 (n_v vs 0) 11 = w_fi w2 (n_v vs 0) 11 := congrArg v_iv (s2.2 _ _)
  have fe_0_157_2 : w_fi w1 (n_v vs 0) 157 = w_fi w2 (n_v vs 0) 157 := congrArg v_iv (s2.2 _ _)
  have fe_0_11_3 : w_fi w2 (n_v vs 0) 11 = w_fi w3 (n_v vs 0) 11 := congrArg v_iv (s3.2 _ _)
  have fe_0_157_3 : w_fi w2 (n_v vs 0) 157 = w_fi w3 (n_v vs 0) 157 := congrArg v_iv (s3.2 _ _)
  have fe_0_11_4 : w_fi w3 (n_v vs 0) 11 = w_fi w4 (n_v vs 0) 11 := congrArg v_iv (s4.2 _ _)
  have fe_0_157_4 : w_fi w3 (n_v vs 0) 157 = w_fi w4 (n_v vs 0) 157 := congrArg v_iv (s4.2 _ _)
  have fe_0_11_5 : w_fi w4 (n_v vs 0) 11 = w_fi w5 (n_v vs 0) 11 := congrArg v_iv (s5.2 _ _)
  have fe_0_157_5 : w_fi w4 (n_v vs 0) 157 = w_fi w5 (n_v vs 0) 157 := congrArg v_iv (s5.2 _ _)
  have hE_0_160_1 : ∀ j : Int, w_ei ws (w_ar ws (n_v vs 0) 160) j = w_ei w1 (w_ar ws (n_v vs 0) 160) j := fun j => s1.1 _ _
  have hE_0_160_2 : ∀ j : Int, w_ei w1 (w_ar ws (n_v vs 0) 160) j = w_ei w2 (w_ar ws (n_v vs 0) 160) j := el_kp s2.1 r15 cr_0_160 (by decide)
  have hE_0_160_3 : ∀ j : Int, w_ei w2 (w_ar ws (n_v vs 0) 160) j = w_ei w3 (w_ar ws (n_v vs 0) 160) j := el_kp s3.1 r14 cr_0_160 (by decide)
  have hE_0_160_4 : ∀ j : Int, w_ei w3 (w_ar ws (n_v vs 0) 160) j = w_ei w4 (w_ar ws (n_v vs 0) 160) j := el_kp s4.1 r13 cr_0_160 (by decide)
  have hE_0_160_5 : ∀ j : Int, 0 ≤ j → (j = v_iv (n_v vs 12) → w_ei w4 (w_ar ws (n_v vs 0) 160) j = v_iv (n_v vs 7)) ∧ (j ≠ v_iv (n_v vs 12) → w_ei w4 (w_ar ws (n_v vs 0) 160) j = w_ei w5 (w_ar ws (n_v vs 0) 160) j) := fun j hj => ⟨fun h => by unfold w_ei; rw [s5.1, if_pos ⟨ad_11.symm, by rw [h]⟩], fun h => by unfold w_ei; rw [s5.1, if_neg (fun e => h (by have := e.2; omega))]⟩
  have hK_0_160 := elq_5 hD hth cr_0_160
  have kz_0_11 := fdq_273 hD hth r0
  have kz_0_157 := fdq_42 hD hth r0
  have kb_0_11 := fdq_273 hD hth r0
  obtain ⟨x, ex, hx⟩ := iv_ex (ta := ta) (lo := 0) (hi := 4001) (z := 4000 + ((-2) * w_fi ws (n_v vs 0) 11 + (1 * v_iv (n_v vs 19) + 0))) (by omega) (by omega) (by omega) (by omega)
  have ex2 : v_iv (Value.int x) = 4000 + ((-2) * w_fi ws (n_v vs 0) 11 + (1 * v_iv (n_v vs 19) + 0)) := ex
  have ex3 : 0 ≤ v_iv (Value.int x) ∧ v_iv (Value.int x) ≤ 4001 := tv_rng hx
  have e_0 : n_v (vs ++ [Value.int x]) 0 = n_v vs 0 := n_v_old (by rw [hl]; decide)
  have e_2 : n_v (vs ++ [Value.int x]) 2 = n_v vs 2 := n_v_old (by rw [hl]; decide)
  have e_19 : n_v (vs ++ [Value.int x]) 19 = n_v vs 19 := n_v_old (by rw [hl]; decide)
  have e_20 : n_v (vs ++ [Value.int x]) 20 = Value.int x := n_v_new hl
  have nf0 : fc_1 PRD (20, [2, 19], [50, 2, 1, 157, 11, 160, 2, 16, 0, 7, 4, 3, 2, 0, 157, 1, 1, 4, 3, 2, 0, 11, 0, 1, 3, 6, 1, 2, 1, 1, 0, 1, 2, 7, 0, 2, 0, 1, 2, 0, 157, 3, 14, 1, 10, 3, 0, 160, 5, 3, 2, 0, 157, 0, 1, 0, 0, 1, 10, 3, 0, 160, 5, 3, 2, 0, 157, 0, 1, 0, 4]) ws (vs ++ [Value.int x]) := by
    refine ⟨nf_inA hl rfl, sgq_1285 ?_⟩
    · show ((w_fi ws (n_v (vs ++ [Value.int x]) 2) 157 + v_iv (n_v (vs ++ [Value.int x]) 19)) ≤ (w_fi ws (n_v (vs ++ [Value.int x]) 2) 11 + 1)) ∧ ((v_iv (n_v (vs ++ [Value.int x]) 19) = 1) ∨ ((1 ≤ w_fi ws (n_v (vs ++ [Value.int x]) 2) 157) ∧ ((w_ei ws (w_ar ws (n_v (vs ++ [Value.int x]) 2) 160) ((w_fi ws (n_v (vs ++ [Value.int x]) 2) 157 - 1)) = 0) ∨ (w_ei ws (w_ar ws (n_v (vs ++ [Value.int x]) 2) 160) ((w_fi ws (n_v (vs ++ [Value.int x]) 2) 157 - 1)) = 4))))
      simp only [e_2, e_19, q2]
      exact vc_Mo_styleTokens_53_0 (v_iv (n_v vs 6)) (v_iv (n_v vs 7)) (v_iv (n_v vs 12)) (v_iv (n_v vs 17)) (v_iv (n_v vs 19)) (w_fi w1 (n_v vs 0) 157) (w_fi w1 (n_v vs 0) 11) (w_fi w2 (n_v vs 0) 11) (w_fi w2 (n_v vs 0) 157) (w_fi w3 (n_v vs 0) 157) (w_fi w3 (n_v vs 0) 11) (w_fi w4 (n_v vs 0) 157) (w_fi w4 (n_v vs 0) 11) (w_fi w5 (n_v vs 0) 157) (w_fi w5 (n_v vs 0) 11) (w_fi ws (n_v vs 0) 11) (w_fi ws (n_v vs 0) 157) (w_ei ws (w_ar ws (n_v vs 0) 160)) (w_ei w1 (w_ar ws (n_v vs 0) 160)) (w_ei w2 (w_ar ws (n_v vs 0) 160)) (w_ei w3 (w_ar ws (n_v vs 0) 160)) (w_ei w4 (w_ar ws (n_v vs 0) 160)) k6 k7 k12 k17 k19 d0 g6 f7 f24 fe_0_11_1 fe_0_157_1 fe_0_11_2 fe_0_157_2 fe_0_11_3 fe_0_157_3 fe_0_11_4 fe_0_157_4 fe_0_11_5 fe_0_157_5 hE_0_160_1 hE_0_160_2 hE_0_160_3 hE_0_160_4 kz_0_11 kz_0_157
  have nf1 : fc_1 PRD (24, [0, 2], []) ws (vs ++ [Value.int x]) := by
    refine ⟨nf_inA hl rfl, sgq_5 ?_⟩
    · show n_v (vs ++ [Value.int x]) 0 = n_v (vs ++ [Value.int x]) 2
      first | rfl | simp only [e_0, e_2, q2]
  have nf2 : fc_1 PRD (20, [20, 2, 19], [30, 4000, 1, 0, 0, 2, 1, 11, -1, 0, 0]) ws (vs ++ [Value.int x]) := by
    refine ⟨nf_inA hl rfl, sgq_1286 ?_⟩
    · show 1 * v_iv (n_v (vs ++ [Value.int x]) 20) + (2 * w_fi ws (n_v (vs ++ [Value.int x]) 2) 11 + ((-1) * v_iv (n_v (vs ++ [Value.int x]) 19) + 0)) ≤ 4000
      simp only [e_2, e_19, e_20, q2]
      exact vc_Mo_styleTokens_53_2 (v_iv (n_v vs 19)) (w_fi w1 (n_v vs 0) 157) (w_fi w1 (n_v vs 0) 11) (w_fi w2 (n_v vs 0) 11) (w_fi w2 (n_v vs 0) 157) (w_fi w3 (n_v vs 0) 157) (w_fi w3 (n_v vs 0) 11) (w_fi w4 (n_v vs 0) 157) (w_fi w4 (n_v vs 0) 11) (w_fi w5 (n_v vs 0) 157) (w_fi w5 (n_v vs 0) 11) (w_fi ws (n_v vs 0) 11) (w_ei ws (w_ar ws (n_v vs 0) 160)) (w_ei w1 (w_ar ws (n_v vs 0) 160)) (w_ei w2 (w_ar ws (n_v vs 0) 160)) (w_ei w3 (w_ar ws (n_v vs 0) 160)) (w_ei w4 (w_ar ws (n_v vs 0) 160)) (v_iv (Value.int x)) k19 fe_0_11_1 fe_0_11_2 fe_0_157_2 fe_0_11_3 fe_0_157_3 fe_0_11_4 fe_0_157_4 fe_0_11_5 fe_0_157_5 hE_0_160_1 hE_0_160_2 hE_0_160_3 hE_0_160_4 kz_0_11 ex2
  have nf3 : fc_1 PRD (20, [20, 2, 19], [30, -4000, -1, 0, 0, -2, 1, 11, 1, 0, 0]) ws (vs ++ [Value.int x]) := by
    refine ⟨nf_inA hl rfl, sgq_1287 ?_⟩
    · show (-1) * v_iv (n_v (vs ++ [Value.int x]) 20) + ((-2) * w_fi ws (n_v (vs ++ [Value.int x]) 2) 11 + (1 * v_iv (n_v (vs ++ [Value.int x]) 19) + 0)) ≤ (-4000)
      simp only [e_2, e_19, e_20, q2]
      exact vc_Mo_styleTokens_53_3 (v_iv (n_v vs 19)) (w_fi w1 (n_v vs 0) 157) (w_fi w1 (n_v vs 0) 11) (w_fi w2 (n_v vs 0) 11) (w_fi w2 (n_v vs 0) 157) (w_fi w3 (n_v vs 0) 157) (w_fi w3 (n_v vs 0) 11) (w_fi w4 (n_v vs 0) 157) (w_fi w4 (n_v vs 0) 11) (w_fi w5 (n_v vs 0) 157) (w_fi w5 (n_v vs 0) 11) (w_fi ws (n_v vs 0) 11) (w_ei ws (w_ar ws (n_v vs 0) 160)) (w_ei w1 (w_ar ws (n_v vs 0) 160)) (w_ei w2 (w_ar ws (n_v vs 0) 160)) (w_ei w3 (w_ar ws (n_v vs 0) 160)) (w_ei w4 (w_ar ws (n_v vs 0) 160)) (v_iv (Value.int x)) k19 fe_0_11_1 fe_0_11_2 fe_0_157_2 fe_0_11_3 fe_0_157_3 fe_0_11_4 fe_0_157_4 fe_0_11_5 fe_0_157_5 hE_0_160_1 hE_0_160_2 hE_0_160_3 hE_0_160_4 kz_0_11 ex2
  obtain ⟨x0, e0, _, _⟩ := tv_int t10 rfl
  have e1 : v_iv (n_v vs 10) = x0.toInt := by rw [e0]; rfl
  have ho : sy_ofs (vs ++ [Value.int x]) (20, 10, -1000000000000, -1) := by
    refine ⟨x, x0, by rw [List.getElem?_append_right (by rw [hl]; decide), hl]; rfl, ?_, ?_, ?_⟩
    · rw [List.getElem?_append_left (by rw [hl]; decide)]; exact n_v_some (by rw [hl]; decide) e0
    · show x0.toInt + (-1000000000000) ≤ x.toInt; omega
    · show x.toInt ≤ x0.toInt + (-1); omega
  exact ⟨(fun _ h => (by cases h)), [Value.int x], ag_one hx, List.forall_mem_cons.mpr ⟨⟨show (20 : Nat) < 100 from by decide, nf0⟩, List.forall_mem_cons.mpr ⟨⟨show (24 : Nat) < 100 from by decide, nf1⟩, List.forall_mem_cons.mpr ⟨⟨show (20 : Nat) < 100 from by decide, nf2⟩, List.forall_mem_cons.mpr ⟨⟨show (20 : Nat) < 100 from by decide, nf3⟩, (fun _ h => (by cases h))⟩⟩⟩⟩, List.forall_mem_cons.mpr ⟨ho, (fun _ h => (by cases h))⟩⟩
def n_Mo_styleTokens_an : List an_T := [(17, [(0, (2, 0, 0, [165])), (1, (0, 0, 2000, [])), (2, (0, 0, 1, []))], [], (0, 0), [(0, 0, 99983), (2, 7, 0), (0, 0, 100000), (0, 0, 0), (0, 0, 0)], [(1, 3, (Int.negSucc 999999999999), 0), (3, 1, (Int.negSucc 999999999999), 0)], [((0, 11), (0, 0, 2000, [])), ((0, 157), (0, 0, 2001, []))], [(2, 0, 0, [165]), (0, 0, 2000, [])], 0, [(0, 0, 4001, [])], [(20, [2, 4], [50, 2, 1, 157, 11, 160, 2, 16, 0, 7, 4, 3, 2, 0, 157, 1, 1, 4, 3, 2, 0, 11, 0, 1, 3, 6, 1, 2, 1, 1, 0, 1, 2, 7, 0, 2, 0, 1, 2, 0, 157, 3, 14, 1, 10, 3, 0, 160, 5, 3, 2, 0, 157, 0, 1, 0, 0, 1, 10, 3, 0, 160, 5, 3, 2, 0, 157, 0, 1, 0, 4]), (24, [0, 2], []), (20, [7, 2, 4], [30, 4000, 1, 0, 0, 2, 1, 11, (Int.negSucc 0), 0, 0]), (20, [7, 2, 4], [30, (Int.negSucc 3999), (Int.negSucc 0), 0, 0, (Int.negSucc 1), 1, 11, 1, 0, 0])]), (21, [(0, (2, 0, 0, [165])), (1, (0, 0, 2000, [])), (2, (0, 1, 1, []))], [], (0, 0), [(0, 0, 99983), (2, 6, 0), (0, 0, 99979), (1, 5, 2000), (0, 0, 100000)], [(1, 3, (Int.negSucc 999999999999), 0), (3, 1, (Int.negSucc 999999999999), 0)], [((0, 11), (0, 0, 2000, []))], [(2, 0, 0, [165]), (0, 0, 2000, [])], 0, [(0, 0, 4001, [])], [(20, [2], [50, 2, 0, 157, 11, 0, 3, 2, 0, 157, 2, 0, 11]), (20, [6, 2], [30, (Int.negSucc 4000), (Int.negSucc 0), 0, 0, (Int.negSucc 1), 1, 11]), (24, [0, 2], [])]), (60, [(0, (2, 0, 0, [165])), (1, (0, 0, 2000, [])), (2, (0, 1, 1, []))], [], (0, 0), [(0, 0, 99983), (2, 6, 0), (0, 0, 99940), (0, 0, 0), (0, 0, 0)], [(1, 3, (Int.negSucc 999999999999), 0), (3, 1, (Int.negSucc 999999999999), 0)], [((0, 11), (0, 0, 2000, []))], [(2, 0, 0, [165]), (0, 0, 2000, [])], 0, [(0, 0, 4001, [])], [(20, [2], [50, 2, 0, 157, 11, 0, 3, 2, 0, 157, 2, 0, 11]), (20, [6, 2], [30, (Int.negSucc 4000), (Int.negSucc 0), 0, 0, (Int.negSucc 1), 1, 11]), (24, [0, 2], [])]), (103, [(0, (2, 0, 0, [165])), (1, (0, 0, 2000, [])), (2, (0, 1, 1, [])), (3, (0, 97, 122, [])), (4, (0, 0, 1999, [])), (5, (0, 4, 4, [])), (6, (1, 0, 255, []))], [], (0, 0), [(0, 0, 99983), (2, 10, 0), (0, 0, 99897), (1, 9, 2000), (0, 0, 100000)], [(1, 3, (Int.negSucc 999999999999), 0), (3, 1, (Int.negSucc 999999999999), 0), (6, 9, (Int.negSucc 999999999999), 0)], [((0, 11), (0, 0, 2000, []))], [(2, 0, 0, [165]), (0, 0, 2000, [])], 0, [(0, 0, 4001, [])], [(20, [2, 6], [50, 3, 1, 157, 11, 10, 1, 2, 7, 0, 3, 2, 0, 157, 1, 1, 2, 7, 0, 2, 1, 1, 2, 0, 11, 3, 11, 0, 6, 4, 2, 1, 1, 0, 1, 2, 0, 11, 2, 7, 1, 3, 2, 0, 11, 1, 1, 2, 11, 0, 6, 4, 2, 1, 1, 0, 1, 2, 0, 10, 2, 13, 0, 2, 0, 97, 9, 5, 3, 0, 1, 1, 1, 0, 256, 0, 9, 9, 5, 3, 0, 1, 1, 1, 0, 256, 0, 122]), (20, [10, 6], [30, (Int.negSucc 4000), (Int.negSucc 0), 0, 0, (Int.negSucc 1), 0, 0]), (24, [0, 2], [])]), (166, [(0, (2, 0, 0, [165])), (1, (0, 0, 2000, [])), (2, (0, 1, 1, [])), (3, (0, 48, 57, [])), (4, (0, 0, 1999, [])), (5, (0, 4, 4, [])), (6, (1, (Int.negSucc 9223372036854775807), 9223372036854775807, []))], [], (0, 0), [(0, 0, 99983), (2, 10, 0), (0, 0, 99834), (1, 9, 2000), (0, 0, 100000)], [(1, 3, (Int.negSucc 999999999999), 0), (3, 1, (Int.negSucc 999999999999), 0), (6, 9, (Int.negSucc 999999999999), 0)], [((0, 11), (0, 0, 2000, []))], [(2, 0, 0, [165]), (0, 0, 2000, [])], 0, [(0, 0, 4001, [])], [(20, [2, 6], [50, 3, 1, 157, 11, 10, 1, 2, 7, 0, 3, 2, 0, 157, 1, 1, 2, 7, 0, 2, 1, 1, 2, 0, 11, 3, 11, 0, 6, 4, 2, 1, 1, 0, 1, 2, 0, 11, 2, 7, 1, 3, 2, 0, 11, 1, 1, 2, 11, 0, 6, 4, 2, 1, 1, 0, 1, 2, 0, 10, 2, 13, 0, 2, 0, 48, 9, 5, 3, 0, 1, 1, 1, 0, 256, 0, 9, 9, 5, 3, 0, 1, 1, 1, 0, 256, 0, 57]), (20, [10, 6], [30, (Int.negSucc 4000), (Int.negSucc 0), 0, 0, (Int.negSucc 1), 0, 0]), (24, [0, 2], [])]), (250, [(0, (2, 0, 0, [165])), (1, (0, 0, 2000, [])), (2, (0, 1, 1, [])), (3, (0, 0, 255, [])), (4, (0, 0, 1999, [])), (5, (0, 4, 4, [])), (6, (1, 0, 255, []))], [], (0, 0), [(0, 0, 99983), (2, 10, 0), (0, 0, 99750), (0, 0, 0), (0, 0, 0)], [(1, 3, (Int.negSucc 999999999999), 0), (3, 1, (Int.negSucc 999999999999), 0), (6, 9, (Int.negSucc 999999999999), 0), (9, 6, (Int.negSucc 999999999999), 0)], [((0, 11), (0, 0, 1999, []))], [(2, 0, 0, [165]), (0, 0, 2000, [])], 0, [(0, 0, 4001, [])], [(20, [2, 6], [50, 2, 0, 157, 11, 2, 7, 0, 3, 2, 0, 157, 1, 1, 1, 3, 2, 0, 11, 1, 1]), (20, [10, 6], [30, (Int.negSucc 4000), (Int.negSucc 0), 0, 0, (Int.negSucc 1), 0, 0]), (24, [0, 2], [])]), (334, [(0, (2, 0, 0, [165])), (1, (0, 0, 2000, [])), (2, (0, 1, 1, [])), (3, (0, 40, 125, [])), (4, (0, 0, 1999, [])), (5, (0, 4, 4, [])), (6, (1, 0, 255, []))], [], (0, 0), [(0, 0, 99983), (2, 10, 0), (0, 0, 99666), (0, 0, 0), (0, 0, 0)], [(1, 3, (Int.negSucc 999999999999), 0), (3, 1, (Int.negSucc 999999999999), 0), (6, 9, (Int.negSucc 999999999999), 0), (9, 6, (Int.negSucc 999999999999), 0)], [((0, 11), (0, 0, 1999, []))], [(2, 0, 0, [165]), (0, 0, 2000, [])], 0, [(0, 0, 4001, [])], [(20, [2, 6], [50, 2, 0, 157, 11, 2, 7, 0, 3, 2, 0, 157, 1, 1, 1, 3, 2, 0, 11, 1, 1]), (20, [10, 6], [30, (Int.negSucc 4000), (Int.negSucc 0), 0, 0, (Int.negSucc 1), 0, 0]), (24, [0, 2], [])]), (339, [(0, (2, 0, 0, [165])), (1, (0, 0, 2000, [])), (2, (0, 1, 1, [])), (3, (0, 0, 255, [])), (4, (0, 0, 1999, [])), (5, (0, 4, 4, [])), (6, (1, 0, 255, []))], [(0, 0, 1, [])], (0, 0), [(0, 0, 99983), (2, 11, 0), (0, 0, 99661), (0, 0, 0), (0, 0, 0)], [(1, 3, (Int.negSucc 999999999999), 0), (3, 1, (Int.negSucc 999999999999), 0), (6, 10, (Int.negSucc 999999999999), 0), (9, 5, (Int.negSucc 999999999999), 0), (10, 6, (Int.negSucc 999999999999), 0)], [((0, 11), (0, 0, 1999, []))], [(2, 0, 0, [165]), (0, 0, 2000, [])], 0, [(0, 0, 4001, [])], [(20, [2, 6], [50, 2, 0, 157, 11, 2, 7, 0, 3, 2, 0, 157, 1, 1, 1, 3, 2, 0, 11, 1, 1]), (20, [11, 6], [30, (Int.negSucc 4000), (Int.negSucc 0), 0, 0, (Int.negSucc 1), 0, 0]), (24, [0, 2], [])]), (363, [(0, (2, 0, 0, [165])), (1, (0, 0, 2000, [])), (2, (0, 1, 1, [])), (3, (0, (Int.negSucc 0), 255, [])), (4, (0, 0, 2000, [])), (5, (0, 0, 4, [])), (6, (1, (Int.negSucc 9223372036854775807), 9223372036854775807, []))], [], (0, 0), [(0, 0, 99983), (2, 10, 0), (0, 0, 99637), (0, 0, 0), (0, 0, 0)], [(1, 3, (Int.negSucc 999999999999), 0), (3, 1, (Int.negSucc 999999999999), 0), (7, 5, (Int.negSucc 999999999999), 4)], [((0, 11), (0, 0, 2000, []))], [(2, 0, 0, [165]), (0, 0, 2000, [])], 0, [(0, 0, 4001, [])], [(20, [2, 6, 7], [50, 2, 0, 157, 11, 2, 7, 0, 3, 2, 0, 157, 1, 1, 2, 7, 0, 2, 1, 1, 2, 0, 11, 3, 6, 1, 2, 1, 2, 0, 0, 3, 6, 1, 2, 1, 2, 0, 4, 0, 6, 4, 2, 1, 1, 0, 1, 2, 0, 11]), (20, [10, 6], [30, (Int.negSucc 4000), (Int.negSucc 0), 0, 0, (Int.negSucc 1), 0, 0]), (24, [0, 2], [])])]
def t_Mo_styleTokens_ct : ct_L := [(0, 387, e_Mo_in), (0, 444, e_Mo_isDigit), (1, 425, e_Mo_byteAt)]
