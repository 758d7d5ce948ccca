set_option maxHeartbeats 4000000 in
theorem vc_Mo_writeGroup_at_l0_7_0 (x2 : Int) (x4 : Int) (x5 : Int) (x6 : Int) (x7 : Int) (x9 : Int) (x10 : Int) (x11 : Int) (x12 : Int) (x14 : Int) (x15 : Int) (all_0 : Int → Int) (r_0 : Int) (texts_0 : Int) (gx : Int) (k2 : 0 ≤ x2 ∧ x2 ≤ 87902919) (k4 : 0 ≤ x4 ∧ x4 ≤ 0) (k5 : 0 ≤ x5 ∧ x5 ≤ 23) (k6 : 1 ≤ x6 ∧ x6 ≤ 24) (k7 : 0 ≤ x7 ∧ x7 ≤ 0) (k9 : 0 ≤ x9 ∧ x9 ≤ 99999995) (k10 : 0 ≤ x10 ∧ x10 ≤ 99999992) (k11 : 2 ≤ x11 ∧ x11 ≤ 99) (k12 : 1 ≤ x12 ∧ x12 ≤ 1) (k14 : 0 ≤ x14 ∧ x14 ≤ 99999993) (k15 : 0 ≤ x15 ∧ x15 ≤ 99) (d0 : x6 + (-4294967296) ≤ x5 ∧ x5 ≤ x6 + (-1)) (f0 : x15 = all_0 (((r_0 + 219) + x5))) (f1 : 1 * x14 + ((-1) * x2 + ((-36) * x5 + 0)) ≤ 13) (f2 : x11 = all_0 (((r_0 + 219) + x5))) (f3 : 1 * x10 + ((-1) * x2 + ((-36) * x5 + 0)) ≤ 5) (f4 : 1 * x9 + ((-1) * x2 + ((-36) * x5 + 0)) ≤ 0) (f5 : x7 = all_0 (((r_0 + 243) + x5))) (f6 : 1 * x6 + ((-1) * all_0 (r_0 + 0) + 0) ≤ 0) (f7 : (-1) * x6 + (1 * all_0 (r_0 + 0) + 0) ≤ 0) (f9 : 1 * texts_0 + ((-1) * x14 + 0) ≤ 7) (f11 : 1 * x14 + ((-1) * x2 + ((-36) * x5 + 0)) ≤ 13) (f12 : x12 < x11) (f13 : 1 * x10 + ((-1) * x2 + ((-36) * x5 + 0)) ≤ 5) (f14 : 1 * x9 + ((-1) * x2 + ((-36) * x5 + 0)) ≤ 0) (f16 : 1 * x10 + ((-1) * x2 + ((-36) * x5 + 0)) ≤ 5) (f17 : 1 * x9 + ((-1) * x2 + ((-36) * x5 + 0)) ≤ 0) (f19 : 1 * x9 + ((-1) * x2 + ((-36) * x5 + 0)) ≤ 0) (f20 : x7 = x4) (f21 : x5 < x6) (kz_0_170 : 0 ≤ texts_0 ∧ texts_0 ≤ 100000000) (ex2 : gx = texts_0) (ex3 : 0 ≤ gx ∧ gx ≤ 99999987) : 1 * texts_0 + ((-1) * gx + 0) ≤ 0 := by
  first | assumption | omega | grind
set_option maxHeartbeats 4000000 in
theorem vc_Mo_writeGroup_at_l0_7_1 (x2 : Int) (x4 : Int) (x5 : Int) (x6 : Int) (x7 : Int) (x9 : Int) (x10 : Int) (x11 : Int) (x12 : Int) (x14 : Int) (x15 : Int) (all_0 : Int → Int) (r_0 : Int) (texts_0 : Int) (gx : Int) (k2 : 0 ≤ x2 ∧ x2 ≤ 87902919) (k4 : 0 ≤ x4 ∧ x4 ≤ 0) (k5 : 0 ≤ x5 ∧ x5 ≤ 23) (k6 : 1 ≤ x6 ∧ x6 ≤ 24) (k7 : 0 ≤ x7 ∧ x7 ≤ 0) (k9 : 0 ≤ x9 ∧ x9 ≤ 99999995) (k10 : 0 ≤ x10 ∧ x10 ≤ 99999992) (k11 : 2 ≤ x11 ∧ x11 ≤ 99) (k12 : 1 ≤ x12 ∧ x12 ≤ 1) (k14 : 0 ≤ x14 ∧ x14 ≤ 99999993) (k15 : 0 ≤ x15 ∧ x15 ≤ 99) (d0 : x6 + (-4294967296) ≤ x5 ∧ x5 ≤ x6 + (-1)) (f0 : x15 = all_0 (((r_0 + 219) + x5))) (f1 : 1 * x14 + ((-1) * x2 + ((-36) * x5 + 0)) ≤ 13) (f2 : x11 = all_0 (((r_0 + 219) + x5))) (f3 : 1 * x10 + ((-1) * x2 + ((-36) * x5 + 0)) ≤ 5) (f4 : 1 * x9 + ((-1) * x2 + ((-36) * x5 + 0)) ≤ 0) (f5 : x7 = all_0 (((r_0 + 243) + x5))) (f6 : 1 * x6 + ((-1) * all_0 (r_0 + 0) + 0) ≤ 0) (f7 : (-1) * x6 + (1 * all_0 (r_0 + 0) + 0) ≤ 0) (f9 : 1 * texts_0 + ((-1) * x14 + 0) ≤ 7) (f11 : 1 * x14 + ((-1) * x2 + ((-36) * x5 + 0)) ≤ 13) (f12 : x12 < x11) (f13 : 1 * x10 + ((-1) * x2 + ((-36) * x5 + 0)) ≤ 5) (f14 : 1 * x9 + ((-1) * x2 + ((-36) * x5 + 0)) ≤ 0) (f16 : 1 * x10 + ((-1) * x2 + ((-36) * x5 + 0)) ≤ 5) (f17 : 1 * x9 + ((-1) * x2 + ((-36) * x5 + 0)) ≤ 0) (f19 : 1 * x9 + ((-1) * x2 + ((-36) * x5 + 0)) ≤ 0) (f20 : x7 = x4) (f21 : x5 < x6) (kz_0_170 : 0 ≤ texts_0 ∧ texts_0 ≤ 100000000) (ex2 : gx = texts_0) (ex3 : 0 ≤ gx ∧ gx ≤ 99999987) : 1 * gx + ((-1) * x2 + ((-36) * x5 + 0)) ≤ 20 := by
  first | assumption | omega | grind
def o_Mo_writeGroup_at_l0_7 : or_T := (56, 16, [(0, (2, 0, 0, [165])), (2, (0, 0, 87902919, [])), (3, (2, 0, 0, [165])), (4, (0, 0, 0, [])), (5, (0, 0, 23, [])), (6, (0, 1, 24, [])), (7, (0, 0, 0, [])), (9, (0, 0, 99999995, [])), (10, (0, 0, 99999992, [])), (11, (0, 2, 99, [])), (12, (0, 1, 1, [])), (14, (0, 0, 99999993, [])), (15, (0, 0, 99, []))], [(20, [15, 3, 5], [50, 1, 1, 1005, 1002, 1, 2, 1, 0, 3, 1, 2, 4, 7, 4, 3, 2, 1, 5, 0, 219, 1, 2]), (23, [14, 2, 5], [13, 1, -1, -36]), (20, [11, 3, 5], [50, 1, 1, 1005, 1002, 1, 2, 1, 0, 3, 1, 2, 4, 7, 4, 3, 2, 1, 5, 0, 219, 1, 2]), (23, [10, 2, 5], [5, 1, -1, -36]), (23, [9, 2, 5], [0, 1, -1, -36]), (20, [7, 3, 5], [50, 1, 1, 1005, 1002, 1, 2, 1, 0, 3, 1, 2, 4, 7, 4, 3, 2, 1, 5, 0, 243, 1, 2]), (20, [6, 3], [30, 0, 1, 0, 0, -1, 3, 2005000]), (20, [6, 3], [30, 0, -1, 0, 0, 1, 3, 2005000]), (24, [0, 3], []), (20, [3, 14], [30, 7, 1, 1, 170, -1, 0, 0]), (102, [14], [7770675568902916283677847627294075626569627356208558085007249638955617140820833992704, 165170]), (23, [14, 2, 5], [13, 1, -1, -36]), (7, [11, 12], [4]), (23, [10, 2, 5], [5, 1, -1, -36]), (23, [9, 2, 5], [0, 1, -1, -36]), (102, [10], [7770675568902916283677847627294075626569627356208558085007249638955617140820833992704, 165170]), (23, [10, 2, 5], [5, 1, -1, -36]), (23, [9, 2, 5], [0, 1, -1, -36]), (102, [9], [7770675568902916283677847627294075626569627356208558085007249638955617140820833992704, 165170]), (23, [9, 2, 5], [0, 1, -1, -36]), (7, [7, 4], [0]), (7, [5, 6], [2])], [], [(0, 0, 99999987, [])], [(20, [3, 16], [30, 0, 1, 1, 170, -1, 0, 0]), (23, [16, 2, 5], [20, 1, -1, -36])], [], [(5, 6, -4294967296, -1)])
theorem oo_Mo_writeGroup_at_l0_7 {kA : Nat → ClassId} : or_ok PRD kA GG o_Mo_writeGroup_at_l0_7 := by
  refine or_mk fun A ta ws vs hD hth hl => ?_
  intro t0 r0 t2 k2 t3 r3 t4 k4 t5 k5 t6 k6 t7 k7 t9 k9 t10 k10 t11 k11 t12 k12 t14 k14 t15 k15 d0 f0 f1 f2 f3 f4 f5 f6 f7 f8 f9 ta1 w1 le1 s1 f11 f12 f13 f14 ta2 w2 le2 s2 f16 f17 ta3 w3 le3 s3 f19 f20 f21
  replace f0 := shm_718 f0
  replace f1 := shm_1911 f1
  replace f2 := shm_718 f2
  replace f3 := shm_1909 f3
  replace f4 := shm_1908 f4
  replace f5 := shm_585 f5
  replace f6 := shm_135 f6
  replace f7 := shm_136 f7
  replace f8 := shm_5 f8
  replace f9 := shm_233 f9
  replace f11 := shm_1911 f11
  replace f12 := shm_21 f12
  replace f13 := shm_1909 f13
  replace f14 := shm_1908 f14
  replace f16 := shm_1909 f16
  replace f17 := shm_1908 f17
  replace f19 := shm_1908 f19
  replace f20 := shm_37 f20
  replace f21 := shm_6 f21
  have q3 : n_v vs 3 = n_v vs 0 := f8.symm
  simp only [q3] at f0 f2 f5 f6 f7 f9
  have cr_0_2 := fdq_12 hD hth r0
  have br_0_2_F5_0_0 : w_ei ws (w_ar ws (n_v vs 0) 2) (w_fi ws (n_v vs 0) 5 + 0) = w_el ws (w_ar ws (n_v vs 0) 2) (w_fi ws (n_v vs 0) 5 + 0).toNat := rfl
  have kz_0_170 := fdq_13 hD hth r0
  have kv0 := fdq_13 hD hth r0
  obtain ⟨x, ex, hx⟩ := iv_ex (ta := ta) (lo := 0) (hi := 99999987) (z := w_fi ws (n_v vs 0) 170) (by omega) (by omega) (by omega) (by omega)
  have ex2 : v_iv (Value.int x) = w_fi ws (n_v vs 0) 170 := ex
  have ex3 : 0 ≤ v_iv (Value.int x) ∧ v_iv (Value.int x) ≤ 99999987 := tv_rng hx
  have e_2 : n_v (vs ++ [Value.int x]) 2 = n_v vs 2 := n_v_old (by rw [hl]; decide)
  have e_3 : n_v (vs ++ [Value.int x]) 3 = n_v vs 3 := n_v_old (by rw [hl]; decide)
  have e_5 : n_v (vs ++ [Value.int x]) 5 = n_v vs 5 := n_v_old (by rw [hl]; decide)
  have e_16 : n_v (vs ++ [Value.int x]) 16 = Value.int x := n_v_new hl
  have nf0 : fc_1 PRD (20, [3, 16], [30, 0, 1, 1, 170, -1, 0, 0]) ws (vs ++ [Value.int x]) := by
    refine ⟨nf_inA hl rfl, sgq_140 ?_⟩
    · show 1 * w_fi ws (n_v (vs ++ [Value.int x]) 3) 170 + ((-1) * v_iv (n_v (vs ++ [Value.int x]) 16) + 0) ≤ 0
      simp only [e_3, e_16, q3]
      exact vc_Mo_writeGroup_at_l0_7_0 (v_iv (n_v vs 2)) (v_iv (n_v vs 4)) (v_iv (n_v vs 5)) (v_iv (n_v vs 6)) (v_iv (n_v vs 7)) (v_iv (n_v vs 9)) (v_iv (n_v vs 10)) (v_iv (n_v vs 11)) (v_iv (n_v vs 12)) (v_iv (n_v vs 14)) (v_iv (n_v vs 15)) (w_ei ws (w_ar ws (n_v vs 0) 2)) (w_fi ws (n_v vs 0) 5) (w_fi ws (n_v vs 0) 170) (v_iv (Value.int x)) k2 k4 k5 k6 k7 k9 k10 k11 k12 k14 k15 d0 f0 f1 f2 f3 f4 f5 f6 f7 f9 f11 f12 f13 f14 f16 f17 f19 f20 f21 kz_0_170 ex2 ex3
  have nf1 : fc_1 PRD (23, [16, 2, 5], [20, 1, -1, -36]) ws (vs ++ [Value.int x]) := by
    refine ⟨nf_inA hl rfl, sgq_1912 ?_⟩
    · show 1 * v_iv (n_v (vs ++ [Value.int x]) 16) + ((-1) * v_iv (n_v (vs ++ [Value.int x]) 2) + ((-36) * v_iv (n_v (vs ++ [Value.int x]) 5) + 0)) ≤ 20
      simp only [e_2, e_5, e_16]
      exact vc_Mo_writeGroup_at_l0_7_1 (v_iv (n_v vs 2)) (v_iv (n_v vs 4)) (v_iv (n_v vs 5)) (v_iv (n_v vs 6)) (v_iv (n_v vs 7)) (v_iv (n_v vs 9)) (v_iv (n_v vs 10)) (v_iv (n_v vs 11)) (v_iv (n_v vs 12)) (v_iv (n_v vs 14)) (v_iv (n_v vs 15)) (w_ei ws (w_ar ws (n_v vs 0) 2)) (w_fi ws (n_v vs 0) 5) (w_fi ws (n_v vs 0) 170) (v_iv (Value.int x)) k2 k4 k5 k6 k7 k9 k10 k11 k12 k14 k15 d0 f0 f1 f2 f3 f4 f5 f6 f7 f9 f11 f12 f13 f14 f16 f17 f19 f20 f21 kz_0_170 ex2 ex3
  exact ⟨(fun _ h => (by cases h)), [Value.int x], ag_one hx, List.forall_mem_cons.mpr ⟨⟨show (20 : Nat) < 100 from by decide, nf0⟩, List.forall_mem_cons.mpr ⟨⟨show (23 : Nat) < 100 from by decide, nf1⟩, (fun _ h => (by cases h))⟩⟩, (fun _ h => (by cases h))⟩
set_option maxHeartbeats 4000000 in
theorem vc_Mo_writeGroup_at_l0_8_0 (x2 : Int) (x4 : Int) (x5 : Int) (x6 : Int) (x7 : Int) (x9 : Int) (x10 : Int) (x11 : Int) (x12 : Int) (x14 : Int) (x15 : Int) (x16 : Int) (all_0 : Int → Int) (r_0 : Int) (texts_0 : Int) (gx : Int) (k2 : 0 ≤ x2 ∧ x2 ≤ 87902919) (k4 : 0 ≤ x4 ∧ x4 ≤ 0) (k5 : 0 ≤ x5 ∧ x5 ≤ 23) (k6 : 1 ≤ x6 ∧ x6 ≤ 24) (k7 : 0 ≤ x7 ∧ x7 ≤ 0) (k9 : 0 ≤ x9 ∧ x9 ≤ 99999995) (k10 : 0 ≤ x10 ∧ x10 ≤ 99999992) (k11 : 2 ≤ x11 ∧ x11 ≤ 99) (k12 : 1 ≤ x12 ∧ x12 ≤ 1) (k14 : 0 ≤ x14 ∧ x14 ≤ 99999993) (k15 : 0 ≤ x15 ∧ x15 ≤ 99) (k16 : 0 ≤ x16 ∧ x16 ≤ 99999987) (d0 : x6 + (-4294967296) ≤ x5 ∧ x5 ≤ x6 + (-1)) (f0 : 1 * x16 + ((-1) * x2 + ((-36) * x5 + 0)) ≤ 20) (f1 : x15 = all_0 (((r_0 + 219) + x5))) (f2 : 1 * x14 + ((-1) * x2 + ((-36) * x5 + 0)) ≤ 13) (f3 : x11 = all_0 (((r_0 + 219) + x5))) (f4 : 1 * x10 + ((-1) * x2 + ((-36) * x5 + 0)) ≤ 5) (f5 : 1 * x9 + ((-1) * x2 + ((-36) * x5 + 0)) ≤ 0) (f6 : x7 = all_0 (((r_0 + 243) + x5))) (f7 : 1 * x6 + ((-1) * all_0 (r_0 + 0) + 0) ≤ 0) (f8 : (-1) * x6 + (1 * all_0 (r_0 + 0) + 0) ≤ 0) (f10 : 1 * texts_0 + ((-1) * x16 + 0) ≤ 13) (f12 : 1 * x16 + ((-1) * x2 + ((-36) * x5 + 0)) ≤ 20) (f13 : 1 * x14 + ((-1) * x2 + ((-36) * x5 + 0)) ≤ 13) (f14 : 1 * x10 + ((-1) * x2 + ((-36) * x5 + 0)) ≤ 5) (f15 : 1 * x9 + ((-1) * x2 + ((-36) * x5 + 0)) ≤ 0) (f17 : 1 * x14 + ((-1) * x2 + ((-36) * x5 + 0)) ≤ 13) (f18 : x12 < x11) (f19 : 1 * x10 + ((-1) * x2 + ((-36) * x5 + 0)) ≤ 5) (f20 : 1 * x9 + ((-1) * x2 + ((-36) * x5 + 0)) ≤ 0) (f22 : 1 * x10 + ((-1) * x2 + ((-36) * x5 + 0)) ≤ 5) (f23 : 1 * x9 + ((-1) * x2 + ((-36) * x5 + 0)) ≤ 0) (f25 : 1 * x9 + ((-1) * x2 + ((-36) * x5 + 0)) ≤ 0) (f26 : x7 = x4) (f27 : x5 < x6) (kz_0_170 : 0 ≤ texts_0 ∧ texts_0 ≤ 100000000) (ex2 : gx = texts_0) (ex3 : 0 ≤ gx ∧ gx ≤ 99999999) : 1 * texts_0 + ((-1) * gx + 0) ≤ 0 := by
  first | assumption | omega | grind
set_option maxHeartbeats 4000000 in
theorem vc_Mo_writeGroup_at_l0_8_1 (x2 : Int) (x4 : Int) (x5 : Int) (x6 : Int) (x7 : Int) (x9 : Int) (x10 : Int) (x11 : Int) (x12 : Int) (x14 : Int) (x15 : Int) (x16 : Int) (all_0 : Int → Int) (r_0 : Int) (texts_0 : Int) (gx : Int) (k2 : 0 ≤ x2 ∧ x2 ≤ 87902919) (k4 : 0 ≤ x4 ∧ x4 ≤ 0) (k5 : 0 ≤ x5 ∧ x5 ≤ 23) (k6 : 1 ≤ x6 ∧ x6 ≤ 24) (k7 : 0 ≤ x7 ∧ x7 ≤ 0) (k9 : 0 ≤ x9 ∧ x9 ≤ 99999995) (k10 : 0 ≤ x10 ∧ x10 ≤ 99999992) (k11 : 2 ≤ x11 ∧ x11 ≤ 99) (k12 : 1 ≤ x12 ∧ x12 ≤ 1) (k14 : 0 ≤ x14 ∧ x14 ≤ 99999993) (k15 : 0 ≤ x15 ∧ x15 ≤ 99) (k16 : 0 ≤ x16 ∧ x16 ≤ 99999987) (d0 : x6 + (-4294967296) ≤ x5 ∧ x5 ≤ x6 + (-1)) (f0 : 1 * x16 + ((-1) * x2 + ((-36) * x5 + 0)) ≤ 20) (f1 : x15 = all_0 (((r_0 + 219) + x5))) (f2 : 1 * x14 + ((-1) * x2 + ((-36) * x5 + 0)) ≤ 13) (f3 : x11 = all_0 (((r_0 + 219) + x5))) (f4 : 1 * x10 + ((-1) * x2 + ((-36) * x5 + 0)) ≤ 5) (f5 : 1 * x9 + ((-1) * x2 + ((-36) * x5 + 0)) ≤ 0) (f6 : x7 = all_0 (((r_0 + 243) + x5))) (f7 : 1 * x6 + ((-1) * all_0 (r_0 + 0) + 0) ≤ 0) (f8 : (-1) * x6 + (1 * all_0 (r_0 + 0) + 0) ≤ 0) (f10 : 1 * texts_0 + ((-1) * x16 + 0) ≤ 13) (f12 : 1 * x16 + ((-1) * x2 + ((-36) * x5 + 0)) ≤ 20) (f13 : 1 * x14 + ((-1) * x2 + ((-36) * x5 + 0)) ≤ 13) (f14 : 1 * x10 + ((-1) * x2 + ((-36) * x5 + 0)) ≤ 5) (f15 : 1 * x9 + ((-1) * x2 + ((-36) * x5 + 0)) ≤ 0) (f17 : 1 * x14 + ((-1) * x2 + ((-36) * x5 + 0)) ≤ 13) (f18 : x12 < x11) (f19 : 1 * x10 + ((-1) * x2 + ((-36) * x5 + 0)) ≤ 5) (f20 : 1 * x9 + ((-1) * x2 + ((-36) * x5 + 0)) ≤ 0) (f22 : 1 * x10 + ((-1) * x2 + ((-36) * x5 + 0)) ≤ 5) (f23 : 1 * x9 + ((-1) * x2 + ((-36) * x5 + 0)) ≤ 0) (f25 : 1 * x9 + ((-1) * x2 + ((-36) * x5 + 0)) ≤ 0) (f26 : x7 = x4) (f27 : x5 < x6) (kz_0_170 : 0 ≤ texts_0 ∧ texts_0 ≤ 100000000) (ex2 : gx = texts_0) (ex3 : 0 ≤ gx ∧ gx ≤ 99999999) : 1 * gx + ((-1) * x2 + ((-36) * x5 + 0)) ≤ 33 := by
  first | assumption | omega | grind
def o_Mo_writeGroup_at_l0_8 : or_T := (63, 18, [(0, (2, 0, 0, [165])), (2, (0, 0, 87902919, [])), (3, (2, 0, 0, [165])), (4, (0, 0, 0, [])), (5, (0, 0, 23, [])), (6, (0, 1, 24, [])), (7, (0, 0, 0, [])), (9, (0, 0, 99999995, [])), (10, (0, 0, 99999992, [])), (11, (0, 2, 99, [])), (12, (0, 1, 1, [])), (14, (0, 0, 99999993, [])), (15, (0, 0, 99, [])), (16, (0, 0, 99999987, []))], [(23, [16, 2, 5], [20, 1, -1, -36]), (20, [15, 3, 5], [50, 1, 1, 1005, 1002, 1, 2, 1, 0, 3, 1, 2, 4, 7, 4, 3, 2, 1, 5, 0, 219, 1, 2]), (23, [14, 2, 5], [13, 1, -1, -36]), (20, [11, 3, 5], [50, 1, 1, 1005, 1002, 1, 2, 1, 0, 3, 1, 2, 4, 7, 4, 3, 2, 1, 5, 0, 219, 1, 2]), (23, [10, 2, 5], [5, 1, -1, -36]), (23, [9, 2, 5], [0, 1, -1, -36]), (20, [7, 3, 5], [50, 1, 1, 1005, 1002, 1, 2, 1, 0, 3, 1, 2, 4, 7, 4, 3, 2, 1, 5, 0, 243, 1, 2]), (20, [6, 3], [30, 0, 1, 0, 0, -1, 3, 2005000]), (20, [6, 3], [30, 0, -1, 0, 0, 1, 3, 2005000]), (24, [0, 3], []), (20, [3, 16], [30, 13, 1, 1, 170, -1, 0, 0]), (102, [16], [7770675568902916283677847627294075626569627356208558085007249638955617140820833992704, 165170]), (23, [16, 2, 5], [20, 1, -1, -36]), (23, [14, 2, 5], [13, 1, -1, -36]), (23, [10, 2, 5], [5, 1, -1, -36]), (23, [9, 2, 5], [0, 1, -1, -36]), (102, [14], [7770675568902916283677847627294075626569627356208558085007249638955617140820833992704, 165170]), (23, [14, 2, 5], [13, 1, -1, -36]), (7, [11, 12], [4]), (23, [10, 2, 5], [5, 1, -1, -36]), (23, [9, 2, 5], [0, 1, -1, -36]), (102, [10], [7770675568902916283677847627294075626569627356208558085007249638955617140820833992704, 165170]), (23, [10, 2, 5], [5, 1, -1, -36]), (23, [9, 2, 5], [0, 1, -1, -36]), (102, [9], [7770675568902916283677847627294075626569627356208558085007249638955617140820833992704, 165170]), (23, [9, 2, 5], [0, 1, -1, -36]), (7, [7, 4], [0]), (7, [5, 6], [2])], [], [(0, 0, 99999999, [])], [(20, [3, 18], [30, 0, 1, 1, 170, -1, 0, 0]), (23, [18, 2, 5], [33, 1, -1, -36])], [], [(5, 6, -4294967296, -1)])
theorem oo_Mo_writeGroup_at_l0_8 {kA : Nat → ClassId} : or_ok PRD kA GG o_Mo_writeGroup_at_l0_8 := by
  refine or_mk fun A ta ws vs hD hth hl => ?_
  intro t0 r0 t2 k2 t3 r3 t4 k4 t5 k5 t6 k6 t7 k7 t9 k9 t10 k10 t11 k11 t12 k12 t14 k14 t15 k15 t16 k16 d0 f0 f1 f2 f3 f4 f5 f6 f7 f8 f9 f10 ta1 w1 le1 s1 f12 f13 f14 f15 ta2 w2 le2 s2 f17 f18 f19 f20 ta3 w3 le3 s3 f22 f23 ta4 w4 le4 s4 f25 f26 f27
  replace f0 := shm_1912 f0
  replace f1 := shm_718 f1
  replace f2 := shm_1911 f2
  replace f3 := shm_718 f3
  replace f4 := shm_1909 f4
  replace f5 := shm_1908 f5
  replace f6 := shm_585 f6
  replace f7 := shm_135 f7
  replace f8 := shm_136 f8
  replace f9 := shm_5 f9
  replace f10 := shm_1026 f10
  replace f12 := shm_1912 f12
  replace f13 := shm_1911 f13
  replace f14 := shm_1909 f14
  replace f15 := shm_1908 f15
  replace f17 := shm_1911 f17
  replace f18 := shm_21 f18
  replace f19 := shm_1909 f19
  replace f20 := shm_1908 f20
  replace f22 := shm_1909 f22
  replace f23 := shm_1908 f23
  replace f25 := shm_1908 f25
  replace f26 := shm_37 f26
  replace f27 := shm_6 f27
  have q3 : n_v vs 3 = n_v vs 0 := f9.symm
  simp only [q3] at f1 f3 f6 f7 f8 f10
  have cr_0_2 := fdq_12 hD hth r0
  have br_0_2_F5_0_0 : w_ei ws (w_ar ws (n_v vs 0) 2) (w_fi ws (n_v vs 0) 5 + 0) = w_el ws (w_ar ws (n_v vs 0) 2) (w_fi ws (n_v vs 0) 5 + 0).toNat := rfl
  have kz_0_170 := fdq_13 hD hth r0
  have kv0 := fdq_13 hD hth r0
  obtain ⟨x, ex, hx⟩ := iv_ex (ta := ta) (lo := 0) (hi := 99999999) (z := w_fi ws (n_v vs 0) 170) (by omega) (by omega) (by omega) (by omega)
  have ex2 : v_iv (Value.int x) = w_fi ws (n_v vs 0) 170 := ex
  have ex3 : 0 ≤ v_iv (Value.int x) ∧ v_iv (Value.int x) ≤ 99999999 := tv_rng hx
  have e_2 : n_v (vs ++ [Value.int x]) 2 = n_v vs 2 := n_v_old (by rw [hl]; decide)
  have e_3 : n_v (vs ++ [Value.int x]) 3 = n_v vs 3 := n_v_old (by rw [hl]; decide)
  have e_5 : n_v (vs ++ [Value.int x]) 5 = n_v vs 5 := n_v_old (by rw [hl]; decide)
  have e_18 : n_v (vs ++ [Value.int x]) 18 = Value.int x := n_v_new hl
  have nf0 : fc_1 PRD (20, [3, 18], [30, 0, 1, 1, 170, -1, 0, 0]) ws (vs ++ [Value.int x]) := by
    refine ⟨nf_inA hl rfl, sgq_140 ?_⟩
    · show 1 * w_fi ws (n_v (vs ++ [Value.int x]) 3) 170 + ((-1) * v_iv (n_v (vs ++ [Value.int x]) 18) + 0) ≤ 0
      simp only [e_3, e_18, q3]
      exact vc_Mo_writeGroup_at_l0_8_0 (v_iv (n_v vs 2)) (v_iv (n_v vs 4)) (v_iv (n_v vs 5)) (v_iv (n_v vs 6)) (v_iv (n_v vs 7)) (v_iv (n_v vs 9)) (v_iv (n_v vs 10)) (v_iv (n_v vs 11)) (v_iv (n_v vs 12)) (v_iv (n_v vs 14)) (v_iv (n_v vs 15)) (v_iv (n_v vs 16)) (w_ei ws (w_ar ws (n_v vs 0) 2)) (w_fi ws (n_v vs 0) 5) (w_fi ws (n_v vs 0) 170) (v_iv (Value.int x)) k2 k4 k5 k6 k7 k9 k10 k11 k12 k14 k15 k16 d0 f0 f1 f2 f3 f4 f5 f6 f7 f8 f10 f12 f13 f14 f15 f17 f18 f19 f20 f22 f23 f25 f26 f27 kz_0_170 ex2 ex3
  have nf1 : fc_1 PRD (23, [18, 2, 5], [33, 1, -1, -36]) ws (vs ++ [Value.int x]) := by
    refine ⟨nf_inA hl rfl, sgq_1913 ?_⟩
    · show 1 * v_iv (n_v (vs ++ [Value.int x]) 18) + ((-1) * v_iv (n_v (vs ++ [Value.int x]) 2) + ((-36) * v_iv (n_v (vs ++ [Value.int x]) 5) + 0)) ≤ 33
      simp only [e_2, e_5, e_18]
      exact vc_Mo_writeGroup_at_l0_8_1 (v_iv (n_v vs 2)) (v_iv (n_v vs 4)) (v_iv (n_v vs 5)) (v_iv (n_v vs 6)) (v_iv (n_v vs 7)) (v_iv (n_v vs 9)) (v_iv (n_v vs 10)) (v_iv (n_v vs 11)) (v_iv (n_v vs 12)) (v_iv (n_v vs 14)) (v_iv (n_v vs 15)) (v_iv (n_v vs 16)) (w_ei ws (w_ar ws (n_v vs 0) 2)) (w_fi ws (n_v vs 0) 5) (w_fi ws (n_v vs 0) 170) (v_iv (Value.int x)) k2 k4 k5 k6 k7 k9 k10 k11 k12 k14 k15 k16 d0 f0 f1 f2 f3 f4 f5 f6 f7 f8 f10 f12 f13 f14 f15 f17 f18 f19 f20 f22 f23 f25 f26 f27 kz_0_170 ex2 ex3
  exact ⟨(fun _ h => (by cases h)), [Value.int x], ag_one hx, List.forall_mem_cons.mpr ⟨⟨show (20 : Nat) < 100 from by decide, nf0⟩, List.forall_mem_cons.mpr ⟨⟨show (23 : Nat) < 100 from by decide, nf1⟩, (fun _ h => (by cases h))⟩⟩, (fun _ h => (by cases h))⟩
set_option maxHeartbeats 4000000 in
theorem vc_Mo_writeGroup_at_l0_9_0 (x2 : Int) (x4 : Int) (x5 : Int) (x6 : Int) (x7 : Int) (x9 : Int) (x10 : Int) (x11 : Int) (x12 : Int) (x14 : Int) (x15 : Int) (x16 : Int) (x18 : Int) (all_0 : Int → Int) (r_0 : Int) (texts_0 : Int) (gx : Int) (k2 : 0 ≤ x2 ∧ x2 ≤ 87902919) (k4 : 0 ≤ x4 ∧ x4 ≤ 0) (k5 : 0 ≤ x5 ∧ x5 ≤ 23) (k6 : 1 ≤ x6 ∧ x6 ≤ 24) (k7 : 0 ≤ x7 ∧ x7 ≤ 0) (k9 : 0 ≤ x9 ∧ x9 ≤ 99999995) (k10 : 0 ≤ x10 ∧ x10 ≤ 99999992) (k11 : 2 ≤ x11 ∧ x11 ≤ 99) (k12 : 1 ≤ x12 ∧ x12 ≤ 1) (k14 : 0 ≤ x14 ∧ x14 ≤ 99999993) (k15 : 0 ≤ x15 ∧ x15 ≤ 99) (k16 : 0 ≤ x16 ∧ x16 ≤ 99999987) (k18 : 0 ≤ x18 ∧ x18 ≤ 99999999) (d0 : x6 + (-4294967296) ≤ x5 ∧ x5 ≤ x6 + (-1)) (f0 : 1 * x18 + ((-1) * x2 + ((-36) * x5 + 0)) ≤ 33) (f1 : 1 * x16 + ((-1) * x2 + ((-36) * x5 + 0)) ≤ 20) (f2 : x15 = all_0 (((r_0 + 219) + x5))) (f3 : 1 * x14 + ((-1) * x2 + ((-36) * x5 + 0)) ≤ 13) (f4 : x11 = all_0 (((r_0 + 219) + x5))) (f5 : 1 * x10 + ((-1) * x2 + ((-36) * x5 + 0)) ≤ 5) (f6 : 1 * x9 + ((-1) * x2 + ((-36) * x5 + 0)) ≤ 0) (f7 : x7 = all_0 (((r_0 + 243) + x5))) (f8 : 1 * x6 + ((-1) * all_0 (r_0 + 0) + 0) ≤ 0) (f9 : (-1) * x6 + (1 * all_0 (r_0 + 0) + 0) ≤ 0) (f11 : 1 * texts_0 + ((-1) * x18 + 0) ≤ 1) (f13 : 1 * x18 + ((-1) * x2 + ((-36) * x5 + 0)) ≤ 33) (f14 : 1 * x16 + ((-1) * x2 + ((-36) * x5 + 0)) ≤ 20) (f15 : 1 * x14 + ((-1) * x2 + ((-36) * x5 + 0)) ≤ 13) (f16 : 1 * x10 + ((-1) * x2 + ((-36) * x5 + 0)) ≤ 5) (f17 : 1 * x9 + ((-1) * x2 + ((-36) * x5 + 0)) ≤ 0) (f19 : 1 * x16 + ((-1) * x2 + ((-36) * x5 + 0)) ≤ 20) (f20 : 1 * x14 + ((-1) * x2 + ((-36) * x5 + 0)) ≤ 13) (f21 : 1 * x10 + ((-1) * x2 + ((-36) * x5 + 0)) ≤ 5) (f22 : 1 * x9 + ((-1) * x2 + ((-36) * x5 + 0)) ≤ 0) (f24 : 1 * x14 + ((-1) * x2 + ((-36) * x5 + 0)) ≤ 13) (f25 : x12 < x11) (f26 : 1 * x10 + ((-1) * x2 + ((-36) * x5 + 0)) ≤ 5) (f27 : 1 * x9 + ((-1) * x2 + ((-36) * x5 + 0)) ≤ 0) (f29 : 1 * x10 + ((-1) * x2 + ((-36) * x5 + 0)) ≤ 5) (f30 : 1 * x9 + ((-1) * x2 + ((-36) * x5 + 0)) ≤ 0) (f32 : 1 * x9 + ((-1) * x2 + ((-36) * x5 + 0)) ≤ 0) (f33 : x7 = x4) (f34 : x5 < x6) (kz_0_170 : 0 ≤ texts_0 ∧ texts_0 ≤ 100000000) (ex2 : gx = texts_0) (ex3 : 0 ≤ gx ∧ gx ≤ 99999998) : 1 * texts_0 + ((-1) * gx + 0) ≤ 0 := by
  first | assumption | omega | grind
set_option maxHeartbeats 4000000 in
theorem vc_Mo_writeGroup_at_l0_9_1 (x2 : Int) (x4 : Int) (x5 : Int) (x6 : Int) (x7 : Int) (x9 : Int) (x10 : Int) (x11 : Int) (x12 : Int) (x14 : Int) (x15 : Int) (x16 : Int) (x18 : Int) (all_0 : Int → Int) (r_0 : Int) (texts_0 : Int) (gx : Int) (k2 : 0 ≤ x2 ∧ x2 ≤ 87902919) (k4 : 0 ≤ x4 ∧ x4 ≤ 0) (k5 : 0 ≤ x5 ∧ x5 ≤ 23) (k6 : 1 ≤ x6 ∧ x6 ≤ 24) (k7 : 0 ≤ x7 ∧ x7 ≤ 0) (k9 : 0 ≤ x9 ∧ x9 ≤ 99999995) (k10 : 0 ≤ x10 ∧ x10 ≤ 99999992) (k11 : 2 ≤ x11 ∧ x11 ≤ 99) (k12 : 1 ≤ x12 ∧ x12 ≤ 1) (k14 : 0 ≤ x14 ∧ x14 ≤ 99999993) (k15 : 0 ≤ x15 ∧ x15 ≤ 99) (k16 : 0 ≤ x16 ∧ x16 ≤ 99999987) (k18 : 0 ≤ x18 ∧ x18 ≤ 99999999) (d0 : x6 + (-4294967296) ≤ x5 ∧ x5 ≤ x6 + (-1)) (f0 : 1 * x18 + ((-1) * x2 + ((-36) * x5 + 0)) ≤ 33) (f1 : 1 * x16 + ((-1) * x2 + ((-36) * x5 + 0)) ≤ 20) (f2 : x15 = all_0 (((r_0 + 219) + x5))) (f3 : 1 * x14 + ((-1) * x2 + ((-36) * x5 + 0)) ≤ 13) (f4 : x11 = all_0 (((r_0 + 219) + x5))) (f5 : 1 * x10 + ((-1) * x2 + ((-36) * x5 + 0)) ≤ 5) (f6 : 1 * x9 + ((-1) * x2 + ((-36) * x5 + 0)) ≤ 0) (f7 : x7 = all_0 (((r_0 + 243) + x5))) (f8 : 1 * x6 + ((-1) * all_0 (r_0 + 0) + 0) ≤ 0) (f9 : (-1) * x6 + (1 * all_0 (r_0 + 0) + 0) ≤ 0) (f11 : 1 * texts_0 + ((-1) * x18 + 0) ≤ 1) (f13 : 1 * x18 + ((-1) * x2 + ((-36) * x5 + 0)) ≤ 33) (f14 : 1 * x16 + ((-1) * x2 + ((-36) * x5 + 0)) ≤ 20) (f15 : 1 * x14 + ((-1) * x2 + ((-36) * x5 + 0)) ≤ 13) (f16 : 1 * x10 + ((-1) * x2 + ((-36) * x5 + 0)) ≤ 5) (f17 : 1 * x9 + ((-1) * x2 + ((-36) * x5 + 0)) ≤ 0) (f19 : 1 * x16 + ((-1) * x2 + ((-36) * x5 + 0)) ≤ 20) (f20 : 1 * x14 + ((-1) * x2 + ((-36) * x5 + 0)) ≤ 13) (f21 : 1 * x10 + ((-1) * x2 + ((-36) * x5 + 0)) ≤ 5) (f22 : 1 * x9 + ((-1) * x2 + ((-36) * x5 + 0)) ≤ 0) (f24 : 1 * x14 + ((-1) * x2 + ((-36) * x5 + 0)) ≤ 13) (f25 : x12 < x11) (f26 : 1 * x10 + ((-1) * x2 + ((-36) * x5 + 0)) ≤ 5) (f27 : 1 * x9 + ((-1) * x2 + ((-36) * x5 + 0)) ≤ 0) (f29 : 1 * x10 + ((-1) * x2 + ((-36) * x5 + 0)) ≤ 5) (f30 : 1 * x9 + ((-1) * x2 + ((-36) * x5 + 0)) ≤ 0) (f32 : 1 * x9 + ((-1) * x2 + ((-36) * x5 + 0)) ≤ 0) (f33 : x7 = x4) (f34 : x5 < x6) (kz_0_170 : 0 ≤ texts_0 ∧ texts_0 ≤ 100000000) (ex2 : gx = texts_0) (ex3 : 0 ≤ gx ∧ gx ≤ 99999998) : 1 * gx + ((-1) * x2 + ((-36) * x5 + 0)) ≤ 34 := by
  first | assumption | omega | grind
def o_Mo_writeGroup_at_l0_9 : or_T := (70, 20, [(0, (2, 0, 0, [165])), (2, (0, 0, 87902919, [])), (3, (2, 0, 0, [165])), (4, (0, 0, 0, [])), (5, (0, 0, 23, [])), (6, (0, 1, 24, [])), (7, (0, 0, 0, [])), (9, (0, 0, 99999995, [])), (10, (0, 0, 99999992, [])), (11, (0, 2, 99, [])), (12, (0, 1, 1, [])), (14, (0, 0, 99999993, [])), (15, (0, 0, 99, [])), (16, (0, 0, 99999987, [])), (18, (0, 0, 99999999, []))], [(23, [18, 2, 5], [33, 1, -1, -36]), (23, [16, 2, 5], [20, 1, -1, -36]), (20, [15, 3, 5], [50, 1, 1, 1005, 1002, 1, 2, 1, 0, 3, 1, 2, 4, 7, 4, 3, 2, 1, 5, 0, 219, 1, 2]), (23, [14, 2, 5], [13, 1, -1, -36]), (20, [11, 3, 5], [50, 1, 1, 1005, 1002, 1, 2, 1, 0, 3, 1, 2, 4, 7, 4, 3, 2, 1, 5, 0, 219, 1, 2]), (23, [10, 2, 5], [5, 1, -1, -36]), (23, [9, 2, 5], [0, 1, -1, -36]), (20, [7, 3, 5], [50, 1, 1, 1005, 1002, 1, 2, 1, 0, 3, 1, 2, 4, 7, 4, 3, 2, 1, 5, 0, 243, 1, 2]), (20, [6, 3], [30, 0, 1, 0, 0, -1, 3, 2005000]), (20, [6, 3], [30, 0, -1, 0, 0, 1, 3, 2005000]), (24, [0, 3], []), (20, [3, 18], [30, 1, 1, 1, 170, -1, 0, 0]), (102, [18], [7770675568902916283677847627294075626569627356208558085007249638955617140820833992704, 165170]), (23, [18, 2, 5], [33, 1, -1, -36]), (23, [16, 2, 5], [20, 1, -1, -36]), (23, [14, 2, 5], [13, 1, -1, -36]), (23, [10, 2, 5], [5, 1, -1, -36]), (23, [9, 2, 5], [0, 1, -1, -36]), (102, [16], [7770675568902916283677847627294075626569627356208558085007249638955617140820833992704, 165170]), (23, [16, 2, 5], [20, 1, -1, -36]), (23, [14, 2, 5], [13, 1, -1, -36]), (23, [10, 2, 5], [5, 1, -1, -36]), (23, [9, 2, 5], [0, 1, -1, -36]), (102, [14], [7770675568902916283677847627294075626569627356208558085007249638955617140820833992704, 165170]), (23, [14, 2, 5], [13, 1, -1, -36]), (7, [11, 12], [4]), (23, [10, 2, 5], [5, 1, -1, -36]), (23, [9, 2, 5], [0, 1, -1, -36]), (102, [10], [7770675568902916283677847627294075626569627356208558085007249638955617140820833992704, 165170]), (23, [10, 2, 5], [5, 1, -1, -36]), (23, [9, 2, 5], [0, 1, -1, -36]), (102, [9], [7770675568902916283677847627294075626569627356208558085007249638955617140820833992704, 165170]), (23, [9, 2, 5], [0, 1, -1, -36]), (7, [7, 4], [0]), (7, [5, 6], [2])], [], [(0, 0, 99999998, [])], [(20, [3, 20], [30, 0, 1, 1, 170, -1, 0, 0]), (23, [20, 2, 5], [34, 1, -1, -36])], [], [(5, 6, -4294967296, -1)])
theorem oo_Mo_writeGroup_at_l0_9 {kA : Nat → ClassId} : or_ok PRD kA GG o_Mo_writeGroup_at_l0_9 := by
  refine or_mk fun A ta ws vs hD hth hl => ?_
  intro t0 r0 t2 k2 t3 r3 t4 k4 t5 k5 t6 k6 t7 k7 t9 k9 t10 k10 t11 k11 t12 k12 t14 k14 t15 k15 t16 k16 t18 k18 d0 f0 f1 f2 f3 f4 f5 f6 f7 f8 f9 f10 f11 ta1 w1 le1 s1 f13 f14 f15 f16 f17 ta2 w2 le2 s2 f19 f20 f21 f22 ta3 w3 le3 s3 f24 f25 f26 f27 ta4 w4 le4 s4 f29 f30 ta5 w5 le5 s5 f32 f33 f34
  replace f0 := shm_1913 f0
  replace f1 := shm_1912 f1
  replace f2 := shm_718 f2
  replace f3 := shm_1911 f3
  replace f4 := shm_718 f4
  replace f5 := shm_1909 f5
  replace f6 := shm_1908 f6
  replace f7 := shm_585 f7
  replace f8 := shm_135 f8
  replace f9 := shm_136 f9
  replace f10 := shm_5 f10
  replace f11 := shm_141 f11
  replace f13 := shm_1913 f13
  replace f14 := shm_1912 f14
  replace f15 := shm_1911 f15
  replace f16 := shm_1909 f16
  replace f17 := shm_1908 f17
  replace f19 := shm_1912 f19
  replace f20 := shm_1911 f20
  replace f21 := shm_1909 f21
  replace f22 := shm_1908 f22
  replace f24 := shm_1911 f24
  replace f25 := shm_21 f25
  replace f26 := shm_1909 f26
  replace f27 := shm_1908 f27
  replace f29 := shm_1909 f29
  replace f30 := shm_1908 f30
  replace f32 := shm_1908 f32
  replace f33 := shm_37 f33
  replace f34 := shm_6 f34
  have q3 : n_v vs 3 = n_v vs 0 := f10.symm
  simp only [q3] at f2 f4 f7 f8 f9 f11
  have cr_0_2 := fdq_12 hD hth r0
  have br_0_2_F5_0_0 : w_ei ws (w_ar ws (n_v vs 0) 2) (w_fi ws (n_v vs 0) 5 + 0) = w_el ws (w_ar ws (n_v vs 0) 2) (w_fi ws (n_v vs 0) 5 + 0).toNat := rfl
  have kz_0_170 := fdq_13 hD hth r0
  have kv0 := fdq_13 hD hth r0
  obtain ⟨x, ex, hx⟩ := iv_ex (ta := ta) (lo := 0) (hi := 99999998) (z := w_fi ws (n_v vs 0) 170) (by omega) (by omega) (by omega) (by omega)
  have ex2 : v_iv (Value.int x) = w_fi ws (n_v vs 0) 170 := ex
  have ex3 : 0 ≤ v_iv (Value.int x) ∧ v_iv (Value.int x) ≤ 99999998 := tv_rng hx
  have e_2 : n_v (vs ++ [Value.int x]) 2 = n_v vs 2 := n_v_old (by rw [hl]; decide)
  have e_3 : n_v (vs ++ [Value.int x]) 3 = n_v vs 3 := n_v_old (by rw [hl]; decide)
  have e_5 : n_v (vs ++ [Value.int x]) 5 = n_v vs 5 := n_v_old (by rw [hl]; decide)
  have e_20 : n_v (vs ++ [Value.int x]) 20 = Value.int x := n_v_new hl
  have nf0 : fc_1 PRD (20, [3, 20], [30, 0, 1, 1, 170, -1, 0, 0]) ws (vs ++ [Value.int x]) := by
    refine ⟨nf_inA hl rfl, sgq_140 ?_⟩
    · show 1 * w_fi ws (n_v (vs ++ [Value.int x]) 3) 170 + ((-1) * v_iv (n_v (vs ++ [Value.int x]) 20) + 0) ≤ 0
      simp only [e_3, e_20, q3]
      exact vc_Mo_writeGroup_at_l0_9_0 (v_iv (n_v vs 2)) (v_iv (n_v vs 4)) (v_iv (n_v vs 5)) (v_iv (n_v vs 6)) (v_iv (n_v vs 7)) (v_iv (n_v vs 9)) (v_iv (n_v vs 10)) (v_iv (n_v vs 11)) (v_iv (n_v vs 12)) (v_iv (n_v vs 14)) (v_iv (n_v vs 15)) (v_iv (n_v vs 16)) (v_iv (n_v vs 18)) (w_ei ws (w_ar ws (n_v vs 0) 2)) (w_fi ws (n_v vs 0) 5) (w_fi ws (n_v vs 0) 170) (v_iv (Value.int x)) k2 k4 k5 k6 k7 k9 k10 k11 k12 k14 k15 k16 k18 d0 f0 f1 f2 f3 f4 f5 f6 f7 f8 f9 f11 f13 f14 f15 f16 f17 f19 f20 f21 f22 f24 f25 f26 f27 f29 f30 f32 f33 f34 kz_0_170 ex2 ex3
  have nf1 : fc_1 PRD (23, [20, 2, 5], [34, 1, -1, -36]) ws (vs ++ [Value.int x]) := by
    refine ⟨nf_inA hl rfl, sgq_1910 ?_⟩
    · show 1 * v_iv (n_v (vs ++ [Value.int x]) 20) + ((-1) * v_iv (n_v (vs ++ [Value.int x]) 2) + ((-36) * v_iv (n_v (vs ++ [Value.int x]) 5) + 0)) ≤ 34
      simp only [e_2, e_5, e_20]
      exact vc_Mo_writeGroup_at_l0_9_1 (v_iv (n_v vs 2)) (v_iv (n_v vs 4)) (v_iv (n_v vs 5)) (v_iv (n_v vs 6)) (v_iv (n_v vs 7)) (v_iv (n_v vs 9)) (v_iv (n_v vs 10)) (v_iv (n_v vs 11)) (v_iv (n_v vs 12)) (v_iv (n_v vs 14)) (v_iv (n_v vs 15)) (v_iv (n_v vs 16)) (v_iv (n_v vs 18)) (w_ei ws (w_ar ws (n_v vs 0) 2)) (w_fi ws (n_v vs 0) 5) (w_fi ws (n_v vs 0) 170) (v_iv (Value.int x)) k2 k4 k5 k6 k7 k9 k10 k11 k12 k14 k15 k16 k18 d0 f0 f1 f2 f3 f4 f5 f6 f7 f8 f9 f11 f13 f14 f15 f16 f17 f19 f20 f21 f22 f24 f25 f26 f27 f29 f30 f32 f33 f34 kz_0_170 ex2 ex3
  exact ⟨(fun _ h => (by cases h)), [Value.int x], ag_one hx, List.forall_mem_cons.mpr ⟨⟨show (20 : Nat) < 100 from by decide, nf0⟩, List.forall_mem_cons.mpr ⟨⟨show (23 : Nat) < 100 from by decide, nf1⟩, (fun _ h => (by cases h))⟩⟩, (fun _ h => (by cases h))⟩
set_option maxHeartbeats 4000000 in
theorem vc_Mo_writeGroup_at_l0_10_0 (x2 : Int) (x4 : Int) (x5 : Int) (x6 : Int) (x7 : Int) (x9 : Int) (x10 : Int) (x11 : Int) (x12 : Int) (x14 : Int) (x15 : Int) (x16 : Int) (x18 : Int) (x20 : Int) (x21 : Int) (all_0 : Int → Int) (r_0 : Int) (texts_0 : Int) (k2 : 0 ≤ x2 ∧ x2 ≤ 87902919) (k4 : 0 ≤ x4 ∧ x4 ≤ 0) (k5 : 0 ≤ x5 ∧ x5 ≤ 23) (k6 : 1 ≤ x6 ∧ x6 ≤ 24) (k7 : 0 ≤ x7 ∧ x7 ≤ 0) (k9 : 0 ≤ x9 ∧ x9 ≤ 99999995) (k10 : 0 ≤ x10 ∧ x10 ≤ 99999992) (k11 : 2 ≤ x11 ∧ x11 ≤ 99) (k12 : 1 ≤ x12 ∧ x12 ≤ 1) (k14 : 0 ≤ x14 ∧ x14 ≤ 99999993) (k15 : 0 ≤ x15 ∧ x15 ≤ 99) (k16 : 0 ≤ x16 ∧ x16 ≤ 99999987) (k18 : 0 ≤ x18 ∧ x18 ≤ 99999999) (k20 : 0 ≤ x20 ∧ x20 ≤ 99999998) (k21 : 1 ≤ x21 ∧ x21 ≤ 24) (d0 : x5 + 1 ≤ x21 ∧ x21 ≤ x5 + 1) (d1 : x6 + (-4294967296) ≤ x21 ∧ x21 ≤ x6 + 0) (d2 : x6 + (-4294967296) ≤ x5 ∧ x5 ≤ x6 + (-1)) (f0 : x21 = x5 + 1) (f1 : 1 * x20 + ((-1) * x2 + ((-36) * x5 + 0)) ≤ 34) (f2 : 1 * x18 + ((-1) * x2 + ((-36) * x5 + 0)) ≤ 33) (f3 : 1 * x16 + ((-1) * x2 + ((-36) * x5 + 0)) ≤ 20) (f4 : x15 = all_0 (((r_0 + 219) + x5))) (f5 : 1 * x14 + ((-1) * x2 + ((-36) * x5 + 0)) ≤ 13) (f6 : x11 = all_0 (((r_0 + 219) + x5))) (f7 : 1 * x10 + ((-1) * x2 + ((-36) * x5 + 0)) ≤ 5) (f8 : 1 * x9 + ((-1) * x2 + ((-36) * x5 + 0)) ≤ 0) (f9 : x7 = all_0 (((r_0 + 243) + x5))) (f10 : 1 * x6 + ((-1) * all_0 (r_0 + 0) + 0) ≤ 0) (f11 : (-1) * x6 + (1 * all_0 (r_0 + 0) + 0) ≤ 0) (f13 : 1 * texts_0 + ((-1) * x20 + 0) ≤ 2) (f15 : 1 * x20 + ((-1) * x2 + ((-36) * x5 + 0)) ≤ 34) (f16 : 1 * x18 + ((-1) * x2 + ((-36) * x5 + 0)) ≤ 33) (f17 : 1 * x16 + ((-1) * x2 + ((-36) * x5 + 0)) ≤ 20) (f18 : 1 * x14 + ((-1) * x2 + ((-36) * x5 + 0)) ≤ 13) (f19 : 1 * x10 + ((-1) * x2 + ((-36) * x5 + 0)) ≤ 5) (f20 : 1 * x9 + ((-1) * x2 + ((-36) * x5 + 0)) ≤ 0) (f22 : 1 * x18 + ((-1) * x2 + ((-36) * x5 + 0)) ≤ 33) (f23 : 1 * x16 + ((-1) * x2 + ((-36) * x5 + 0)) ≤ 20) (f24 : 1 * x14 + ((-1) * x2 + ((-36) * x5 + 0)) ≤ 13) (f25 : 1 * x10 + ((-1) * x2 + ((-36) * x5 + 0)) ≤ 5) (f26 : 1 * x9 + ((-1) * x2 + ((-36) * x5 + 0)) ≤ 0) (f28 : 1 * x16 + ((-1) * x2 + ((-36) * x5 + 0)) ≤ 20) (f29 : 1 * x14 + ((-1) * x2 + ((-36) * x5 + 0)) ≤ 13) (f30 : 1 * x10 + ((-1) * x2 + ((-36) * x5 + 0)) ≤ 5) (f31 : 1 * x9 + ((-1) * x2 + ((-36) * x5 + 0)) ≤ 0) (f33 : 1 * x14 + ((-1) * x2 + ((-36) * x5 + 0)) ≤ 13) (f34 : x12 < x11) (f35 : 1 * x10 + ((-1) * x2 + ((-36) * x5 + 0)) ≤ 5) (f36 : 1 * x9 + ((-1) * x2 + ((-36) * x5 + 0)) ≤ 0) (f38 : 1 * x10 + ((-1) * x2 + ((-36) * x5 + 0)) ≤ 5) (f39 : 1 * x9 + ((-1) * x2 + ((-36) * x5 + 0)) ≤ 0) (f41 : 1 * x9 + ((-1) * x2 + ((-36) * x5 + 0)) ≤ 0) (f42 : x7 = x4) (f43 : x5 < x6) (kz_0_170 : 0 ≤ texts_0 ∧ texts_0 ≤ 100000000) : 1 * texts_0 + ((-1) * x2 + ((-36) * x21 + 0)) ≤ 0 := by
  first | assumption | omega | grind
def o_Mo_writeGroup_at_l0_10 : or_T := (2, 22, [(0, (2, 0, 0, [165])), (2, (0, 0, 87902919, [])), (4, (0, 0, 0, [])), (5, (0, 0, 23, [])), (6, (0, 1, 24, [])), (7, (0, 0, 0, [])), (9, (0, 0, 99999995, [])), (10, (0, 0, 99999992, [])), (11, (0, 2, 99, [])), (12, (0, 1, 1, [])), (14, (0, 0, 99999993, [])), (15, (0, 0, 99, [])), (16, (0, 0, 99999987, [])), (18, (0, 0, 99999999, [])), (20, (0, 0, 99999998, [])), (21, (0, 1, 24, []))], [(6, [21, 5], [1]), (23, [20, 2, 5], [34, 1, -1, -36]), (23, [18, 2, 5], [33, 1, -1, -36]), (23, [16, 2, 5], [20, 1, -1, -36]), (20, [15, 3, 5], [50, 1, 1, 1005, 1002, 1, 2, 1, 0, 3, 1, 2, 4, 7, 4, 3, 2, 1, 5, 0, 219, 1, 2]), (23, [14, 2, 5], [13, 1, -1, -36]), (20, [11, 3, 5], [50, 1, 1, 1005, 1002, 1, 2, 1, 0, 3, 1, 2, 4, 7, 4, 3, 2, 1, 5, 0, 219, 1, 2]), (23, [10, 2, 5], [5, 1, -1, -36]), (23, [9, 2, 5], [0, 1, -1, -36]), (20, [7, 3, 5], [50, 1, 1, 1005, 1002, 1, 2, 1, 0, 3, 1, 2, 4, 7, 4, 3, 2, 1, 5, 0, 243, 1, 2]), (20, [6, 3], [30, 0, 1, 0, 0, -1, 3, 2005000]), (20, [6, 3], [30, 0, -1, 0, 0, 1, 3, 2005000]), (24, [0, 3], []), (20, [3, 20], [30, 2, 1, 1, 170, -1, 0, 0]), (102, [20], [7770675568902916283677847627294075626569627356208558085007249638955617140820833992704, 165170]), (23, [20, 2, 5], [34, 1, -1, -36]), (23, [18, 2, 5], [33, 1, -1, -36]), (23, [16, 2, 5], [20, 1, -1, -36]), (23, [14, 2, 5], [13, 1, -1, -36]), (23, [10, 2, 5], [5, 1, -1, -36]), (23, [9, 2, 5], [0, 1, -1, -36]), (102, [18], [7770675568902916283677847627294075626569627356208558085007249638955617140820833992704, 165170]), (23, [18, 2, 5], [33, 1, -1, -36]), (23, [16, 2, 5], [20, 1, -1, -36]), (23, [14, 2, 5], [13, 1, -1, -36]), (23, [10, 2, 5], [5, 1, -1, -36]), (23, [9, 2, 5], [0, 1, -1, -36]), (102, [16], [7770675568902916283677847627294075626569627356208558085007249638955617140820833992704, 165170]), (23, [16, 2, 5], [20, 1, -1, -36]), (23, [14, 2, 5], [13, 1, -1, -36]), (23, [10, 2, 5], [5, 1, -1, -36]), (23, [9, 2, 5], [0, 1, -1, -36]), (102, [14], [7770675568902916283677847627294075626569627356208558085007249638955617140820833992704, 165170]), (23, [14, 2, 5], [13, 1, -1, -36]), (7, [11, 12], [4]), (23, [10, 2, 5], [5, 1, -1, -36]), (23, [9, 2, 5], [0, 1, -1, -36]), (102, [10], [7770675568902916283677847627294075626569627356208558085007249638955617140820833992704, 165170]), (23, [10, 2, 5], [5, 1, -1, -36]), (23, [9, 2, 5], [0, 1, -1, -36]), (102, [9], [7770675568902916283677847627294075626569627356208558085007249638955617140820833992704, 165170]), (23, [9, 2, 5], [0, 1, -1, -36]), (7, [7, 4], [0]), (7, [5, 6], [2])], [], [], [(20, [3, 2, 21], [30, 0, 1, 1, 170, -1, 0, 0, -36, 0, 0])], [], [(21, 5, 1, 1), (21, 6, -4294967296, 0), (5, 6, -4294967296, -1)])
theorem oo_Mo_writeGroup_at_l0_10 {kA : Nat → ClassId} : or_ok PRD kA GG o_Mo_writeGroup_at_l0_10 := by
  refine or_mk fun A ta ws vs hD hth hl => ?_
  intro t0 r0 t2 k2 t4 k4 t5 k5 t6 k6 t7 k7 t9 k9 t10 k10 t11 k11 t12 k12 t14 k14 t15 k15 t16 k16 t18 k18 t20 k20 t21 k21 d0 d1 d2 f0 f1 f2 f3 f4 f5 f6 f7 f8 f9 f10 f11 f12 f13 ta1 w1 le1 s1 f15 f16 f17 f18 f19 f20 ta2 w2 le2 s2 f22 f23 f24 f25 f26 ta3 w3 le3 s3 f28 f29 f30 f31 ta4 w4 le4 s4 f33 f34 f35 f36 ta5 w5 le5 s5 f38 f39 ta6 w6 le6 s6 f41 f42 f43
  replace f0 := shm_4 f0
  replace f1 := shm_1910 f1
  replace f2 := shm_1913 f2
  replace f3 := shm_1912 f3
  replace f4 := shm_718 f4
  replace f5 := shm_1911 f5
  replace f6 := shm_718 f6
  replace f7 := shm_1909 f7
  replace f8 := shm_1908 f8
  replace f9 := shm_585 f9
  replace f10 := shm_135 f10
  replace f11 := shm_136 f11
  replace f12 := shm_5 f12
  replace f13 := shm_234 f13
  replace f15 := shm_1910 f15
  replace f16 := shm_1913 f16
  replace f17 := shm_1912 f17
  replace f18 := shm_1911 f18
  replace f19 := shm_1909 f19
  replace f20 := shm_1908 f20
  replace f22 := shm_1913 f22
  replace f23 := shm_1912 f23
  replace f24 := shm_1911 f24
  replace f25 := shm_1909 f25
  replace f26 := shm_1908 f26
  replace f28 := shm_1912 f28
  replace f29 := shm_1911 f29
  replace f30 := shm_1909 f30
  replace f31 := shm_1908 f31
  replace f33 := shm_1911 f33
  replace f34 := shm_21 f34
  replace f35 := shm_1909 f35
  replace f36 := shm_1908 f36
  replace f38 := shm_1909 f38
  replace f39 := shm_1908 f39
  replace f41 := shm_1908 f41
  replace f42 := shm_37 f42
  replace f43 := shm_6 f43
  have q3 : n_v vs 3 = n_v vs 0 := f12.symm
  simp only [q3] at f4 f6 f9 f10 f11 f13
  have kz_0_170 := fdq_13 hD hth r0
  have nf0 : fc_1 PRD (20, [3, 2, 21], [30, 0, 1, 1, 170, -1, 0, 0, -36, 0, 0]) ws (vs) := by
    refine ⟨nf_in hl rfl, sgq_1906 ?_⟩
    · show 1 * w_fi ws (n_v vs 3) 170 + ((-1) * v_iv (n_v vs 2) + ((-36) * v_iv (n_v vs 21) + 0)) ≤ 0
      rw [q3]
      exact vc_Mo_writeGroup_at_l0_10_0 (v_iv (n_v vs 2)) (v_iv (n_v vs 4)) (v_iv (n_v vs 5)) (v_iv (n_v vs 6)) (v_iv (n_v vs 7)) (v_iv (n_v vs 9)) (v_iv (n_v vs 10)) (v_iv (n_v vs 11)) (v_iv (n_v vs 12)) (v_iv (n_v vs 14)) (v_iv (n_v vs 15)) (v_iv (n_v vs 16)) (v_iv (n_v vs 18)) (v_iv (n_v vs 20)) (v_iv (n_v vs 21)) (w_ei ws (w_ar ws (n_v vs 0) 2)) (w_fi ws (n_v vs 0) 5) (w_fi ws (n_v vs 0) 170) k2 k4 k5 k6 k7 k9 k10 k11 k12 k14 k15 k16 k18 k20 k21 d0 d1 d2 f0 f1 f2 f3 f4 f5 f6 f7 f8 f9 f10 f11 f13 f15 f16 f17 f18 f19 f20 f22 f23 f24 f25 f26 f28 f29 f30 f31 f33 f34 f35 f36 f38 f39 f41 f42 f43 kz_0_170
  refine ⟨(fun _ h => (by cases h)), [], trivial, ?_, (fun _ h => (by cases h))⟩
  rw [List.append_nil]
  exact List.forall_mem_cons.mpr ⟨⟨show (20 : Nat) < 100 from by decide, nf0⟩, (fun _ h => (by cases h))⟩
set_option maxHeartbeats 4000000 in
theorem vc_Mo_writeGroup_at_l0_11_0 (x2 : Int) (x4 : Int) (x5 : Int) (x6 : Int) (x7 : Int) (x8 : Int) (all_0 : Int → Int) (r_0 : Int) (texts_0 : Int) (k2 : 0 ≤ x2 ∧ x2 ≤ 87902919) (k4 : 0 ≤ x4 ∧ x4 ≤ 0) (k5 : 0 ≤ x5 ∧ x5 ≤ 23) (k6 : 1 ≤ x6 ∧ x6 ≤ 24) (k7 : 1 ≤ x7 ∧ x7 ≤ 7) (k8 : 1 ≤ x8 ∧ x8 ≤ 24) (d0 : x5 + 1 ≤ x8 ∧ x8 ≤ x5 + 1) (d1 : x6 + (-4294967296) ≤ x8 ∧ x8 ≤ x6 + 0) (d2 : x6 + (-4294967296) ≤ x5 ∧ x5 ≤ x6 + (-1)) (f0 : x8 = x5 + 1) (f1 : x7 ≠ x4) (f2 : x7 = all_0 (((r_0 + 243) + x5))) (f3 : x5 < x6) (f4 : 1 * x6 + ((-1) * all_0 (r_0 + 0) + 0) ≤ 0) (f5 : (-1) * x6 + (1 * all_0 (r_0 + 0) + 0) ≤ 0) (f6 : 1 * texts_0 + ((-1) * x2 + ((-36) * x5 + 0)) ≤ 0) (kz_0_170 : 0 ≤ texts_0 ∧ texts_0 ≤ 100000000) : 1 * texts_0 + ((-1) * x2 + ((-36) * x8 + 0)) ≤ 0 := by
  first | assumption | omega | grind
def o_Mo_writeGroup_at_l0_11 : or_T := (2, 9, [(0, (2, 0, 0, [165])), (2, (0, 0, 87902919, [])), (4, (0, 0, 0, [])), (5, (0, 0, 23, [])), (6, (0, 1, 24, [])), (7, (0, 1, 7, [])), (8, (0, 1, 24, []))], [(6, [8, 5], [1]), (7, [7, 4], [1]), (20, [7, 3, 5], [50, 1, 1, 1005, 1002, 1, 2, 1, 0, 3, 1, 2, 4, 7, 4, 3, 2, 1, 5, 0, 243, 1, 2]), (7, [5, 6], [2]), (20, [6, 3], [30, 0, 1, 0, 0, -1, 3, 2005000]), (20, [6, 3], [30, 0, -1, 0, 0, 1, 3, 2005000]), (20, [3, 2, 5], [30, 0, 1, 1, 170, -1, 0, 0, -36, 0, 0]), (24, [0, 3], [])], [], [], [(20, [3, 2, 8], [30, 0, 1, 1, 170, -1, 0, 0, -36, 0, 0])], [], [(8, 5, 1, 1), (8, 6, -4294967296, 0), (5, 6, -4294967296, -1)])
theorem oo_Mo_writeGroup_at_l0_11 {kA : Nat → ClassId} : or_ok PRD kA GG o_Mo_writeGroup_at_l0_11 := by
  refine or_mk fun A ta ws vs hD hth hl => ?_
  intro t0 r0 t2 k2 t4 k4 t5 k5 t6 k6 t7 k7 t8 k8 d0 d1 d2 f0 f1 f2 f3 f4 f5 f6 f7
  replace f0 := shm_4 f0
  replace f1 := shm_40 f1
  replace f2 := shm_585 f2
  replace f3 := shm_6 f3
  replace f4 := shm_135 f4
  replace f5 := shm_136 f5
  replace f6 := shm_1906 f6
  replace f7 := shm_5 f7
  have q3 : n_v vs 3 = n_v vs 0 := f7.symm
  simp only [q3] at f2 f4 f5 f6
  have kz_0_170 := fdq_13 hD hth r0
  have nf0 : fc_1 PRD (20, [3, 2, 8], [30, 0, 1, 1, 170, -1, 0, 0, -36, 0, 0]) ws (vs) := by
    refine ⟨nf_in hl rfl, sgq_1906 ?_⟩
    · show 1 * w_fi ws (n_v vs 3) 170 + ((-1) * v_iv (n_v vs 2) + ((-36) * v_iv (n_v vs 8) + 0)) ≤ 0
      rw [q3]
      exact vc_Mo_writeGroup_at_l0_11_0 (v_iv (n_v vs 2)) (v_iv (n_v vs 4)) (v_iv (n_v vs 5)) (v_iv (n_v vs 6)) (v_iv (n_v vs 7)) (v_iv (n_v vs 8)) (w_ei ws (w_ar ws (n_v vs 0) 2)) (w_fi ws (n_v vs 0) 5) (w_fi ws (n_v vs 0) 170) k2 k4 k5 k6 k7 k8 d0 d1 d2 f0 f1 f2 f3 f4 f5 f6 kz_0_170
  refine ⟨(fun _ h => (by cases h)), [], trivial, ?_, (fun _ h => (by cases h))⟩
  rw [List.append_nil]
  exact List.forall_mem_cons.mpr ⟨⟨show (20 : Nat) < 100 from by decide, nf0⟩, (fun _ h => (by cases h))⟩
set_option maxHeartbeats 4000000 in
theorem vc_Mo_writeGroup_at_l0_12_0 (x2 : Int) (x4 : Int) (x5 : Int) (x6 : Int) (all_0 : Int → Int) (r_0 : Int) (texts_0 : Int) (k2 : 0 ≤ x2 ∧ x2 ≤ 87902919) (k4 : 0 ≤ x4 ∧ x4 ≤ 0) (k5 : 1 ≤ x5 ∧ x5 ≤ 8) (k6 : 0 ≤ x6 ∧ x6 ≤ 8) (d0 : x6 + 0 ≤ x5 ∧ x5 ≤ x6 + 4294967296) (f0 : x6 ≤ x5) (f1 : 1 * x6 + ((-1) * all_0 (r_0 + 2) + 0) ≤ 0) (f2 : (-1) * x6 + (1 * all_0 (r_0 + 2) + 0) ≤ 0) (f3 : 1 * texts_0 + ((-1) * x2 + ((-1728031) * x5 + (1728031 * x4 + 0))) ≤ (-1727167)) (kz_0_170 : 0 ≤ texts_0 ∧ texts_0 ≤ 100000000) : 1 * texts_0 + ((-1) * x2 + 0) ≤ 12097081 := by
  first | assumption | omega | grind
def o_Mo_writeGroup_at_l0_12 : or_T := (177, 7, [(0, (2, 0, 0, [165])), (2, (0, 0, 87902919, [])), (4, (0, 0, 0, [])), (5, (0, 1, 8, [])), (6, (0, 0, 8, []))], [(7, [5, 6], [3]), (20, [6, 3], [30, 0, 1, 0, 0, -1, 3, 2005002]), (20, [6, 3], [30, 0, -1, 0, 0, 1, 3, 2005002]), (20, [3, 2, 5, 4], [30, -1727167, 1, 1, 170, -1, 0, 0, -1728031, 0, 0, 1728031, 0, 0]), (24, [0, 3], [])], [], [], [(20, [0, 2], [30, 12097081, 1, 1, 170, -1, 0, 0])], [], [(5, 6, 0, 4294967296)])
theorem oo_Mo_writeGroup_at_l0_12 {kA : Nat → ClassId} : or_ok PRD kA GG o_Mo_writeGroup_at_l0_12 := by
  refine or_mk fun A ta ws vs hD hth hl => ?_
  intro t0 r0 t2 k2 t4 k4 t5 k5 t6 k6 d0 f0 f1 f2 f3 f4
  replace f1 := shm_132 f1
  replace f2 := shm_133 f2
  replace f3 := shm_1907 f3
  replace f4 := shm_5 f4
  have q3 : n_v vs 3 = n_v vs 0 := f4.symm
  simp only [q3] at f1 f2 f3
  have kz_0_170 := fdq_13 hD hth r0
  have nf0 : fc_1 PRD (20, [0, 2], [30, 12097081, 1, 1, 170, -1, 0, 0]) ws (vs) := ⟨nf_in hl rfl, sgq_1914 (vc_Mo_writeGroup_at_l0_12_0 (v_iv (n_v vs 2)) (v_iv (n_v vs 4)) (v_iv (n_v vs 5)) (v_iv (n_v vs 6)) (w_ei ws (w_ar ws (n_v vs 0) 2)) (w_fi ws (n_v vs 0) 5) (w_fi ws (n_v vs 0) 170) k2 k4 k5 k6 d0 (shm_2 f0) f1 f2 f3 kz_0_170)⟩
  refine ⟨(fun _ h => (by cases h)), [], trivial, ?_, (fun _ h => (by cases h))⟩
  rw [List.append_nil]
  exact List.forall_mem_cons.mpr ⟨⟨show (20 : Nat) < 100 from by decide, nf0⟩, (fun _ h => (by cases h))⟩
def o_Mo_writeGroup_at_l0_13 : or_T := (117, 14, [(0, (2, 0, 0, [165])), (2, (0, 0, 87902919, [])), (3, (2, 0, 0, [165])), (4, (0, 0, 0, [])), (5, (0, 1, 7, [])), (6, (0, 2, 8, [])), (7, (2, 0, 0, [167])), (8, (0, 0, 66297, [])), (9, (0, 531, 531, [])), (10, (0, 531, 66828, [])), (11, (0, 532, 66835, [])), (12, (0, 0, 0, []))], [(7, [12, 4], [0]), (10, [12, 7, 11], []), (1, [11, 10, 5], []), (1, [10, 8, 9], []), (9, [8, 3], [5]), (9, [7, 3], [2]), (7, [5, 6], [2]), (20, [6, 3], [30, 0, 1, 0, 0, -1, 3, 2005002]), (20, [6, 3], [30, 0, -1, 0, 0, 1, 3, 2005002]), (20, [3, 2, 5, 4], [30, -1727167, 1, 1, 170, -1, 0, 0, -1728031, 0, 0, 1728031, 0, 0]), (24, [0, 3], [])], [], [(0, 0, 99999994, [])], [(20, [3, 14], [30, 0, 1, 1, 170, -1, 0, 0]), (23, [14, 2, 5, 4], [-1727167, 1, -1, -1728031, 1728031])], [], [(11, 5, 531, 66828), (11, 6, -4294967296, 66827), (11, 10, 1, 7), (11, 8, 532, 538), (10, 8, 531, 531), (5, 6, -4294967296, -1)])
theorem oo_Mo_writeGroup_at_l0_13 {kA : Nat → ClassId} : or_ok PRD kA GG o_Mo_writeGroup_at_l0_13 := by
  refine or_mk fun A ta ws vs hD hth hl => ?_
  intro t0 r0 t2 k2 t3 r3 t4 k4 t5 k5 t6 k6 t7 r7 t8 k8 t9 k9 t10 k10 t11 k11 t12 k12 d0 d1 d2 d3 d4 d5 f0 f1 f2 f3 f4 f5 f6 f7 f8 f9 f10
  replace f0 := shm_37 f0
  replace f1 := shm_106 f1
  replace f2 := shm_12 f2
  replace f3 := shm_12 f3
  replace f4 := shm_109 f4
  replace f5 := shm_129 f5
  replace f6 := shm_6 f6
  replace f7 := shm_132 f7
  replace f8 := shm_133 f8
  replace f9 := shm_1907 f9
  replace f10 := shm_5 f10
  have q3 : n_v vs 3 = n_v vs 0 := f10.symm
  simp only [q3] at f4 f5 f7 f8 f9
  have cr_0_2 := fdq_12 hD hth r0
  have ad_7 : v_ad (n_v vs 7) = w_ar ws (n_v vs 0) 2 := congrArg v_ad f5
  simp only [ad_7] at f1
  have h1 : v_iv (n_v vs 12) = w_ei ws (w_ar ws (n_v vs 0) 2) (v_iv (n_v vs 11)) := f1
  have g4 : v_iv (n_v vs 8) = w_fi ws (n_v vs 0) 5 := congrArg v_iv f4
  have cg1_F5_2 : v_iv (n_v vs 11) = w_fi ws (n_v vs 0) 5 + 2 → w_el ws (w_ar ws (n_v vs 0) 2) (v_iv (n_v vs 11)).toNat = w_el ws (w_ar ws (n_v vs 0) 2) (w_fi ws (n_v vs 0) 5 + 2).toNat := fun h => by rw [h]
  have kz_0_170 := fdq_13 hD hth r0
  have kv0 := fdq_13 hD hth r0
  obtain ⟨x, ex, hx⟩ := iv_ex (ta := ta) (lo := 0) (hi := 99999994) (z := w_fi ws (n_v vs 0) 170) (by omega) (by omega) (by omega) (by omega)
  have ex2 : v_iv (Value.int x) = w_fi ws (n_v vs 0) 170 := ex
  have ex3 : 0 ≤ v_iv (Value.int x) ∧ v_iv (Value.int x) ≤ 99999994 := tv_rng hx
  have e_2 : n_v (vs ++ [Value.int x]) 2 = n_v vs 2 := n_v_old (by rw [hl]; decide)
  have e_3 : n_v (vs ++ [Value.int x]) 3 = n_v vs 3 := n_v_old (by rw [hl]; decide)
  have e_4 : n_v (vs ++ [Value.int x]) 4 = n_v vs 4 := n_v_old (by rw [hl]; decide)
  have e_5 : n_v (vs ++ [Value.int x]) 5 = n_v vs 5 := n_v_old (by rw [hl]; decide)
  have e_14 : n_v (vs ++ [Value.int x]) 14 = Value.int x := n_v_new hl
  have nf0 : fc_1 PRD (20, [3, 14], [30, 0, 1, 1, 170, -1, 0, 0]) ws (vs ++ [Value.int x]) := by
    refine ⟨nf_inA hl rfl, sgq_140 ?_⟩
    · show 1 * w_fi ws (n_v (vs ++ [Value.int x]) 3) 170 + ((-1) * v_iv (n_v (vs ++ [Value.int x]) 14) + 0) ≤ 0
      simp only [e_3, e_14, q3]
      omega
  have nf1 : fc_1 PRD (23, [14, 2, 5, 4], [-1727167, 1, -1, -1728031, 1728031]) ws (vs ++ [Value.int x]) := by
    refine ⟨nf_inA hl rfl, sgq_1915 ?_⟩
    · show 1 * v_iv (n_v (vs ++ [Value.int x]) 14) + ((-1) * v_iv (n_v (vs ++ [Value.int x]) 2) + ((-1728031) * v_iv (n_v (vs ++ [Value.int x]) 5) + (1728031 * v_iv (n_v (vs ++ [Value.int x]) 4) + 0))) ≤ (-1727167)
      simp only [e_2, e_4, e_5, e_14]
      omega
  exact ⟨(fun _ h => (by cases h)), [Value.int x], ag_one hx, List.forall_mem_cons.mpr ⟨⟨show (20 : Nat) < 100 from by decide, nf0⟩, List.forall_mem_cons.mpr ⟨⟨show (23 : Nat) < 100 from by decide, nf1⟩, (fun _ h => (by cases h))⟩⟩, (fun _ h => (by cases h))⟩
set_option maxHeartbeats 4000000 in
theorem vc_Mo_writeGroup_at_l0_14_0 (x2 : Int) (x4 : Int) (x5 : Int) (x6 : Int) (x8 : Int) (x12 : Int) (x14 : Int) (r_0 : Int) (all_0 : Int → Int) (texts_0 : Int) (gx : Int) (k2 : 0 ≤ x2 ∧ x2 ≤ 87902919) (k4 : 0 ≤ x4 ∧ x4 ≤ 0) (k5 : 1 ≤ x5 ∧ x5 ≤ 7) (k6 : 2 ≤ x6 ∧ x6 ≤ 8) (k8 : 0 ≤ x8 ∧ x8 ≤ 66297) (k12 : 0 ≤ x12 ∧ x12 ≤ 0) (k14 : 0 ≤ x14 ∧ x14 ≤ 99999994) (d0 : x6 + (-4294967296) ≤ x5 ∧ x5 ≤ x6 + (-1)) (g0 : x8 = r_0) (f2 : 1 * x14 + ((-1) * x2 + ((-1728031) * x5 + (1728031 * x4 + 0))) ≤ (-1727167)) (f3 : 1 * x6 + ((-1) * all_0 (r_0 + 2) + 0) ≤ 0) (f4 : (-1) * x6 + (1 * all_0 (r_0 + 2) + 0) ≤ 0) (f6 : 1 * texts_0 + ((-1) * x14 + 0) ≤ 6) (f8 : 1 * x14 + ((-1) * x2 + ((-1728031) * x5 + (1728031 * x4 + 0))) ≤ (-1727167)) (f9 : x12 = x4) (f10 : x5 < x6) (kz_0_170 : 0 ≤ texts_0 ∧ texts_0 ≤ 100000000) (ex2 : gx = texts_0) (ex3 : 0 ≤ gx ∧ gx ≤ 99999992) : 1 * texts_0 + ((-1) * gx + 0) ≤ 0 := by
  first | assumption | omega | grind
set_option maxHeartbeats 4000000 in
theorem vc_Mo_writeGroup_at_l0_14_1 (x2 : Int) (x4 : Int) (x5 : Int) (x6 : Int) (x8 : Int) (x12 : Int) (x14 : Int) (r_0 : Int) (all_0 : Int → Int) (texts_0 : Int) (gx : Int) (k2 : 0 ≤ x2 ∧ x2 ≤ 87902919) (k4 : 0 ≤ x4 ∧ x4 ≤ 0) (k5 : 1 ≤ x5 ∧ x5 ≤ 7) (k6 : 2 ≤ x6 ∧ x6 ≤ 8) (k8 : 0 ≤ x8 ∧ x8 ≤ 66297) (k12 : 0 ≤ x12 ∧ x12 ≤ 0) (k14 : 0 ≤ x14 ∧ x14 ≤ 99999994) (d0 : x6 + (-4294967296) ≤ x5 ∧ x5 ≤ x6 + (-1)) (g0 : x8 = r_0) (f2 : 1 * x14 + ((-1) * x2 + ((-1728031) * x5 + (1728031 * x4 + 0))) ≤ (-1727167)) (f3 : 1 * x6 + ((-1) * all_0 (r_0 + 2) + 0) ≤ 0) (f4 : (-1) * x6 + (1 * all_0 (r_0 + 2) + 0) ≤ 0) (f6 : 1 * texts_0 + ((-1) * x14 + 0) ≤ 6) (f8 : 1 * x14 + ((-1) * x2 + ((-1728031) * x5 + (1728031 * x4 + 0))) ≤ (-1727167)) (f9 : x12 = x4) (f10 : x5 < x6) (kz_0_170 : 0 ≤ texts_0 ∧ texts_0 ≤ 100000000) (ex2 : gx = texts_0) (ex3 : 0 ≤ gx ∧ gx ≤ 99999992) : 1 * gx + ((-1) * x2 + ((-1728031) * x5 + (1728031 * x4 + 0))) ≤ (-1727161) := by
  first | assumption | omega | grind
def o_Mo_writeGroup_at_l0_14 : or_T := (149, 24, [(0, (2, 0, 0, [165])), (2, (0, 0, 87902919, [])), (3, (2, 0, 0, [165])), (4, (0, 0, 0, [])), (5, (0, 1, 7, [])), (6, (0, 2, 8, [])), (7, (2, 0, 0, [167])), (8, (0, 0, 66297, [])), (12, (0, 0, 0, [])), (14, (0, 0, 99999994, []))], [(9, [8, 3], [5]), (9, [7, 3], [2]), (23, [14, 2, 5, 4], [-1727167, 1, -1, -1728031, 1728031]), (20, [6, 3], [30, 0, 1, 0, 0, -1, 3, 2005002]), (20, [6, 3], [30, 0, -1, 0, 0, 1, 3, 2005002]), (24, [0, 3], []), (20, [3, 14], [30, 6, 1, 1, 170, -1, 0, 0]), (102, [14], [7770675568902916283677847627294075626569627356208558085007249638955617140820833992704, 165170]), (23, [14, 2, 5, 4], [-1727167, 1, -1, -1728031, 1728031]), (7, [12, 4], [0]), (7, [5, 6], [2])], [], [(0, 0, 99999992, [])], [(20, [3, 24], [30, 0, 1, 1, 170, -1, 0, 0]), (23, [24, 2, 5, 4], [-1727161, 1, -1, -1728031, 1728031])], [], [(5, 6, -4294967296, -1)])
theorem oo_Mo_writeGroup_at_l0_14 {kA : Nat → ClassId} : or_ok PRD kA GG o_Mo_writeGroup_at_l0_14 := by
  refine or_mk fun A ta ws vs hD hth hl => ?_
  intro t0 r0 t2 k2 t3 r3 t4 k4 t5 k5 t6 k6 t7 r7 t8 k8 t12 k12 t14 k14 d0 f0 f1 f2 f3 f4 f5 f6 ta1 w1 le1 s1 f8 f9 f10
  replace f0 := shm_109 f0
  replace f1 := shm_129 f1
  replace f2 := shm_1915 f2
  replace f3 := shm_132 f3
  replace f4 := shm_133 f4
  replace f5 := shm_5 f5
  replace f6 := shm_235 f6
  replace f8 := shm_1915 f8
  replace f9 := shm_37 f9
  replace f10 := shm_6 f10
  have q3 : n_v vs 3 = n_v vs 0 := f5.symm
  simp only [q3] at f0 f1 f3 f4 f6
  have cr_0_2 := fdq_12 hD hth r0
  have ad_7 : v_ad (n_v vs 7) = w_ar ws (n_v vs 0) 2 := congrArg v_ad f1
  have g0 : v_iv (n_v vs 8) = w_fi ws (n_v vs 0) 5 := congrArg v_iv f0
  have kz_0_170 := fdq_13 hD hth r0
  have kv0 := fdq_13 hD hth r0
  obtain ⟨x, ex, hx⟩ := iv_ex (ta := ta) (lo := 0) (hi := 99999992) (z := w_fi ws (n_v vs 0) 170) (by omega) (by omega) (by omega) (by omega)
  have ex2 : v_iv (Value.int x) = w_fi ws (n_v vs 0) 170 := ex
  have ex3 : 0 ≤ v_iv (Value.int x) ∧ v_iv (Value.int x) ≤ 99999992 := tv_rng hx
  have e_2 : n_v (vs ++ [Value.int x]) 2 = n_v vs 2 := n_v_old (by rw [hl]; decide)
  have e_3 : n_v (vs ++ [Value.int x]) 3 = n_v vs 3 := n_v_old (by rw [hl]; decide)
  have e_4 : n_v (vs ++ [Value.int x]) 4 = n_v vs 4 := n_v_old (by rw [hl]; decide)
  have e_5 : n_v (vs ++ [Value.int x]) 5 = n_v vs 5 := n_v_old (by rw [hl]; decide)
  have e_24 : n_v (vs ++ [Value.int x]) 24 = Value.int x := n_v_new hl
  have nf0 : fc_1 PRD (20, [3, 24], [30, 0, 1, 1, 170, -1, 0, 0]) ws (vs ++ [Value.int x]) := by
    refine ⟨nf_inA hl rfl, sgq_140 ?_⟩
    · show 1 * w_fi ws (n_v (vs ++ [Value.int x]) 3) 170 + ((-1) * v_iv (n_v (vs ++ [Value.int x]) 24) + 0) ≤ 0
      simp only [e_3, e_24, q3]
      exact vc_Mo_writeGroup_at_l0_14_0 (v_iv (n_v vs 2)) (v_iv (n_v vs 4)) (v_iv (n_v vs 5)) (v_iv (n_v vs 6)) (v_iv (n_v vs 8)) (v_iv (n_v vs 12)) (v_iv (n_v vs 14)) (w_fi ws (n_v vs 0) 5) (w_ei ws (w_ar ws (n_v vs 0) 2)) (w_fi ws (n_v vs 0) 170) (v_iv (Value.int x)) k2 k4 k5 k6 k8 k12 k14 d0 g0 f2 f3 f4 f6 f8 f9 f10 kz_0_170 ex2 ex3
  have nf1 : fc_1 PRD (23, [24, 2, 5, 4], [-1727161, 1, -1, -1728031, 1728031]) ws (vs ++ [Value.int x]) := by
    refine ⟨nf_inA hl rfl, sgq_1916 ?_⟩
    · show 1 * v_iv (n_v (vs ++ [Value.int x]) 24) + ((-1) * v_iv (n_v (vs ++ [Value.int x]) 2) + ((-1728031) * v_iv (n_v (vs ++ [Value.int x]) 5) + (1728031 * v_iv (n_v (vs ++ [Value.int x]) 4) + 0))) ≤ (-1727161)
      simp only [e_2, e_4, e_5, e_24]
      exact vc_Mo_writeGroup_at_l0_14_1 (v_iv (n_v vs 2)) (v_iv (n_v vs 4)) (v_iv (n_v vs 5)) (v_iv (n_v vs 6)) (v_iv (n_v vs 8)) (v_iv (n_v vs 12)) (v_iv (n_v vs 14)) (w_fi ws (n_v vs 0) 5) (w_ei ws (w_ar ws (n_v vs 0) 2)) (w_fi ws (n_v vs 0) 170) (v_iv (Value.int x)) k2 k4 k5 k6 k8 k12 k14 d0 g0 f2 f3 f4 f6 f8 f9 f10 kz_0_170 ex2 ex3
  exact ⟨(fun _ h => (by cases h)), [Value.int x], ag_one hx, List.forall_mem_cons.mpr ⟨⟨show (20 : Nat) < 100 from by decide, nf0⟩, List.forall_mem_cons.mpr ⟨⟨show (23 : Nat) < 100 from by decide, nf1⟩, (fun _ h => (by cases h))⟩⟩, (fun _ h => (by cases h))⟩
set_option maxHeartbeats 4000000 in
theorem vc_Mo_writeGroup_at_l0_15_0 (x2 : Int) (x4 : Int) (x5 : Int) (x6 : Int) (x12 : Int) (x14 : Int) (x24 : Int) (all_0 : Int → Int) (r_0 : Int) (texts_0 : Int) (gx : Int) (k2 : 0 ≤ x2 ∧ x2 ≤ 87902919) (k4 : 0 ≤ x4 ∧ x4 ≤ 0) (k5 : 1 ≤ x5 ∧ x5 ≤ 7) (k6 : 2 ≤ x6 ∧ x6 ≤ 8) (k12 : 0 ≤ x12 ∧ x12 ≤ 0) (k14 : 0 ≤ x14 ∧ x14 ≤ 99999994) (k24 : 0 ≤ x24 ∧ x24 ≤ 99999992) (d0 : x6 + (-4294967296) ≤ x5 ∧ x5 ≤ x6 + (-1)) (f0 : 1 * x24 + ((-1) * x2 + ((-1728031) * x5 + (1728031 * x4 + 0))) ≤ (-1727161)) (f1 : 1 * x14 + ((-1) * x2 + ((-1728031) * x5 + (1728031 * x4 + 0))) ≤ (-1727167)) (f2 : 1 * x6 + ((-1) * all_0 (r_0 + 2) + 0) ≤ 0) (f3 : (-1) * x6 + (1 * all_0 (r_0 + 2) + 0) ≤ 0) (f5 : 1 * texts_0 + ((-1) * x24 + 0) ≤ 8) (f7 : 1 * x24 + ((-1) * x2 + ((-1728031) * x5 + (1728031 * x4 + 0))) ≤ (-1727161)) (f8 : 1 * x14 + ((-1) * x2 + ((-1728031) * x5 + (1728031 * x4 + 0))) ≤ (-1727167)) (f10 : 1 * x14 + ((-1) * x2 + ((-1728031) * x5 + (1728031 * x4 + 0))) ≤ (-1727167)) (f11 : x12 = x4) (f12 : x5 < x6) (kz_0_170 : 0 ≤ texts_0 ∧ texts_0 ≤ 100000000) (ex2 : gx = texts_0) (ex3 : 0 ≤ gx ∧ gx ≤ 99999997) : 1 * texts_0 + ((-1) * gx + 0) ≤ 0 := by
  first | assumption | omega | grind
set_option maxHeartbeats 4000000 in
theorem vc_Mo_writeGroup_at_l0_15_1 (x2 : Int) (x4 : Int) (x5 : Int) (x6 : Int) (x12 : Int) (x14 : Int) (x24 : Int) (all_0 : Int → Int) (r_0 : Int) (texts_0 : Int) (gx : Int) (k2 : 0 ≤ x2 ∧ x2 ≤ 87902919) (k4 : 0 ≤ x4 ∧ x4 ≤ 0) (k5 : 1 ≤ x5 ∧ x5 ≤ 7) (k6 : 2 ≤ x6 ∧ x6 ≤ 8) (k12 : 0 ≤ x12 ∧ x12 ≤ 0) (k14 : 0 ≤ x14 ∧ x14 ≤ 99999994) (k24 : 0 ≤ x24 ∧ x24 ≤ 99999992) (d0 : x6 + (-4294967296) ≤ x5 ∧ x5 ≤ x6 + (-1)) (f0 : 1 * x24 + ((-1) * x2 + ((-1728031) * x5 + (1728031 * x4 + 0))) ≤ (-1727161)) (f1 : 1 * x14 + ((-1) * x2 + ((-1728031) * x5 + (1728031 * x4 + 0))) ≤ (-1727167)) (f2 : 1 * x6 + ((-1) * all_0 (r_0 + 2) + 0) ≤ 0) (f3 : (-1) * x6 + (1 * all_0 (r_0 + 2) + 0) ≤ 0) (f5 : 1 * texts_0 + ((-1) * x24 + 0) ≤ 8) (f7 : 1 * x24 + ((-1) * x2 + ((-1728031) * x5 + (1728031 * x4 + 0))) ≤ (-1727161)) (f8 : 1 * x14 + ((-1) * x2 + ((-1728031) * x5 + (1728031 * x4 + 0))) ≤ (-1727167)) (f10 : 1 * x14 + ((-1) * x2 + ((-1728031) * x5 + (1728031 * x4 + 0))) ≤ (-1727167)) (f11 : x12 = x4) (f12 : x5 < x6) (kz_0_170 : 0 ≤ texts_0 ∧ texts_0 ≤ 100000000) (ex2 : gx = texts_0) (ex3 : 0 ≤ gx ∧ gx ≤ 99999997) : 1 * gx + ((-1) * x2 + ((-1728031) * x5 + (1728031 * x4 + 0))) ≤ (-1727153) := by
  first | assumption | omega | grind
def o_Mo_writeGroup_at_l0_15 : or_T := (156, 26, [(0, (2, 0, 0, [165])), (2, (0, 0, 87902919, [])), (3, (2, 0, 0, [165])), (4, (0, 0, 0, [])), (5, (0, 1, 7, [])), (6, (0, 2, 8, [])), (12, (0, 0, 0, [])), (14, (0, 0, 99999994, [])), (24, (0, 0, 99999992, []))], [(23, [24, 2, 5, 4], [-1727161, 1, -1, -1728031, 1728031]), (23, [14, 2, 5, 4], [-1727167, 1, -1, -1728031, 1728031]), (20, [6, 3], [30, 0, 1, 0, 0, -1, 3, 2005002]), (20, [6, 3], [30, 0, -1, 0, 0, 1, 3, 2005002]), (24, [0, 3], []), (20, [3, 24], [30, 8, 1, 1, 170, -1, 0, 0]), (102, [24], [7770675568902916283677847627294075626569627356208558085007249638955617140820833992704, 165170]), (23, [24, 2, 5, 4], [-1727161, 1, -1, -1728031, 1728031]), (23, [14, 2, 5, 4], [-1727167, 1, -1, -1728031, 1728031]), (102, [14], [7770675568902916283677847627294075626569627356208558085007249638955617140820833992704, 165170]), (23, [14, 2, 5, 4], [-1727167, 1, -1, -1728031, 1728031]), (7, [12, 4], [0]), (7, [5, 6], [2])], [], [(0, 0, 99999997, [])], [(20, [3, 26], [30, 0, 1, 1, 170, -1, 0, 0]), (23, [26, 2, 5, 4], [-1727153, 1, -1, -1728031, 1728031])], [], [(5, 6, -4294967296, -1)])
theorem oo_Mo_writeGroup_at_l0_15 {kA : Nat → ClassId} : or_ok PRD kA GG o_Mo_writeGroup_at_l0_15 := by
  refine or_mk fun A ta ws vs hD hth hl => ?_
  intro t0 r0 t2 k2 t3 r3 t4 k4 t5 k5 t6 k6 t12 k12 t14 k14 t24 k24 d0 f0 f1 f2 f3 f4 f5 ta1 w1 le1 s1 f7 f8 ta2 w2 le2 s2 f10 f11 f12
  replace f0 := shm_1916 f0
  replace f1 := shm_1915 f1
  replace f2 := shm_132 f2
  replace f3 := shm_133 f3
  replace f4 := shm_5 f4
  replace f5 := shm_172 f5
  replace f7 := shm_1916 f7
  replace f8 := shm_1915 f8
  replace f10 := shm_1915 f10
  replace f11 := shm_37 f11
  replace f12 := shm_6 f12
  have q3 : n_v vs 3 = n_v vs 0 := f4.symm
  simp only [q3] at f2 f3 f5
  have cr_0_2 := fdq_12 hD hth r0
  have kz_0_170 := fdq_13 hD hth r0
  have kv0 := fdq_13 hD hth r0
  obtain ⟨x, ex, hx⟩ := iv_ex (ta := ta) (lo := 0) (hi := 99999997) (z := w_fi ws (n_v vs 0) 170) (by omega) (by omega) (by omega) (by omega)
  have ex2 : v_iv (Value.int x) = w_fi ws (n_v vs 0) 170 := ex
  have ex3 : 0 ≤ v_iv (Value.int x) ∧ v_iv (Value.int x) ≤ 99999997 := tv_rng hx
  have e_2 : n_v (vs ++ [Value.int x]) 2 = n_v vs 2 := n_v_old (by rw [hl]; decide)
  have e_3 : n_v (vs ++ [Value.int x]) 3 = n_v vs 3 := n_v_old (by rw [hl]; decide)
  have e_4 : n_v (vs ++ [Value.int x]) 4 = n_v vs 4 := n_v_old (by rw [hl]; decide)
  have e_5 : n_v (vs ++ [Value.int x]) 5 = n_v vs 5 := n_v_old (by rw [hl]; decide)
  have e_26 : n_v (vs ++ [Value.int x]) 26 = Value.int x := n_v_new hl
  have nf0 : fc_1 PRD (20, [3, 26], [30, 0, 1, 1, 170, -1, 0, 0]) ws (vs ++ [Value.int x]) := by
    refine ⟨nf_inA hl rfl, sgq_140 ?_⟩
    · show 1 * w_fi ws (n_v (vs ++ [Value.int x]) 3) 170 + ((-1) * v_iv (n_v (vs ++ [Value.int x]) 26) + 0) ≤ 0
      simp only [e_3, e_26, q3]
      exact vc_Mo_writeGroup_at_l0_15_0 (v_iv (n_v vs 2)) (v_iv (n_v vs 4)) (v_iv (n_v vs 5)) (v_iv (n_v vs 6)) (v_iv (n_v vs 12)) (v_iv (n_v vs 14)) (v_iv (n_v vs 24)) (w_ei ws (w_ar ws (n_v vs 0) 2)) (w_fi ws (n_v vs 0) 5) (w_fi ws (n_v vs 0) 170) (v_iv (Value.int x)) k2 k4 k5 k6 k12 k14 k24 d0 f0 f1 f2 f3 f5 f7 f8 f10 f11 f12 kz_0_170 ex2 ex3
  have nf1 : fc_1 PRD (23, [26, 2, 5, 4], [-1727153, 1, -1, -1728031, 1728031]) ws (vs ++ [Value.int x]) := by
    refine ⟨nf_inA hl rfl, sgq_1917 ?_⟩
    · show 1 * v_iv (n_v (vs ++ [Value.int x]) 26) + ((-1) * v_iv (n_v (vs ++ [Value.int x]) 2) + ((-1728031) * v_iv (n_v (vs ++ [Value.int x]) 5) + (1728031 * v_iv (n_v (vs ++ [Value.int x]) 4) + 0))) ≤ (-1727153)
      simp only [e_2, e_4, e_5, e_26]
      exact vc_Mo_writeGroup_at_l0_15_1 (v_iv (n_v vs 2)) (v_iv (n_v vs 4)) (v_iv (n_v vs 5)) (v_iv (n_v vs 6)) (v_iv (n_v vs 12)) (v_iv (n_v vs 14)) (v_iv (n_v vs 24)) (w_ei ws (w_ar ws (n_v vs 0) 2)) (w_fi ws (n_v vs 0) 5) (w_fi ws (n_v vs 0) 170) (v_iv (Value.int x)) k2 k4 k5 k6 k12 k14 k24 d0 f0 f1 f2 f3 f5 f7 f8 f10 f11 f12 kz_0_170 ex2 ex3
  exact ⟨(fun _ h => (by cases h)), [Value.int x], ag_one hx, List.forall_mem_cons.mpr ⟨⟨show (20 : Nat) < 100 from by decide, nf0⟩, List.forall_mem_cons.mpr ⟨⟨show (23 : Nat) < 100 from by decide, nf1⟩, (fun _ h => (by cases h))⟩⟩, (fun _ h => (by cases h))⟩
set_option maxHeartbeats 4000000 in
theorem vc_Mo_writeGroup_at_l0_16_0 (x2 : Int) (x4 : Int) (x5 : Int) (x6 : Int) (x12 : Int) (x14 : Int) (x24 : Int) (x26 : Int) (all_0 : Int → Int) (r_0 : Int) (texts_0 : Int) (gx : Int) (k2 : 0 ≤ x2 ∧ x2 ≤ 87902919) (k4 : 0 ≤ x4 ∧ x4 ≤ 0) (k5 : 1 ≤ x5 ∧ x5 ≤ 7) (k6 : 2 ≤ x6 ∧ x6 ≤ 8) (k12 : 0 ≤ x12 ∧ x12 ≤ 0) (k14 : 0 ≤ x14 ∧ x14 ≤ 99999994) (k24 : 0 ≤ x24 ∧ x24 ≤ 99999992) (k26 : 0 ≤ x26 ∧ x26 ≤ 99999997) (d0 : x6 + (-4294967296) ≤ x5 ∧ x5 ≤ x6 + (-1)) (f0 : 1 * x26 + ((-1) * x2 + ((-1728031) * x5 + (1728031 * x4 + 0))) ≤ (-1727153)) (f1 : 1 * x24 + ((-1) * x2 + ((-1728031) * x5 + (1728031 * x4 + 0))) ≤ (-1727161)) (f2 : 1 * x14 + ((-1) * x2 + ((-1728031) * x5 + (1728031 * x4 + 0))) ≤ (-1727167)) (f3 : 1 * x6 + ((-1) * all_0 (r_0 + 2) + 0) ≤ 0) (f4 : (-1) * x6 + (1 * all_0 (r_0 + 2) + 0) ≤ 0) (f6 : 1 * texts_0 + ((-1) * x26 + 0) ≤ 3) (f8 : 1 * x26 + ((-1) * x2 + ((-1728031) * x5 + (1728031 * x4 + 0))) ≤ (-1727153)) (f9 : 1 * x24 + ((-1) * x2 + ((-1728031) * x5 + (1728031 * x4 + 0))) ≤ (-1727161)) (f10 : 1 * x14 + ((-1) * x2 + ((-1728031) * x5 + (1728031 * x4 + 0))) ≤ (-1727167)) (f12 : 1 * x24 + ((-1) * x2 + ((-1728031) * x5 + (1728031 * x4 + 0))) ≤ (-1727161)) (f13 : 1 * x14 + ((-1) * x2 + ((-1728031) * x5 + (1728031 * x4 + 0))) ≤ (-1727167)) (f15 : 1 * x14 + ((-1) * x2 + ((-1728031) * x5 + (1728031 * x4 + 0))) ≤ (-1727167)) (f16 : x12 = x4) (f17 : x5 < x6) (kz_0_170 : 0 ≤ texts_0 ∧ texts_0 ≤ 100000000) (ex2 : gx = texts_0) (ex3 : 0 ≤ gx ∧ gx ≤ 98271988) : 1 * texts_0 + ((-1) * gx + 0) ≤ 0 := by
  first | assumption | omega | grind
set_option maxHeartbeats 4000000 in
theorem vc_Mo_writeGroup_at_l0_16_1 (x2 : Int) (x4 : Int) (x5 : Int) (x6 : Int) (x12 : Int) (x14 : Int) (x24 : Int) (x26 : Int) (all_0 : Int → Int) (r_0 : Int) (texts_0 : Int) (gx : Int) (k2 : 0 ≤ x2 ∧ x2 ≤ 87902919) (k4 : 0 ≤ x4 ∧ x4 ≤ 0) (k5 : 1 ≤ x5 ∧ x5 ≤ 7) (k6 : 2 ≤ x6 ∧ x6 ≤ 8) (k12 : 0 ≤ x12 ∧ x12 ≤ 0) (k14 : 0 ≤ x14 ∧ x14 ≤ 99999994) (k24 : 0 ≤ x24 ∧ x24 ≤ 99999992) (k26 : 0 ≤ x26 ∧ x26 ≤ 99999997) (d0 : x6 + (-4294967296) ≤ x5 ∧ x5 ≤ x6 + (-1)) (f0 : 1 * x26 + ((-1) * x2 + ((-1728031) * x5 + (1728031 * x4 + 0))) ≤ (-1727153)) (f1 : 1 * x24 + ((-1) * x2 + ((-1728031) * x5 + (1728031 * x4 + 0))) ≤ (-1727161)) (f2 : 1 * x14 + ((-1) * x2 + ((-1728031) * x5 + (1728031 * x4 + 0))) ≤ (-1727167)) (f3 : 1 * x6 + ((-1) * all_0 (r_0 + 2) + 0) ≤ 0) (f4 : (-1) * x6 + (1 * all_0 (r_0 + 2) + 0) ≤ 0) (f6 : 1 * texts_0 + ((-1) * x26 + 0) ≤ 3) (f8 : 1 * x26 + ((-1) * x2 + ((-1728031) * x5 + (1728031 * x4 + 0))) ≤ (-1727153)) (f9 : 1 * x24 + ((-1) * x2 + ((-1728031) * x5 + (1728031 * x4 + 0))) ≤ (-1727161)) (f10 : 1 * x14 + ((-1) * x2 + ((-1728031) * x5 + (1728031 * x4 + 0))) ≤ (-1727167)) (f12 : 1 * x24 + ((-1) * x2 + ((-1728031) * x5 + (1728031 * x4 + 0))) ≤ (-1727161)) (f13 : 1 * x14 + ((-1) * x2 + ((-1728031) * x5 + (1728031 * x4 + 0))) ≤ (-1727167)) (f15 : 1 * x14 + ((-1) * x2 + ((-1728031) * x5 + (1728031 * x4 + 0))) ≤ (-1727167)) (f16 : x12 = x4) (f17 : x5 < x6) (kz_0_170 : 0 ≤ texts_0 ∧ texts_0 ≤ 100000000) (ex2 : gx = texts_0) (ex3 : 0 ≤ gx ∧ gx ≤ 98271988) : 1 * gx + ((-1) * x2 + ((-1728031) * x5 + (1728031 * x4 + 0))) ≤ (-1727150) := by
  first | assumption | omega | grind
def o_Mo_writeGroup_at_l0_16 : or_T := (161, 27, [(0, (2, 0, 0, [165])), (2, (0, 0, 87902919, [])), (3, (2, 0, 0, [165])), (4, (0, 0, 0, [])), (5, (0, 1, 7, [])), (6, (0, 2, 8, [])), (12, (0, 0, 0, [])), (14, (0, 0, 99999994, [])), (24, (0, 0, 99999992, [])), (26, (0, 0, 99999997, []))], [(23, [26, 2, 5, 4], [-1727153, 1, -1, -1728031, 1728031]), (23, [24, 2, 5, 4], [-1727161, 1, -1, -1728031, 1728031]), (23, [14, 2, 5, 4], [-1727167, 1, -1, -1728031, 1728031]), (20, [6, 3], [30, 0, 1, 0, 0, -1, 3, 2005002]), (20, [6, 3], [30, 0, -1, 0, 0, 1, 3, 2005002]), (24, [0, 3], []), (20, [3, 26], [30, 3, 1, 1, 170, -1, 0, 0]), (102, [26], [7770675568902916283677847627294075626569627356208558085007249638955617140820833992704, 165170]), (23, [26, 2, 5, 4], [-1727153, 1, -1, -1728031, 1728031]), (23, [24, 2, 5, 4], [-1727161, 1, -1, -1728031, 1728031]), (23, [14, 2, 5, 4], [-1727167, 1, -1, -1728031, 1728031]), (102, [24], [7770675568902916283677847627294075626569627356208558085007249638955617140820833992704, 165170]), (23, [24, 2, 5, 4], [-1727161, 1, -1, -1728031, 1728031]), (23, [14, 2, 5, 4], [-1727167, 1, -1, -1728031, 1728031]), (102, [14], [7770675568902916283677847627294075626569627356208558085007249638955617140820833992704, 165170]), (23, [14, 2, 5, 4], [-1727167, 1, -1, -1728031, 1728031]), (7, [12, 4], [0]), (7, [5, 6], [2])], [], [(0, 0, 98271988, [])], [(20, [3, 27], [30, 0, 1, 1, 170, -1, 0, 0]), (23, [27, 2, 5, 4], [-1727150, 1, -1, -1728031, 1728031])], [], [(5, 6, -4294967296, -1)])
theorem oo_Mo_writeGroup_at_l0_16 {kA : Nat → ClassId} : or_ok PRD kA GG o_Mo_writeGroup_at_l0_16 := by
  refine or_mk fun A ta ws vs hD hth hl => ?_
  intro t0 r0 t2 k2 t3 r3 t4 k4 t5 k5 t6 k6 t12 k12 t14 k14 t24 k24 t26 k26 d0 f0 f1 f2 f3 f4 f5 f6 ta1 w1 le1 s1 f8 f9 f10 ta2 w2 le2 s2 f12 f13 ta3 w3 le3 s3 f15 f16 f17
  replace f0 := shm_1917 f0
  replace f1 := shm_1916 f1
  replace f2 := shm_1915 f2
  replace f3 := shm_132 f3
  replace f4 := shm_133 f4
  replace f5 := shm_5 f5
  replace f6 := shm_236 f6
  replace f8 := shm_1917 f8
  replace f9 := shm_1916 f9
  replace f10 := shm_1915 f10
  replace f12 := shm_1916 f12
  replace f13 := shm_1915 f13
  replace f15 := shm_1915 f15
  replace f16 := shm_37 f16
  replace f17 := shm_6 f17
  have q3 : n_v vs 3 = n_v vs 0 := f5.symm
  simp only [q3] at f3 f4 f6
  have cr_0_2 := fdq_12 hD hth r0
  have kz_0_170 := fdq_13 hD hth r0
  have kv0 := fdq_13 hD hth r0
  obtain ⟨x, ex, hx⟩ := iv_ex (ta := ta) (lo := 0) (hi := 98271988) (z := w_fi ws (n_v vs 0) 170) (by omega) (by omega) (by omega) (by omega)
  have ex2 : v_iv (Value.int x) = w_fi ws (n_v vs 0) 170 := ex
  have ex3 : 0 ≤ v_iv (Value.int x) ∧ v_iv (Value.int x) ≤ 98271988 := tv_rng hx
  have e_2 : n_v (vs ++ [Value.int x]) 2 = n_v vs 2 := n_v_old (by rw [hl]; decide)
  have e_3 : n_v (vs ++ [Value.int x]) 3 = n_v vs 3 := n_v_old (by rw [hl]; decide)
  have e_4 : n_v (vs ++ [Value.int x]) 4 = n_v vs 4 := n_v_old (by rw [hl]; decide)
  have e_5 : n_v (vs ++ [Value.int x]) 5 = n_v vs 5 := n_v_old (by rw [hl]; decide)
  have e_27 : n_v (vs ++ [Value.int x]) 27 = Value.int x := n_v_new hl
  have nf0 : fc_1 PRD (20, [3, 27], [30, 0, 1, 1, 170, -1, 0, 0]) ws (vs ++ [Value.int x]) := by
    refine ⟨nf_inA hl rfl, sgq_140 ?_⟩
    · show 1 * w_fi ws (n_v (vs ++ [Value.int x]) 3) 170 + ((-1) * v_iv (n_v (vs ++ [Value.int x]) 27) + 0) ≤ 0
      simp only [e_3, e_27, q3]
      exact vc_Mo_writeGroup_at_l0_16_0 (v_iv (n_v vs 2)) (v_iv (n_v vs 4)) (v_iv (n_v vs 5)) (v_iv (n_v vs 6)) (v_iv (n_v vs 12)) (v_iv (n_v vs 14)) (v_iv (n_v vs 24)) (v_iv (n_v vs 26)) (w_ei ws (w_ar ws (n_v vs 0) 2)) (w_fi ws (n_v vs 0) 5) (w_fi ws (n_v vs 0) 170) (v_iv (Value.int x)) k2 k4 k5 k6 k12 k14 k24 k26 d0 f0 f1 f2 f3 f4 f6 f8 f9 f10 f12 f13 f15 f16 f17 kz_0_170 ex2 ex3
  have nf1 : fc_1 PRD (23, [27, 2, 5, 4], [-1727150, 1, -1, -1728031, 1728031]) ws (vs ++ [Value.int x]) := by
    refine ⟨nf_inA hl rfl, sgq_1918 ?_⟩
    · show 1 * v_iv (n_v (vs ++ [Value.int x]) 27) + ((-1) * v_iv (n_v (vs ++ [Value.int x]) 2) + ((-1728031) * v_iv (n_v (vs ++ [Value.int x]) 5) + (1728031 * v_iv (n_v (vs ++ [Value.int x]) 4) + 0))) ≤ (-1727150)
      simp only [e_2, e_4, e_5, e_27]
      exact vc_Mo_writeGroup_at_l0_16_1 (v_iv (n_v vs 2)) (v_iv (n_v vs 4)) (v_iv (n_v vs 5)) (v_iv (n_v vs 6)) (v_iv (n_v vs 12)) (v_iv (n_v vs 14)) (v_iv (n_v vs 24)) (v_iv (n_v vs 26)) (w_ei ws (w_ar ws (n_v vs 0) 2)) (w_fi ws (n_v vs 0) 5) (w_fi ws (n_v vs 0) 170) (v_iv (Value.int x)) k2 k4 k5 k6 k12 k14 k24 k26 d0 f0 f1 f2 f3 f4 f6 f8 f9 f10 f12 f13 f15 f16 f17 kz_0_170 ex2 ex3
  exact ⟨(fun _ h => (by cases h)), [Value.int x], ag_one hx, List.forall_mem_cons.mpr ⟨⟨show (20 : Nat) < 100 from by decide, nf0⟩, List.forall_mem_cons.mpr ⟨⟨show (23 : Nat) < 100 from by decide, nf1⟩, (fun _ h => (by cases h))⟩⟩, (fun _ h => (by cases h))⟩
set_option maxHeartbeats 4000000 in
theorem vc_Mo_writeGroup_at_l0_17_0 (x2 : Int) (x4 : Int) (x5 : Int) (x6 : Int) (x12 : Int) (x14 : Int) (x24 : Int) (x26 : Int) (x27 : Int) (all_0 : Int → Int) (r_0 : Int) (texts_0 : Int) (gx : Int) (k2 : 0 ≤ x2 ∧ x2 ≤ 87902919) (k4 : 0 ≤ x4 ∧ x4 ≤ 0) (k5 : 1 ≤ x5 ∧ x5 ≤ 7) (k6 : 2 ≤ x6 ∧ x6 ≤ 8) (k12 : 0 ≤ x12 ∧ x12 ≤ 0) (k14 : 0 ≤ x14 ∧ x14 ≤ 99999994) (k24 : 0 ≤ x24 ∧ x24 ≤ 99999992) (k26 : 0 ≤ x26 ∧ x26 ≤ 99999997) (k27 : 0 ≤ x27 ∧ x27 ≤ 98271988) (d0 : x6 + (-4294967296) ≤ x5 ∧ x5 ≤ x6 + (-1)) (f0 : 1 * x27 + ((-1) * x2 + ((-1728031) * x5 + (1728031 * x4 + 0))) ≤ (-1727150)) (f1 : 1 * x26 + ((-1) * x2 + ((-1728031) * x5 + (1728031 * x4 + 0))) ≤ (-1727153)) (f2 : 1 * x24 + ((-1) * x2 + ((-1728031) * x5 + (1728031 * x4 + 0))) ≤ (-1727161)) (f3 : 1 * x14 + ((-1) * x2 + ((-1728031) * x5 + (1728031 * x4 + 0))) ≤ (-1727167)) (f4 : 1 * x6 + ((-1) * all_0 (r_0 + 2) + 0) ≤ 0) (f5 : (-1) * x6 + (1 * all_0 (r_0 + 2) + 0) ≤ 0) (f7 : 1 * texts_0 + ((-1) * x27 + 0) ≤ 1728012) (f9 : 1 * x27 + ((-1) * x2 + ((-1728031) * x5 + (1728031 * x4 + 0))) ≤ (-1727150)) (f10 : 1 * x26 + ((-1) * x2 + ((-1728031) * x5 + (1728031 * x4 + 0))) ≤ (-1727153)) (f11 : 1 * x24 + ((-1) * x2 + ((-1728031) * x5 + (1728031 * x4 + 0))) ≤ (-1727161)) (f12 : 1 * x14 + ((-1) * x2 + ((-1728031) * x5 + (1728031 * x4 + 0))) ≤ (-1727167)) (f14 : 1 * x26 + ((-1) * x2 + ((-1728031) * x5 + (1728031 * x4 + 0))) ≤ (-1727153)) (f15 : 1 * x24 + ((-1) * x2 + ((-1728031) * x5 + (1728031 * x4 + 0))) ≤ (-1727161)) (f16 : 1 * x14 + ((-1) * x2 + ((-1728031) * x5 + (1728031 * x4 + 0))) ≤ (-1727167)) (f18 : 1 * x24 + ((-1) * x2 + ((-1728031) * x5 + (1728031 * x4 + 0))) ≤ (-1727161)) (f19 : 1 * x14 + ((-1) * x2 + ((-1728031) * x5 + (1728031 * x4 + 0))) ≤ (-1727167)) (f21 : 1 * x14 + ((-1) * x2 + ((-1728031) * x5 + (1728031 * x4 + 0))) ≤ (-1727167)) (f22 : x12 = x4) (f23 : x5 < x6) (kz_0_170 : 0 ≤ texts_0 ∧ texts_0 ≤ 100000000) (ex2 : gx = texts_0) (ex3 : 0 ≤ gx ∧ gx ≤ 99999998) : 1 * texts_0 + ((-1) * gx + 0) ≤ 0 := by
  first | assumption | omega | grind
set_option maxHeartbeats 4000000 in
theorem vc_Mo_writeGroup_at_l0_17_1 (x2 : Int) (x4 : Int) (x5 : Int) (x6 : Int) (x12 : Int) (x14 : Int) (x24 : Int) (x26 : Int) (x27 : Int) (all_0 : Int → Int) (r_0 : Int) (texts_0 : Int) (gx : Int) (k2 : 0 ≤ x2 ∧ x2 ≤ 87902919) (k4 : 0 ≤ x4 ∧ x4 ≤ 0) (k5 : 1 ≤ x5 ∧ x5 ≤ 7) (k6 : 2 ≤ x6 ∧ x6 ≤ 8) (k12 : 0 ≤ x12 ∧ x12 ≤ 0) (k14 : 0 ≤ x14 ∧ x14 ≤ 99999994) (k24 : 0 ≤ x24 ∧ x24 ≤ 99999992) (k26 : 0 ≤ x26 ∧ x26 ≤ 99999997) (k27 : 0 ≤ x27 ∧ x27 ≤ 98271988) (d0 : x6 + (-4294967296) ≤ x5 ∧ x5 ≤ x6 + (-1)) (f0 : 1 * x27 + ((-1) * x2 + ((-1728031) * x5 + (1728031 * x4 + 0))) ≤ (-1727150)) (f1 : 1 * x26 + ((-1) * x2 + ((-1728031) * x5 + (1728031 * x4 + 0))) ≤ (-1727153)) (f2 : 1 * x24 + ((-1) * x2 + ((-1728031) * x5 + (1728031 * x4 + 0))) ≤ (-1727161)) (f3 : 1 * x14 + ((-1) * x2 + ((-1728031) * x5 + (1728031 * x4 + 0))) ≤ (-1727167)) (f4 : 1 * x6 + ((-1) * all_0 (r_0 + 2) + 0) ≤ 0) (f5 : (-1) * x6 + (1 * all_0 (r_0 + 2) + 0) ≤ 0) (f7 : 1 * texts_0 + ((-1) * x27 + 0) ≤ 1728012) (f9 : 1 * x27 + ((-1) * x2 + ((-1728031) * x5 + (1728031 * x4 + 0))) ≤ (-1727150)) (f10 : 1 * x26 + ((-1) * x2 + ((-1728031) * x5 + (1728031 * x4 + 0))) ≤ (-1727153)) (f11 : 1 * x24 + ((-1) * x2 + ((-1728031) * x5 + (1728031 * x4 + 0))) ≤ (-1727161)) (f12 : 1 * x14 + ((-1) * x2 + ((-1728031) * x5 + (1728031 * x4 + 0))) ≤ (-1727167)) (f14 : 1 * x26 + ((-1) * x2 + ((-1728031) * x5 + (1728031 * x4 + 0))) ≤ (-1727153)) (f15 : 1 * x24 + ((-1) * x2 + ((-1728031) * x5 + (1728031 * x4 + 0))) ≤ (-1727161)) (f16 : 1 * x14 + ((-1) * x2 + ((-1728031) * x5 + (1728031 * x4 + 0))) ≤ (-1727167)) (f18 : 1 * x24 + ((-1) * x2 + ((-1728031) * x5 + (1728031 * x4 + 0))) ≤ (-1727161)) (f19 : 1 * x14 + ((-1) * x2 + ((-1728031) * x5 + (1728031 * x4 + 0))) ≤ (-1727167)) (f21 : 1 * x14 + ((-1) * x2 + ((-1728031) * x5 + (1728031 * x4 + 0))) ≤ (-1727167)) (f22 : x12 = x4) (f23 : x5 < x6) (kz_0_170 : 0 ≤ texts_0 ∧ texts_0 ≤ 100000000) (ex2 : gx = texts_0) (ex3 : 0 ≤ gx ∧ gx ≤ 99999998) : 1 * gx + ((-1) * x2 + ((-1728031) * x5 + (1728031 * x4 + 0))) ≤ 862 := by
  first | assumption | omega | grind
def o_Mo_writeGroup_at_l0_17 : or_T := (168, 29, [(0, (2, 0, 0, [165])), (2, (0, 0, 87902919, [])), (3, (2, 0, 0, [165])), (4, (0, 0, 0, [])), (5, (0, 1, 7, [])), (6, (0, 2, 8, [])), (12, (0, 0, 0, [])), (14, (0, 0, 99999994, [])), (24, (0, 0, 99999992, [])), (26, (0, 0, 99999997, [])), (27, (0, 0, 98271988, []))], [(23, [27, 2, 5, 4], [-1727150, 1, -1, -1728031, 1728031]), (23, [26, 2, 5, 4], [-1727153, 1, -1, -1728031, 1728031]), (23, [24, 2, 5, 4], [-1727161, 1, -1, -1728031, 1728031]), (23, [14, 2, 5, 4], [-1727167, 1, -1, -1728031, 1728031]), (20, [6, 3], [30, 0, 1, 0, 0, -1, 3, 2005002]), (20, [6, 3], [30, 0, -1, 0, 0, 1, 3, 2005002]), (24, [0, 3], []), (20, [3, 27], [30, 1728012, 1, 1, 170, -1, 0, 0]), (102, [27], [7770675568902916283677847627294075626569627356208558085007249638955617140820833992704, 165170]), (23, [27, 2, 5, 4], [-1727150, 1, -1, -1728031, 1728031]), (23, [26, 2, 5, 4], [-1727153, 1, -1, -1728031, 1728031]), (23, [24, 2, 5, 4], [-1727161, 1, -1, -1728031, 1728031]), (23, [14, 2, 5, 4], [-1727167, 1, -1, -1728031, 1728031]), (102, [26], [7770675568902916283677847627294075626569627356208558085007249638955617140820833992704, 165170]), (23, [26, 2, 5, 4], [-1727153, 1, -1, -1728031, 1728031]), (23, [24, 2, 5, 4], [-1727161, 1, -1, -1728031, 1728031]), (23, [14, 2, 5, 4], [-1727167, 1, -1, -1728031, 1728031]), (102, [24], [7770675568902916283677847627294075626569627356208558085007249638955617140820833992704, 165170]), (23, [24, 2, 5, 4], [-1727161, 1, -1, -1728031, 1728031]), (23, [14, 2, 5, 4], [-1727167, 1, -1, -1728031, 1728031]), (102, [14], [7770675568902916283677847627294075626569627356208558085007249638955617140820833992704, 165170]), (23, [14, 2, 5, 4], [-1727167, 1, -1, -1728031, 1728031]), (7, [12, 4], [0]), (7, [5, 6], [2])], [], [(0, 0, 99999998, [])], [(20, [3, 29], [30, 0, 1, 1, 170, -1, 0, 0]), (23, [29, 2, 5, 4], [862, 1, -1, -1728031, 1728031])], [], [(5, 6, -4294967296, -1)])
theorem oo_Mo_writeGroup_at_l0_17 {kA : Nat → ClassId} : or_ok PRD kA GG o_Mo_writeGroup_at_l0_17 := by
  refine or_mk fun A ta ws vs hD hth hl => ?_
  intro t0 r0 t2 k2 t3 r3 t4 k4 t5 k5 t6 k6 t12 k12 t14 k14 t24 k24 t26 k26 t27 k27 d0 f0 f1 f2 f3 f4 f5 f6 f7 ta1 w1 le1 s1 f9 f10 f11 f12 ta2 w2 le2 s2 f14 f15 f16 ta3 w3 le3 s3 f18 f19 ta4 w4 le4 s4 f21 f22 f23
  replace f0 := shm_1918 f0
  replace f1 := shm_1917 f1
  replace f2 := shm_1916 f2
  replace f3 := shm_1915 f3
  replace f4 := shm_132 f4
  replace f5 := shm_133 f5
  replace f6 := shm_5 f6
  replace f7 := shm_1919 f7
  replace f9 := shm_1918 f9
  replace f10 := shm_1917 f10
  replace f11 := shm_1916 f11
  replace f12 := shm_1915 f12
  replace f14 := shm_1917 f14
  replace f15 := shm_1916 f15
  replace f16 := shm_1915 f16
  replace f18 := shm_1916 f18
  replace f19 := shm_1915 f19
  replace f21 := shm_1915 f21
  replace f22 := shm_37 f22
  replace f23 := shm_6 f23
  have q3 : n_v vs 3 = n_v vs 0 := f6.symm
  simp only [q3] at f4 f5 f7
  have cr_0_2 := fdq_12 hD hth r0
  have kz_0_170 := fdq_13 hD hth r0
  have kv0 := fdq_13 hD hth r0
  obtain ⟨x, ex, hx⟩ := iv_ex (ta := ta) (lo := 0) (hi := 99999998) (z := w_fi ws (n_v vs 0) 170) (by omega) (by omega) (by omega) (by omega)
  have ex2 : v_iv (Value.int x) = w_fi ws (n_v vs 0) 170 := ex
  have ex3 : 0 ≤ v_iv (Value.int x) ∧ v_iv (Value.int x) ≤ 99999998 := tv_rng hx
  have e_2 : n_v (vs ++ [Value.int x]) 2 = n_v vs 2 := n_v_old (by rw [hl]; decide)
  have e_3 : n_v (vs ++ [Value.int x]) 3 = n_v vs 3 := n_v_old (by rw [hl]; decide)
  have e_4 : n_v (vs ++ [Value.int x]) 4 = n_v vs 4 := n_v_old (by rw [hl]; decide)
  have e_5 : n_v (vs ++ [Value.int x]) 5 = n_v vs 5 := n_v_old (by rw [hl]; decide)
  have e_29 : n_v (vs ++ [Value.int x]) 29 = Value.int x := n_v_new hl
  have nf0 : fc_1 PRD (20, [3, 29], [30, 0, 1, 1, 170, -1, 0, 0]) ws (vs ++ [Value.int x]) := by
    refine ⟨nf_inA hl rfl, sgq_140 ?_⟩
    · show 1 * w_fi ws (n_v (vs ++ [Value.int x]) 3) 170 + ((-1) * v_iv (n_v (vs ++ [Value.int x]) 29) + 0) ≤ 0
      simp only [e_3, e_29, q3]
      exact vc_Mo_writeGroup_at_l0_17_0 (v_iv (n_v vs 2)) (v_iv (n_v vs 4)) (v_iv (n_v vs 5)) (v_iv (n_v vs 6)) (v_iv (n_v vs 12)) (v_iv (n_v vs 14)) (v_iv (n_v vs 24)) (v_iv (n_v vs 26)) (v_iv (n_v vs 27)) (w_ei ws (w_ar ws (n_v vs 0) 2)) (w_fi ws (n_v vs 0) 5) (w_fi ws (n_v vs 0) 170) (v_iv (Value.int x)) k2 k4 k5 k6 k12 k14 k24 k26 k27 d0 f0 f1 f2 f3 f4 f5 f7 f9 f10 f11 f12 f14 f15 f16 f18 f19 f21 f22 f23 kz_0_170 ex2 ex3
  have nf1 : fc_1 PRD (23, [29, 2, 5, 4], [862, 1, -1, -1728031, 1728031]) ws (vs ++ [Value.int x]) := by
    refine ⟨nf_inA hl rfl, sgq_1920 ?_⟩
    · show 1 * v_iv (n_v (vs ++ [Value.int x]) 29) + ((-1) * v_iv (n_v (vs ++ [Value.int x]) 2) + ((-1728031) * v_iv (n_v (vs ++ [Value.int x]) 5) + (1728031 * v_iv (n_v (vs ++ [Value.int x]) 4) + 0))) ≤ 862
      simp only [e_2, e_4, e_5, e_29]
      exact vc_Mo_writeGroup_at_l0_17_1 (v_iv (n_v vs 2)) (v_iv (n_v vs 4)) (v_iv (n_v vs 5)) (v_iv (n_v vs 6)) (v_iv (n_v vs 12)) (v_iv (n_v vs 14)) (v_iv (n_v vs 24)) (v_iv (n_v vs 26)) (v_iv (n_v vs 27)) (w_ei ws (w_ar ws (n_v vs 0) 2)) (w_fi ws (n_v vs 0) 5) (w_fi ws (n_v vs 0) 170) (v_iv (Value.int x)) k2 k4 k5 k6 k12 k14 k24 k26 k27 d0 f0 f1 f2 f3 f4 f5 f7 f9 f10 f11 f12 f14 f15 f16 f18 f19 f21 f22 f23 kz_0_170 ex2 ex3
  exact ⟨(fun _ h => (by cases h)), [Value.int x], ag_one hx, List.forall_mem_cons.mpr ⟨⟨show (20 : Nat) < 100 from by decide, nf0⟩, List.forall_mem_cons.mpr ⟨⟨show (23 : Nat) < 100 from by decide, nf1⟩, (fun _ h => (by cases h))⟩⟩, (fun _ h => (by cases h))⟩
set_option maxHeartbeats 4000000 in
theorem vc_Mo_writeGroup_at_l0_18_0 (x2 : Int) (x4 : Int) (x5 : Int) (x6 : Int) (x12 : Int) (x14 : Int) (x24 : Int) (x26 : Int) (x27 : Int) (x29 : Int) (x30 : Int) (all_0 : Int → Int) (r_0 : Int) (texts_0 : Int) (k2 : 0 ≤ x2 ∧ x2 ≤ 87902919) (k4 : 0 ≤ x4 ∧ x4 ≤ 0) (k5 : 1 ≤ x5 ∧ x5 ≤ 7) (k6 : 2 ≤ x6 ∧ x6 ≤ 8) (k12 : 0 ≤ x12 ∧ x12 ≤ 0) (k14 : 0 ≤ x14 ∧ x14 ≤ 99999994) (k24 : 0 ≤ x24 ∧ x24 ≤ 99999992) (k26 : 0 ≤ x26 ∧ x26 ≤ 99999997) (k27 : 0 ≤ x27 ∧ x27 ≤ 98271988) (k29 : 0 ≤ x29 ∧ x29 ≤ 99999998) (k30 : 2 ≤ x30 ∧ x30 ≤ 8) (d0 : x5 + 1 ≤ x30 ∧ x30 ≤ x5 + 1) (d1 : x6 + (-4294967296) ≤ x30 ∧ x30 ≤ x6 + 0) (d2 : x6 + (-4294967296) ≤ x5 ∧ x5 ≤ x6 + (-1)) (f0 : x30 = x5 + 1) (f1 : 1 * x29 + ((-1) * x2 + ((-1728031) * x5 + (1728031 * x4 + 0))) ≤ 862) (f2 : 1 * x27 + ((-1) * x2 + ((-1728031) * x5 + (1728031 * x4 + 0))) ≤ (-1727150)) (f3 : 1 * x26 + ((-1) * x2 + ((-1728031) * x5 + (1728031 * x4 + 0))) ≤ (-1727153)) (f4 : 1 * x24 + ((-1) * x2 + ((-1728031) * x5 + (1728031 * x4 + 0))) ≤ (-1727161)) (f5 : 1 * x14 + ((-1) * x2 + ((-1728031) * x5 + (1728031 * x4 + 0))) ≤ (-1727167)) (f6 : 1 * x6 + ((-1) * all_0 (r_0 + 2) + 0) ≤ 0) (f7 : (-1) * x6 + (1 * all_0 (r_0 + 2) + 0) ≤ 0) (f9 : 1 * texts_0 + ((-1) * x29 + 0) ≤ 2) (f11 : 1 * x29 + ((-1) * x2 + ((-1728031) * x5 + (1728031 * x4 + 0))) ≤ 862) (f12 : 1 * x27 + ((-1) * x2 + ((-1728031) * x5 + (1728031 * x4 + 0))) ≤ (-1727150)) (f13 : 1 * x26 + ((-1) * x2 + ((-1728031) * x5 + (1728031 * x4 + 0))) ≤ (-1727153)) (f14 : 1 * x24 + ((-1) * x2 + ((-1728031) * x5 + (1728031 * x4 + 0))) ≤ (-1727161)) (f15 : 1 * x14 + ((-1) * x2 + ((-1728031) * x5 + (1728031 * x4 + 0))) ≤ (-1727167)) (f17 : 1 * x27 + ((-1) * x2 + ((-1728031) * x5 + (1728031 * x4 + 0))) ≤ (-1727150)) (f18 : 1 * x26 + ((-1) * x2 + ((-1728031) * x5 + (1728031 * x4 + 0))) ≤ (-1727153)) (f19 : 1 * x24 + ((-1) * x2 + ((-1728031) * x5 + (1728031 * x4 + 0))) ≤ (-1727161)) (f20 : 1 * x14 + ((-1) * x2 + ((-1728031) * x5 + (1728031 * x4 + 0))) ≤ (-1727167)) (f22 : 1 * x26 + ((-1) * x2 + ((-1728031) * x5 + (1728031 * x4 + 0))) ≤ (-1727153)) (f23 : 1 * x24 + ((-1) * x2 + ((-1728031) * x5 + (1728031 * x4 + 0))) ≤ (-1727161)) (f24 : 1 * x14 + ((-1) * x2 + ((-1728031) * x5 + (1728031 * x4 + 0))) ≤ (-1727167)) (f26 : 1 * x24 + ((-1) * x2 + ((-1728031) * x5 + (1728031 * x4 + 0))) ≤ (-1727161)) (f27 : 1 * x14 + ((-1) * x2 + ((-1728031) * x5 + (1728031 * x4 + 0))) ≤ (-1727167)) (f29 : 1 * x14 + ((-1) * x2 + ((-1728031) * x5 + (1728031 * x4 + 0))) ≤ (-1727167)) (f30 : x12 = x4) (f31 : x5 < x6) (kz_0_170 : 0 ≤ texts_0 ∧ texts_0 ≤ 100000000) : 1 * texts_0 + ((-1) * x2 + ((-1728031) * x30 + (1728031 * x4 + 0))) ≤ (-1727167) := by
  first | assumption | omega | grind
def o_Mo_writeGroup_at_l0_18 : or_T := (83, 31, [(0, (2, 0, 0, [165])), (2, (0, 0, 87902919, [])), (4, (0, 0, 0, [])), (5, (0, 1, 7, [])), (6, (0, 2, 8, [])), (12, (0, 0, 0, [])), (14, (0, 0, 99999994, [])), (24, (0, 0, 99999992, [])), (26, (0, 0, 99999997, [])), (27, (0, 0, 98271988, [])), (29, (0, 0, 99999998, [])), (30, (0, 2, 8, []))], [(6, [30, 5], [1]), (23, [29, 2, 5, 4], [862, 1, -1, -1728031, 1728031]), (23, [27, 2, 5, 4], [-1727150, 1, -1, -1728031, 1728031]), (23, [26, 2, 5, 4], [-1727153, 1, -1, -1728031, 1728031]), (23, [24, 2, 5, 4], [-1727161, 1, -1, -1728031, 1728031]), (23, [14, 2, 5, 4], [-1727167, 1, -1, -1728031, 1728031]), (20, [6, 3], [30, 0, 1, 0, 0, -1, 3, 2005002]), (20, [6, 3], [30, 0, -1, 0, 0, 1, 3, 2005002]), (24, [0, 3], []), (20, [3, 29], [30, 2, 1, 1, 170, -1, 0, 0]), (102, [29], [7770675568902916283677847627294075626569627356208558085007249638955617140820833992704, 165170]), (23, [29, 2, 5, 4], [862, 1, -1, -1728031, 1728031]), (23, [27, 2, 5, 4], [-1727150, 1, -1, -1728031, 1728031]), (23, [26, 2, 5, 4], [-1727153, 1, -1, -1728031, 1728031]), (23, [24, 2, 5, 4], [-1727161, 1, -1, -1728031, 1728031]), (23, [14, 2, 5, 4], [-1727167, 1, -1, -1728031, 1728031]), (102, [27], [7770675568902916283677847627294075626569627356208558085007249638955617140820833992704, 165170]), (23, [27, 2, 5, 4], [-1727150, 1, -1, -1728031, 1728031]), (23, [26, 2, 5, 4], [-1727153, 1, -1, -1728031, 1728031]), (23, [24, 2, 5, 4], [-1727161, 1, -1, -1728031, 1728031]), (23, [14, 2, 5, 4], [-1727167, 1, -1, -1728031, 1728031]), (102, [26], [7770675568902916283677847627294075626569627356208558085007249638955617140820833992704, 165170]), (23, [26, 2, 5, 4], [-1727153, 1, -1, -1728031, 1728031]), (23, [24, 2, 5, 4], [-1727161, 1, -1, -1728031, 1728031]), (23, [14, 2, 5, 4], [-1727167, 1, -1, -1728031, 1728031]), (102, [24], [7770675568902916283677847627294075626569627356208558085007249638955617140820833992704, 165170]), (23, [24, 2, 5, 4], [-1727161, 1, -1, -1728031, 1728031]), (23, [14, 2, 5, 4], [-1727167, 1, -1, -1728031, 1728031]), (102, [14], [7770675568902916283677847627294075626569627356208558085007249638955617140820833992704, 165170]), (23, [14, 2, 5, 4], [-1727167, 1, -1, -1728031, 1728031]), (7, [12, 4], [0]), (7, [5, 6], [2])], [], [], [(20, [3, 2, 30, 4], [30, -1727167, 1, 1, 170, -1, 0, 0, -1728031, 0, 0, 1728031, 0, 0])], [], [(30, 5, 1, 1), (30, 6, -4294967296, 0), (5, 6, -4294967296, -1)])
theorem oo_Mo_writeGroup_at_l0_18 {kA : Nat → ClassId} : or_ok PRD kA GG o_Mo_writeGroup_at_l0_18 := by
  refine or_mk fun A ta ws vs hD hth hl => ?_
  intro t0 r0 t2 k2 t4 k4 t5 k5 t6 k6 t12 k12 t14 k14 t24 k24 t26 k26 t27 k27 t29 k29 t30 k30 d0 d1 d2 f0 f1 f2 f3 f4 f5 f6 f7 f8 f9 ta1 w1 le1 s1 f11 f12 f13 f14 f15 ta2 w2 le2 s2 f17 f18 f19 f20 ta3 w3 le3 s3 f22 f23 f24 ta4 w4 le4 s4 f26 f27 ta5 w5 le5 s5 f29 f30 f31
  replace f0 := shm_4 f0
  replace f1 := shm_1920 f1
  replace f2 := shm_1918 f2
  replace f3 := shm_1917 f3
  replace f4 := shm_1916 f4
  replace f5 := shm_1915 f5
  replace f6 := shm_132 f6
  replace f7 := shm_133 f7
  replace f8 := shm_5 f8
  replace f9 := shm_234 f9
  replace f11 := shm_1920 f11
  replace f12 := shm_1918 f12
  replace f13 := shm_1917 f13
  replace f14 := shm_1916 f14
  replace f15 := shm_1915 f15
  replace f17 := shm_1918 f17
  replace f18 := shm_1917 f18
  replace f19 := shm_1916 f19
  replace f20 := shm_1915 f20
  replace f22 := shm_1917 f22
  replace f23 := shm_1916 f23
  replace f24 := shm_1915 f24
  replace f26 := shm_1916 f26
  replace f27 := shm_1915 f27
  replace f29 := shm_1915 f29
  replace f30 := shm_37 f30
  replace f31 := shm_6 f31
  have q3 : n_v vs 3 = n_v vs 0 := f8.symm
  simp only [q3] at f6 f7 f9
  have kz_0_170 := fdq_13 hD hth r0
  have nf0 : fc_1 PRD (20, [3, 2, 30, 4], [30, -1727167, 1, 1, 170, -1, 0, 0, -1728031, 0, 0, 1728031, 0, 0]) ws (vs) := by
    refine ⟨nf_in hl rfl, sgq_1907 ?_⟩
    · show 1 * w_fi ws (n_v vs 3) 170 + ((-1) * v_iv (n_v vs 2) + ((-1728031) * v_iv (n_v vs 30) + (1728031 * v_iv (n_v vs 4) + 0))) ≤ (-1727167)
      rw [q3]
      exact vc_Mo_writeGroup_at_l0_18_0 (v_iv (n_v vs 2)) (v_iv (n_v vs 4)) (v_iv (n_v vs 5)) (v_iv (n_v vs 6)) (v_iv (n_v vs 12)) (v_iv (n_v vs 14)) (v_iv (n_v vs 24)) (v_iv (n_v vs 26)) (v_iv (n_v vs 27)) (v_iv (n_v vs 29)) (v_iv (n_v vs 30)) (w_ei ws (w_ar ws (n_v vs 0) 2)) (w_fi ws (n_v vs 0) 5) (w_fi ws (n_v vs 0) 170) k2 k4 k5 k6 k12 k14 k24 k26 k27 k29 k30 d0 d1 d2 f0 f1 f2 f3 f4 f5 f6 f7 f9 f11 f12 f13 f14 f15 f17 f18 f19 f20 f22 f23 f24 f26 f27 f29 f30 f31 kz_0_170
  refine ⟨(fun _ h => (by cases h)), [], trivial, ?_, (fun _ h => (by cases h))⟩
  rw [List.append_nil]
  exact List.forall_mem_cons.mpr ⟨⟨show (20 : Nat) < 100 from by decide, nf0⟩, (fun _ h => (by cases h))⟩
def o_Mo_writeGroup_at_l0_19 : or_T := (83, 14, [(0, (2, 0, 0, [165])), (2, (0, 0, 87902919, [])), (3, (2, 0, 0, [165])), (4, (0, 0, 0, [])), (5, (0, 1, 7, [])), (6, (0, 2, 8, [])), (7, (2, 0, 0, [167])), (8, (0, 0, 66297, [])), (9, (0, 531, 531, [])), (10, (0, 531, 66828, [])), (11, (0, 532, 66835, [])), (12, (0, -1, 6, [])), (13, (0, 2, 8, []))], [(6, [13, 5], [1]), (7, [12, 4], [1]), (10, [12, 7, 11], []), (1, [11, 10, 5], []), (1, [10, 8, 9], []), (9, [8, 3], [5]), (9, [7, 3], [2]), (7, [5, 6], [2]), (20, [6, 3], [30, 0, 1, 0, 0, -1, 3, 2005002]), (20, [6, 3], [30, 0, -1, 0, 0, 1, 3, 2005002]), (20, [3, 2, 5, 4], [30, -1727167, 1, 1, 170, -1, 0, 0, -1728031, 0, 0, 1728031, 0, 0]), (24, [0, 3], [])], [], [], [(20, [3, 2, 13, 4], [30, -1727167, 1, 1, 170, -1, 0, 0, -1728031, 0, 0, 1728031, 0, 0])], [], [(13, 5, 1, 1), (13, 6, -4294967296, 0), (11, 5, 531, 66828), (11, 6, -4294967296, 66827), (11, 10, 1, 7), (11, 8, 532, 538), (10, 8, 531, 531), (5, 6, -4294967296, -1)])
theorem oo_Mo_writeGroup_at_l0_19 {kA : Nat → ClassId} : or_ok PRD kA GG o_Mo_writeGroup_at_l0_19 := by
  refine or_mk fun A ta ws vs hD hth hl => ?_
  intro t0 r0 t2 k2 t3 r3 t4 k4 t5 k5 t6 k6 t7 r7 t8 k8 t9 k9 t10 k10 t11 k11 t12 k12 t13 k13 d0 d1 d2 d3 d4 d5 d6 d7 f0 f1 f2 f3 f4 f5 f6 f7 f8 f9 f10 f11
  replace f0 := shm_4 f0
  replace f1 := shm_40 f1
  replace f2 := shm_106 f2
  replace f3 := shm_12 f3
  replace f4 := shm_12 f4
  replace f5 := shm_109 f5
  replace f6 := shm_129 f6
  replace f7 := shm_6 f7
  replace f8 := shm_132 f8
  replace f9 := shm_133 f9
  replace f10 := shm_1907 f10
  replace f11 := shm_5 f11
  have q3 : n_v vs 3 = n_v vs 0 := f11.symm
  simp only [q3] at f5 f6 f8 f9 f10
  have cr_0_2 := fdq_12 hD hth r0
  have ad_7 : v_ad (n_v vs 7) = w_ar ws (n_v vs 0) 2 := congrArg v_ad f6
  simp only [ad_7] at f2
  have h2 : v_iv (n_v vs 12) = w_ei ws (w_ar ws (n_v vs 0) 2) (v_iv (n_v vs 11)) := f2
  have g5 : v_iv (n_v vs 8) = w_fi ws (n_v vs 0) 5 := congrArg v_iv f5
  have cg2_F5_2 : v_iv (n_v vs 11) = w_fi ws (n_v vs 0) 5 + 2 → w_el ws (w_ar ws (n_v vs 0) 2) (v_iv (n_v vs 11)).toNat = w_el ws (w_ar ws (n_v vs 0) 2) (w_fi ws (n_v vs 0) 5 + 2).toNat := fun h => by rw [h]
  have kz_0_170 := fdq_13 hD hth r0
  have nf0 : fc_1 PRD (20, [3, 2, 13, 4], [30, -1727167, 1, 1, 170, -1, 0, 0, -1728031, 0, 0, 1728031, 0, 0]) ws (vs) := by
    refine ⟨nf_in hl rfl, sgq_1907 ?_⟩
    · show 1 * w_fi ws (n_v vs 3) 170 + ((-1) * v_iv (n_v vs 2) + ((-1728031) * v_iv (n_v vs 13) + (1728031 * v_iv (n_v vs 4) + 0))) ≤ (-1727167)
      rw [q3]
      omega
  refine ⟨(fun _ h => (by cases h)), [], trivial, ?_, (fun _ h => (by cases h))⟩
  rw [List.append_nil]
  exact List.forall_mem_cons.mpr ⟨⟨show (20 : Nat) < 100 from by decide, nf0⟩, (fun _ h => (by cases h))⟩
def n_Mo_writeGroup_at_l0_an : List an_T := [(2, [(0, (2, 0, 0, [165])), (1, (0, 0, 0, [])), (2, (0, 0, 24, []))], [], (0, 0), [(0, 0, 99998), (1, 5, 24), (0, 0, 100000)], [], [], [(2, 0, 0, [165]), (0, 0, 0, []), (0, 0, 87902919, [])], 0, [], [(20, [3, 2, 5], [30, 0, 1, 1, 170, (Int.negSucc 0), 0, 0, (Int.negSucc 35), 0, 0]), (24, [0, 3], [])]), (83, [(0, (2, 0, 0, [165])), (1, (0, 0, 0, [])), (2, (0, 1, 8, []))], [], (0, 0), [(0, 0, 99917), (1, 5, 8), (0, 0, 100000)], [], [], [(2, 0, 0, [165]), (0, 0, 0, []), (0, 0, 87902919, [])], 0, [], [(20, [3, 2, 5, 4], [30, (Int.negSucc 1727166), 1, 1, 170, (Int.negSucc 0), 0, 0, (Int.negSucc 1728030), 0, 0, 1728031, 0, 0]), (24, [0, 3], [])])]
def t_Mo_writeGroup_at_l0_ct : ct_L := [(1, 475, e_Mo_nodes), (1, 509, e_Mo_groups), (1, 723, e_Mo_size), (1, 725, e_Mo_groupOf), (1, 1285, e_Mo_writeName), (1, 1293, e_Mo_writeNode), (1, 1298, e_Mo_writeNumber), (82, 1290, e_Mo_write_at_s5013), (145, 1290, e_Mo_write_at_s5014), (193, 1290, e_Mo_write_at_s5045), (214, 1290, e_Mo_write_at_s5015), (355, 1290, e_Mo_write_at_s5016), (472, 1290, e_Mo_write_at_s5017), (487, 1309, e_Mo_writeGroup_at_l1), (508, 1290, e_Mo_write_at_s5018), (1000001, 1288, en_ro [] (2, 0, 0, [5013])), (1000001, 1296, en_ro [] (2, 0, 0, [5014])), (1000001, 1301, en_ro [] (2, 0, 0, [5045])), (1000001, 1303, en_ro [] (2, 0, 0, [5015])), (1000001, 1305, en_ro [] (2, 0, 0, [5016])), (1000001, 1307, en_ro [] (2, 0, 0, [5017])), (1000001, 1312, en_ro [] (2, 0, 0, [5018]))]
set_option maxRecDepth 100000 in
theorem c_Mo_writeGroup_at_l0 {l : Launch} {D : va_G} {kA : Nat → ClassId} (h_Mo_groupOf : ct_ok PRD l D kA GG y_Mo_groupOf z_Mo_groupOf e_Mo_groupOf) (h_Mo_groups : ct_ok PRD l D kA GG y_Mo_groups z_Mo_groups e_Mo_groups) (h_Mo_nodes : ct_ok PRD l D kA GG y_Mo_nodes z_Mo_nodes e_Mo_nodes) (h_Mo_size : ct_ok PRD l D kA GG y_Mo_size z_Mo_size e_Mo_size) (h_Mo_writeGroup_at_l1 : ct_ok PRD l D kA GG y_Mo_writeGroup_at_l1 z_Mo_writeGroup_at_l1 e_Mo_writeGroup_at_l1) (h_Mo_writeName : ct_ok PRD l D kA GG y_Mo_writeName z_Mo_writeName e_Mo_writeName) (h_Mo_writeNode : ct_ok PRD l D kA GG y_Mo_writeNode z_Mo_writeNode e_Mo_writeNode) (h_Mo_writeNumber : ct_ok PRD l D kA GG y_Mo_writeNumber z_Mo_writeNumber e_Mo_writeNumber) (h_Mo_write_at_s5013 : ct_ok PRD l D kA GG y_Mo_write_at_s5013 z_Mo_write_at_s5013 e_Mo_write_at_s5013) (h_Mo_write_at_s5014 : ct_ok PRD l D kA GG y_Mo_write_at_s5014 z_Mo_write_at_s5014 e_Mo_write_at_s5014) (h_Mo_write_at_s5015 : ct_ok PRD l D kA GG y_Mo_write_at_s5015 z_Mo_write_at_s5015 e_Mo_write_at_s5015) (h_Mo_write_at_s5016 : ct_ok PRD l D kA GG y_Mo_write_at_s5016 z_Mo_write_at_s5016 e_Mo_write_at_s5016) (h_Mo_write_at_s5017 : ct_ok PRD l D kA GG y_Mo_write_at_s5017 z_Mo_write_at_s5017 e_Mo_write_at_s5017) (h_Mo_write_at_s5018 : ct_ok PRD l D kA GG y_Mo_write_at_s5018 z_Mo_write_at_s5018 e_Mo_write_at_s5018) (h_Mo_write_at_s5045 : ct_ok PRD l D kA GG y_Mo_write_at_s5045 z_Mo_write_at_s5045 e_Mo_write_at_s5045) : ct_ok PRD l D kA GG y_Mo_writeGroup_at_l0 z_Mo_writeGroup_at_l0 e_Mo_writeGroup_at_l0 := chk_all_ok (FT := [(16, 13, 2), (391, 13, 5)]) (PT := []) (CT := t_Mo_writeGroup_at_l0_ct) (KT := []) (NT := []) (AN := n_Mo_writeGroup_at_l0_an) (OT := [o_Mo_writeGroup_at_l0_0, o_Mo_writeGroup_at_l0_1, o_Mo_writeGroup_at_l0_2, o_Mo_writeGroup_at_l0_3, o_Mo_writeGroup_at_l0_4, o_Mo_writeGroup_at_l0_5, o_Mo_writeGroup_at_l0_6, o_Mo_writeGroup_at_l0_7, o_Mo_writeGroup_at_l0_8, o_Mo_writeGroup_at_l0_9, o_Mo_writeGroup_at_l0_10, o_Mo_writeGroup_at_l0_11, o_Mo_writeGroup_at_l0_12, o_Mo_writeGroup_at_l0_13, o_Mo_writeGroup_at_l0_14, o_Mo_writeGroup_at_l0_15, o_Mo_writeGroup_at_l0_16, o_Mo_writeGroup_at_l0_17, o_Mo_writeGroup_at_l0_18, o_Mo_writeGroup_at_l0_19]) 3 408 (List.forall_mem_cons.mpr ⟨oo_Mo_writeGroup_at_l0_0, List.forall_mem_cons.mpr ⟨oo_Mo_writeGroup_at_l0_1, List.forall_mem_cons.mpr ⟨oo_Mo_writeGroup_at_l0_2, List.forall_mem_cons.mpr ⟨oo_Mo_writeGroup_at_l0_3, List.forall_mem_cons.mpr ⟨oo_Mo_writeGroup_at_l0_4, List.forall_mem_cons.mpr ⟨oo_Mo_writeGroup_at_l0_5, List.forall_mem_cons.mpr ⟨oo_Mo_writeGroup_at_l0_6, List.forall_mem_cons.mpr ⟨oo_Mo_writeGroup_at_l0_7, List.forall_mem_cons.mpr ⟨oo_Mo_writeGroup_at_l0_8, List.forall_mem_cons.mpr ⟨oo_Mo_writeGroup_at_l0_9, List.forall_mem_cons.mpr ⟨oo_Mo_writeGroup_at_l0_10, List.forall_mem_cons.mpr ⟨oo_Mo_writeGroup_at_l0_11, List.forall_mem_cons.mpr ⟨oo_Mo_writeGroup_at_l0_12, List.forall_mem_cons.mpr ⟨oo_Mo_writeGroup_at_l0_13, List.forall_mem_cons.mpr ⟨oo_Mo_writeGroup_at_l0_14, List.forall_mem_cons.mpr ⟨oo_Mo_writeGroup_at_l0_15, List.forall_mem_cons.mpr ⟨oo_Mo_writeGroup_at_l0_16, List.forall_mem_cons.mpr ⟨oo_Mo_writeGroup_at_l0_17, List.forall_mem_cons.mpr ⟨oo_Mo_writeGroup_at_l0_18, List.forall_mem_cons.mpr ⟨oo_Mo_writeGroup_at_l0_19, List.forall_mem_nil _⟩⟩⟩⟩⟩⟩⟩⟩⟩⟩⟩⟩⟩⟩⟩⟩⟩⟩⟩⟩) (by decide +kernel) ⟨List.forall_mem_cons.mpr ⟨gf_Mo_16, List.forall_mem_cons.mpr ⟨gf_Mo_391, List.forall_mem_nil _⟩⟩, List.forall_mem_nil _, List.forall_mem_cons.mpr ⟨cl_virtual (y := y_Mo_nodes) (ci := 13) rfl rfl ⟨_, _, rfl⟩ (by decide +kernel) h_Mo_nodes wm_3025 wm_9 wm_3022 wm_3024 wv_13_3 ⟨by decide, by decide, by decide +kernel⟩ (by decide), List.forall_mem_cons.mpr ⟨cl_virtual (y := y_Mo_groups) (ci := 13) rfl rfl ⟨_, _, rfl⟩ (by decide +kernel) h_Mo_groups wm_3070 wm_9 wm_3067 wm_3069 wv_13_14 ⟨by decide, by decide, by decide +kernel⟩ (by decide), List.forall_mem_cons.mpr ⟨cl_virtual (y := y_Mo_size) (ci := 13) rfl rfl ⟨_, _, rfl⟩ (by decide +kernel) h_Mo_size wm_3307 wm_9 wm_3304 wm_3306 wv_17_0 ⟨by decide, by decide, by decide +kernel⟩ (by decide), List.forall_mem_cons.mpr ⟨cl_virtual (y := y_Mo_groupOf) (ci := 13) rfl rfl ⟨_, _, rfl⟩ (by decide +kernel) h_Mo_groupOf wm_3311 wm_9 wm_3308 wm_3310 wv_17_1 ⟨by decide, by decide, by decide +kernel⟩ (by decide), List.forall_mem_cons.mpr ⟨cl_virtual (y := y_Mo_writeName) (ci := 13) rfl rfl ⟨_, _, rfl⟩ (by decide +kernel) h_Mo_writeName wm_3922 wm_9 wm_3919 wm_3921 wv_24_10 ⟨by decide, by decide, by decide +kernel⟩ (by decide), List.forall_mem_cons.mpr ⟨cl_virtual (y := y_Mo_writeNode) (ci := 13) rfl rfl ⟨_, _, rfl⟩ (by decide +kernel) h_Mo_writeNode wm_3918 wm_9 wm_3915 wm_3917 wv_24_9 ⟨by decide, by decide, by decide +kernel⟩ (by decide), List.forall_mem_cons.mpr ⟨cl_virtual (y := y_Mo_writeNumber) (ci := 13) rfl rfl ⟨_, _, rfl⟩ (by decide +kernel) h_Mo_writeNumber wm_3927 wm_9 wm_3924 wm_3926 wv_24_11 ⟨by decide, by decide, by decide +kernel⟩ (by decide), List.forall_mem_cons.mpr ⟨cl_virtual (y := y_Mo_write_at_s5013) (ci := 13) rfl rfl ⟨_, _, rfl⟩ (by decide +kernel) h_Mo_write_at_s5013 wm_3910 wm_9 wm_3907 wm_3909 wv_24_7 ⟨by decide, by decide, by decide +kernel⟩ (by decide), List.forall_mem_cons.mpr ⟨cl_virtual (y := y_Mo_write_at_s5014) (ci := 13) rfl rfl ⟨_, _, rfl⟩ (by decide +kernel) h_Mo_write_at_s5014 wm_3910 wm_9 wm_3907 wm_3909 wv_24_7 ⟨by decide, by decide, by decide +kernel⟩ (by decide), List.forall_mem_cons.mpr ⟨cl_virtual (y := y_Mo_write_at_s5045) (ci := 13) rfl rfl ⟨_, _, rfl⟩ (by decide +kernel) h_Mo_write_at_s5045 wm_3910 wm_9 wm_3907 wm_3909 wv_24_7 ⟨by decide, by decide, by decide +kernel⟩ (by decide), List.forall_mem_cons.mpr ⟨cl_virtual (y := y_Mo_write_at_s5015) (ci := 13) rfl rfl ⟨_, _, rfl⟩ (by decide +kernel) h_Mo_write_at_s5015 wm_3910 wm_9 wm_3907 wm_3909 wv_24_7 ⟨by decide, by decide, by decide +kernel⟩ (by decide), List.forall_mem_cons.mpr ⟨cl_virtual (y := y_Mo_write_at_s5016) (ci := 13) rfl rfl ⟨_, _, rfl⟩ (by decide +kernel) h_Mo_write_at_s5016 wm_3910 wm_9 wm_3907 wm_3909 wv_24_7 ⟨by decide, by decide, by decide +kernel⟩ (by decide), List.forall_mem_cons.mpr ⟨cl_virtual (y := y_Mo_write_at_s5017) (ci := 13) rfl rfl ⟨_, _, rfl⟩ (by decide +kernel) h_Mo_write_at_s5017 wm_3910 wm_9 wm_3907 wm_3909 wv_24_7 ⟨by decide, by decide, by decide +kernel⟩ (by decide), List.forall_mem_cons.mpr ⟨cl_virtual (y := y_Mo_writeGroup_at_l1) (ci := 13) rfl rfl ⟨_, _, rfl⟩ (by decide +kernel) h_Mo_writeGroup_at_l1 wm_3905 wm_9 wm_3902 wm_3904 wv_24_6 ⟨by decide, by decide, by decide +kernel⟩ (by decide), List.forall_mem_cons.mpr ⟨cl_virtual (y := y_Mo_write_at_s5018) (ci := 13) rfl rfl ⟨_, _, rfl⟩ (by decide +kernel) h_Mo_write_at_s5018 wm_3910 wm_9 wm_3907 wm_3909 wv_24_7 ⟨by decide, by decide, by decide +kernel⟩ (by decide), List.forall_mem_cons.mpr ⟨cl_ldcw (own := "DrawingHouseModel") (idx := 1288) (i := 13) (tx := "node ") (by decide +kernel) (by decide +kernel) (by decide +kernel), List.forall_mem_cons.mpr ⟨cl_ldcw (own := "DrawingHouseModel") (idx := 1296) (i := 14) (tx := " [size=") (by decide +kernel) (by decide +kernel) (by decide +kernel), List.forall_mem_cons.mpr ⟨cl_ldcw (own := "DrawingHouseModel") (idx := 1301) (i := 45) (tx := "]") (by decide +kernel) (by decide +kernel) (by decide +kernel), List.forall_mem_cons.mpr ⟨cl_ldcw (own := "DrawingHouseModel") (idx := 1303) (i := 15) (tx := ";\n") (by decide +kernel) (by decide +kernel) (by decide +kernel), List.forall_mem_cons.mpr ⟨cl_ldcw (own := "DrawingHouseModel") (idx := 1305) (i := 16) (tx := "group ") (by decide +kernel) (by decide +kernel) (by decide +kernel), List.forall_mem_cons.mpr ⟨cl_ldcw (own := "DrawingHouseModel") (idx := 1307) (i := 17) (tx := " {\n") (by decide +kernel) (by decide +kernel) (by decide +kernel), List.forall_mem_cons.mpr ⟨cl_ldcw (own := "DrawingHouseModel") (idx := 1312) (i := 18) (tx := "}\n") (by decide +kernel) (by decide +kernel) (by decide +kernel), List.forall_mem_nil _⟩⟩⟩⟩⟩⟩⟩⟩⟩⟩⟩⟩⟩⟩⟩⟩⟩⟩⟩⟩⟩⟩, List.forall_mem_nil _, List.forall_mem_nil _, GG_pl⟩ (by decide +kernel)

set_option maxHeartbeats 4000000 in
theorem vc_Mo_writeGroup_at_l1_0_0 (x2 : Int) (x3 : Int) (texts_0 : Int) (k2 : 0 ≤ x2 ∧ x2 ≤ 98271988) (k3 : 0 ≤ x3 ∧ x3 ≤ 0) (f0 : 1 * texts_0 + ((-1) * x2 + 0) ≤ 0) (kz_0_170 : 0 ≤ texts_0 ∧ texts_0 ≤ 100000000) : 1 * texts_0 + ((-1) * x2 + ((-36) * x3 + 0)) ≤ 0 := by
  first | assumption | omega | grind
def o_Mo_writeGroup_at_l1_0 : or_T := (2, 4, [(0, (2, 0, 0, [165])), (2, (0, 0, 98271988, [])), (3, (0, 0, 0, []))], [(20, [0, 2], [30, 0, 1, 1, 170, -1, 0, 0])], [], [], [(20, [0, 2, 3], [30, 0, 1, 1, 170, -1, 0, 0, -36, 0, 0]), (24, [0, 0], [])], [], [])
theorem oo_Mo_writeGroup_at_l1_0 {kA : Nat → ClassId} : or_ok PRD kA GG o_Mo_writeGroup_at_l1_0 := by
  refine or_mk fun A ta ws vs hD hth hl => ?_
  intro t0 r0 t2 k2 t3 k3 f0
  have kz_0_170 := fdq_13 hD hth r0
  have nf0 : fc_1 PRD (20, [0, 2, 3], [30, 0, 1, 1, 170, -1, 0, 0, -36, 0, 0]) ws (vs) := ⟨nf_in hl rfl, sgq_1906 (vc_Mo_writeGroup_at_l1_0_0 (v_iv (n_v vs 2)) (v_iv (n_v vs 3)) (w_fi ws (n_v vs 0) 170) k2 k3 (shm_140 f0) kz_0_170)⟩
  have nf1 : fc_1 PRD (24, [0, 0], []) ws (vs) := by
    refine ⟨nf_in hl rfl, sgq_1 ?_⟩
    · show n_v vs 0 = n_v vs 0
      first | rfl | simp only [true_and]
  refine ⟨(fun _ h => (by cases h)), [], trivial, ?_, (fun _ h => (by cases h))⟩
  rw [List.append_nil]
  exact List.forall_mem_cons.mpr ⟨⟨show (20 : Nat) < 100 from by decide, nf0⟩, List.forall_mem_cons.mpr ⟨⟨show (24 : Nat) < 100 from by decide, nf1⟩, (fun _ h => (by cases h))⟩⟩
set_option maxHeartbeats 4000000 in
theorem vc_Mo_writeGroup_at_l1_1_0 (x2 : Int) (x4 : Int) (x5 : Int) (x6 : Int) (x7 : Int) (x8 : Int) (all_0 : Int → Int) (r_0 : Int) (texts_0 : Int) (k2 : 0 ≤ x2 ∧ x2 ≤ 98271988) (k4 : 1 ≤ x4 ∧ x4 ≤ 7) (k5 : 0 ≤ x5 ∧ x5 ≤ 24) (k6 : 0 ≤ x6 ∧ x6 ≤ 24) (k7 : 1 ≤ x7 ∧ x7 ≤ 1) (k8 : 2 ≤ x8 ∧ x8 ≤ 8) (d0 : x4 + 1 ≤ x8 ∧ x8 ≤ x4 + 1) (d1 : x6 + 0 ≤ x5 ∧ x5 ≤ x6 + 4294967296) (f0 : x8 = x4 + x7) (f1 : x6 ≤ x5) (f2 : 1 * x6 + ((-1) * all_0 (r_0 + 0) + 0) ≤ 0) (f3 : (-1) * x6 + (1 * all_0 (r_0 + 0) + 0) ≤ 0) (f4 : 1 * texts_0 + ((-1) * x2 + ((-36) * x5 + 0)) ≤ 0) (kz_0_170 : 0 ≤ texts_0 ∧ texts_0 ≤ 100000000) : 1 * texts_0 + ((-1) * x2 + ((-287858) * x8 + (287858 * x4 + 0))) ≤ (-286994) := by
  first | assumption | omega | grind
def o_Mo_writeGroup_at_l1_1 : or_T := (83, 9, [(0, (2, 0, 0, [165])), (2, (0, 0, 98271988, [])), (4, (0, 1, 7, [])), (5, (0, 0, 24, [])), (6, (0, 0, 24, [])), (7, (0, 1, 1, [])), (8, (0, 2, 8, []))], [(1, [8, 4, 7], []), (7, [5, 6], [3]), (20, [6, 3], [30, 0, 1, 0, 0, -1, 3, 2005000]), (20, [6, 3], [30, 0, -1, 0, 0, 1, 3, 2005000]), (20, [3, 2, 5], [30, 0, 1, 1, 170, -1, 0, 0, -36, 0, 0]), (24, [0, 3], [])], [], [], [(20, [3, 2, 8, 4], [30, -286994, 1, 1, 170, -1, 0, 0, -287858, 0, 0, 287858, 0, 0])], [], [(8, 4, 1, 1), (5, 6, 0, 4294967296)])
theorem oo_Mo_writeGroup_at_l1_1 {kA : Nat → ClassId} : or_ok PRD kA GG o_Mo_writeGroup_at_l1_1 := by
  refine or_mk fun A ta ws vs hD hth hl => ?_
  intro t0 r0 t2 k2 t4 k4 t5 k5 t6 k6 t7 k7 t8 k8 d0 d1 f0 f1 f2 f3 f4 f5
  replace f0 := shm_12 f0
  replace f1 := shm_2 f1
  replace f2 := shm_135 f2
  replace f3 := shm_136 f3
  replace f4 := shm_1906 f4
  replace f5 := shm_5 f5
  have q3 : n_v vs 3 = n_v vs 0 := f5.symm
  simp only [q3] at f2 f3 f4
  have kz_0_170 := fdq_13 hD hth r0
  have nf0 : fc_1 PRD (20, [3, 2, 8, 4], [30, -286994, 1, 1, 170, -1, 0, 0, -287858, 0, 0, 287858, 0, 0]) ws (vs) := by
    refine ⟨nf_in hl rfl, sgq_1921 ?_⟩
    · show 1 * w_fi ws (n_v vs 3) 170 + ((-1) * v_iv (n_v vs 2) + ((-287858) * v_iv (n_v vs 8) + (287858 * v_iv (n_v vs 4) + 0))) ≤ (-286994)
      rw [q3]
      exact vc_Mo_writeGroup_at_l1_1_0 (v_iv (n_v vs 2)) (v_iv (n_v vs 4)) (v_iv (n_v vs 5)) (v_iv (n_v vs 6)) (v_iv (n_v vs 7)) (v_iv (n_v vs 8)) (w_ei ws (w_ar ws (n_v vs 0) 2)) (w_fi ws (n_v vs 0) 5) (w_fi ws (n_v vs 0) 170) k2 k4 k5 k6 k7 k8 d0 d1 f0 f1 f2 f3 f4 kz_0_170
  refine ⟨(fun _ h => (by cases h)), [], trivial, ?_, (fun _ h => (by cases h))⟩
  rw [List.append_nil]
  exact List.forall_mem_cons.mpr ⟨⟨show (20 : Nat) < 100 from by decide, nf0⟩, (fun _ h => (by cases h))⟩
set_option maxHeartbeats 4000000 in
theorem vc_Mo_writeGroup_at_l1_2_0 (x2 : Int) (x4 : Int) (x5 : Int) (x6 : Int) (x7 : Int) (all_0 : Int → Int) (r_0 : Int) (texts_0 : Int) (gx : Int) (k2 : 0 ≤ x2 ∧ x2 ≤ 98271988) (k4 : 1 ≤ x4 ∧ x4 ≤ 7) (k5 : 0 ≤ x5 ∧ x5 ≤ 23) (k6 : 1 ≤ x6 ∧ x6 ≤ 24) (k7 : 1 ≤ x7 ∧ x7 ≤ 7) (d0 : x4 + 0 ≤ x7 ∧ x7 ≤ x4 + 0) (d1 : x6 + (-4294967296) ≤ x5 ∧ x5 ≤ x6 + (-1)) (f0 : x7 = x4) (f1 : x7 = all_0 (((r_0 + 243) + x5))) (f2 : x5 < x6) (f3 : 1 * x6 + ((-1) * all_0 (r_0 + 0) + 0) ≤ 0) (f4 : (-1) * x6 + (1 * all_0 (r_0 + 0) + 0) ≤ 0) (f5 : 1 * texts_0 + ((-1) * x2 + ((-36) * x5 + 0)) ≤ 0) (kz_0_170 : 0 ≤ texts_0 ∧ texts_0 ≤ 100000000) (ex2 : gx = texts_0) (ex3 : 0 ≤ gx ∧ gx ≤ 99999995) : 1 * texts_0 + ((-1) * gx + 0) ≤ 0 := by
  first | assumption | omega | grind
set_option maxHeartbeats 4000000 in
theorem vc_Mo_writeGroup_at_l1_2_1 (x2 : Int) (x4 : Int) (x5 : Int) (x6 : Int) (x7 : Int) (all_0 : Int → Int) (r_0 : Int) (texts_0 : Int) (gx : Int) (k2 : 0 ≤ x2 ∧ x2 ≤ 98271988) (k4 : 1 ≤ x4 ∧ x4 ≤ 7) (k5 : 0 ≤ x5 ∧ x5 ≤ 23) (k6 : 1 ≤ x6 ∧ x6 ≤ 24) (k7 : 1 ≤ x7 ∧ x7 ≤ 7) (d0 : x4 + 0 ≤ x7 ∧ x7 ≤ x4 + 0) (d1 : x6 + (-4294967296) ≤ x5 ∧ x5 ≤ x6 + (-1)) (f0 : x7 = x4) (f1 : x7 = all_0 (((r_0 + 243) + x5))) (f2 : x5 < x6) (f3 : 1 * x6 + ((-1) * all_0 (r_0 + 0) + 0) ≤ 0) (f4 : (-1) * x6 + (1 * all_0 (r_0 + 0) + 0) ≤ 0) (f5 : 1 * texts_0 + ((-1) * x2 + ((-36) * x5 + 0)) ≤ 0) (kz_0_170 : 0 ≤ texts_0 ∧ texts_0 ≤ 100000000) (ex2 : gx = texts_0) (ex3 : 0 ≤ gx ∧ gx ≤ 99999995) : 1 * gx + ((-1) * x2 + ((-36) * x5 + 0)) ≤ 0 := by
  first | assumption | omega | grind
def o_Mo_writeGroup_at_l1_2 : or_T := (26, 9, [(0, (2, 0, 0, [165])), (2, (0, 0, 98271988, [])), (3, (2, 0, 0, [165])), (4, (0, 1, 7, [])), (5, (0, 0, 23, [])), (6, (0, 1, 24, [])), (7, (0, 1, 7, []))], [(7, [7, 4], [0]), (20, [7, 3, 5], [50, 1, 1, 1005, 1002, 1, 2, 1, 0, 3, 1, 2, 4, 7, 4, 3, 2, 1, 5, 0, 243, 1, 2]), (7, [5, 6], [2]), (20, [6, 3], [30, 0, 1, 0, 0, -1, 3, 2005000]), (20, [6, 3], [30, 0, -1, 0, 0, 1, 3, 2005000]), (20, [3, 2, 5], [30, 0, 1, 1, 170, -1, 0, 0, -36, 0, 0]), (24, [0, 3], [])], [], [(0, 0, 99999995, [])], [(20, [3, 9], [30, 0, 1, 1, 170, -1, 0, 0]), (23, [9, 2, 5], [0, 1, -1, -36])], [], [(7, 4, 0, 0), (5, 6, -4294967296, -1)])
theorem oo_Mo_writeGroup_at_l1_2 {kA : Nat → ClassId} : or_ok PRD kA GG o_Mo_writeGroup_at_l1_2 := by
  refine or_mk fun A ta ws vs hD hth hl => ?_
  intro t0 r0 t2 k2 t3 r3 t4 k4 t5 k5 t6 k6 t7 k7 d0 d1 f0 f1 f2 f3 f4 f5 f6
  replace f0 := shm_37 f0
  replace f1 := shm_585 f1
  replace f2 := shm_6 f2
  replace f3 := shm_135 f3
  replace f4 := shm_136 f4
  replace f5 := shm_1906 f5
  replace f6 := shm_5 f6
  have q3 : n_v vs 3 = n_v vs 0 := f6.symm
  simp only [q3] at f1 f3 f4 f5
  have cr_0_2 := fdq_12 hD hth r0
  have br_0_2_F5_0_0 : w_ei ws (w_ar ws (n_v vs 0) 2) (w_fi ws (n_v vs 0) 5 + 0) = w_el ws (w_ar ws (n_v vs 0) 2) (w_fi ws (n_v vs 0) 5 + 0).toNat := rfl
  have kz_0_170 := fdq_13 hD hth r0
  have kv0 := fdq_13 hD hth r0
  obtain ⟨x, ex, hx⟩ := iv_ex (ta := ta) (lo := 0) (hi := 99999995) (z := w_fi ws (n_v vs 0) 170) (by omega) (by omega) (by omega) (by omega)
  have ex2 : v_iv (Value.int x) = w_fi ws (n_v vs 0) 170 := ex
  have ex3 : 0 ≤ v_iv (Value.int x) ∧ v_iv (Value.int x) ≤ 99999995 := tv_rng hx
  have e_2 : n_v (vs ++ [Value.int x]) 2 = n_v vs 2 := n_v_old (by rw [hl]; decide)
  have e_3 : n_v (vs ++ [Value.int x]) 3 = n_v vs 3 := n_v_old (by rw [hl]; decide)
  have e_5 : n_v (vs ++ [Value.int x]) 5 = n_v vs 5 := n_v_old (by rw [hl]; decide)
  have e_9 : n_v (vs ++ [Value.int x]) 9 = Value.int x := n_v_new hl
  have nf0 : fc_1 PRD (20, [3, 9], [30, 0, 1, 1, 170, -1, 0, 0]) ws (vs ++ [Value.int x]) := by
    refine ⟨nf_inA hl rfl, sgq_140 ?_⟩
    · show 1 * w_fi ws (n_v (vs ++ [Value.int x]) 3) 170 + ((-1) * v_iv (n_v (vs ++ [Value.int x]) 9) + 0) ≤ 0
      simp only [e_3, e_9, q3]
      exact vc_Mo_writeGroup_at_l1_2_0 (v_iv (n_v vs 2)) (v_iv (n_v vs 4)) (v_iv (n_v vs 5)) (v_iv (n_v vs 6)) (v_iv (n_v vs 7)) (w_ei ws (w_ar ws (n_v vs 0) 2)) (w_fi ws (n_v vs 0) 5) (w_fi ws (n_v vs 0) 170) (v_iv (Value.int x)) k2 k4 k5 k6 k7 d0 d1 f0 f1 f2 f3 f4 f5 kz_0_170 ex2 ex3
  have nf1 : fc_1 PRD (23, [9, 2, 5], [0, 1, -1, -36]) ws (vs ++ [Value.int x]) := by
    refine ⟨nf_inA hl rfl, sgq_1908 ?_⟩
    · show 1 * v_iv (n_v (vs ++ [Value.int x]) 9) + ((-1) * v_iv (n_v (vs ++ [Value.int x]) 2) + ((-36) * v_iv (n_v (vs ++ [Value.int x]) 5) + 0)) ≤ 0
      simp only [e_2, e_5, e_9]
      exact vc_Mo_writeGroup_at_l1_2_1 (v_iv (n_v vs 2)) (v_iv (n_v vs 4)) (v_iv (n_v vs 5)) (v_iv (n_v vs 6)) (v_iv (n_v vs 7)) (w_ei ws (w_ar ws (n_v vs 0) 2)) (w_fi ws (n_v vs 0) 5) (w_fi ws (n_v vs 0) 170) (v_iv (Value.int x)) k2 k4 k5 k6 k7 d0 d1 f0 f1 f2 f3 f4 f5 kz_0_170 ex2 ex3
  exact ⟨(fun _ h => (by cases h)), [Value.int x], ag_one hx, List.forall_mem_cons.mpr ⟨⟨show (20 : Nat) < 100 from by decide, nf0⟩, List.forall_mem_cons.mpr ⟨⟨show (23 : Nat) < 100 from by decide, nf1⟩, (fun _ h => (by cases h))⟩⟩, (fun _ h => (by cases h))⟩
set_option maxHeartbeats 4000000 in
theorem vc_Mo_writeGroup_at_l1_3_0 (x2 : Int) (x4 : Int) (x5 : Int) (x6 : Int) (x7 : Int) (x9 : Int) (all_0 : Int → Int) (r_0 : Int) (texts_0 : Int) (gx : Int) (k2 : 0 ≤ x2 ∧ x2 ≤ 98271988) (k4 : 1 ≤ x4 ∧ x4 ≤ 7) (k5 : 0 ≤ x5 ∧ x5 ≤ 23) (k6 : 1 ≤ x6 ∧ x6 ≤ 24) (k7 : 1 ≤ x7 ∧ x7 ≤ 7) (k9 : 0 ≤ x9 ∧ x9 ≤ 99999995) (d0 : x4 + 0 ≤ x7 ∧ x7 ≤ x4 + 0) (d1 : x6 + (-4294967296) ≤ x5 ∧ x5 ≤ x6 + (-1)) (f0 : 1 * x9 + ((-1) * x2 + ((-36) * x5 + 0)) ≤ 0) (f1 : x7 = all_0 (((r_0 + 243) + x5))) (f2 : 1 * x6 + ((-1) * all_0 (r_0 + 0) + 0) ≤ 0) (f3 : (-1) * x6 + (1 * all_0 (r_0 + 0) + 0) ≤ 0) (f5 : 1 * texts_0 + ((-1) * x9 + 0) ≤ 5) (f7 : 1 * x9 + ((-1) * x2 + ((-36) * x5 + 0)) ≤ 0) (f8 : x7 = x4) (f9 : x5 < x6) (kz_0_170 : 0 ≤ texts_0 ∧ texts_0 ≤ 100000000) (ex2 : gx = texts_0) (ex3 : 0 ≤ gx ∧ gx ≤ 99999992) : 1 * texts_0 + ((-1) * gx + 0) ≤ 0 := by
  first | assumption | omega | grind
set_option maxHeartbeats 4000000 in
theorem vc_Mo_writeGroup_at_l1_3_1 (x2 : Int) (x4 : Int) (x5 : Int) (x6 : Int) (x7 : Int) (x9 : Int) (all_0 : Int → Int) (r_0 : Int) (texts_0 : Int) (gx : Int) (k2 : 0 ≤ x2 ∧ x2 ≤ 98271988) (k4 : 1 ≤ x4 ∧ x4 ≤ 7) (k5 : 0 ≤ x5 ∧ x5 ≤ 23) (k6 : 1 ≤ x6 ∧ x6 ≤ 24) (k7 : 1 ≤ x7 ∧ x7 ≤ 7) (k9 : 0 ≤ x9 ∧ x9 ≤ 99999995) (d0 : x4 + 0 ≤ x7 ∧ x7 ≤ x4 + 0) (d1 : x6 + (-4294967296) ≤ x5 ∧ x5 ≤ x6 + (-1)) (f0 : 1 * x9 + ((-1) * x2 + ((-36) * x5 + 0)) ≤ 0) (f1 : x7 = all_0 (((r_0 + 243) + x5))) (f2 : 1 * x6 + ((-1) * all_0 (r_0 + 0) + 0) ≤ 0) (f3 : (-1) * x6 + (1 * all_0 (r_0 + 0) + 0) ≤ 0) (f5 : 1 * texts_0 + ((-1) * x9 + 0) ≤ 5) (f7 : 1 * x9 + ((-1) * x2 + ((-36) * x5 + 0)) ≤ 0) (f8 : x7 = x4) (f9 : x5 < x6) (kz_0_170 : 0 ≤ texts_0 ∧ texts_0 ≤ 100000000) (ex2 : gx = texts_0) (ex3 : 0 ≤ gx ∧ gx ≤ 99999992) : 1 * gx + ((-1) * x2 + ((-36) * x5 + 0)) ≤ 5 := by
  first | assumption | omega | grind
def o_Mo_writeGroup_at_l1_3 : or_T := (31, 10, [(0, (2, 0, 0, [165])), (2, (0, 0, 98271988, [])), (3, (2, 0, 0, [165])), (4, (0, 1, 7, [])), (5, (0, 0, 23, [])), (6, (0, 1, 24, [])), (7, (0, 1, 7, [])), (9, (0, 0, 99999995, []))], [(23, [9, 2, 5], [0, 1, -1, -36]), (20, [7, 3, 5], [50, 1, 1, 1005, 1002, 1, 2, 1, 0, 3, 1, 2, 4, 7, 4, 3, 2, 1, 5, 0, 243, 1, 2]), (20, [6, 3], [30, 0, 1, 0, 0, -1, 3, 2005000]), (20, [6, 3], [30, 0, -1, 0, 0, 1, 3, 2005000]), (24, [0, 3], []), (20, [3, 9], [30, 5, 1, 1, 170, -1, 0, 0]), (102, [9], [7770675568902916283677847627294075626569627356208558085007249638955617140820833992704, 165170]), (23, [9, 2, 5], [0, 1, -1, -36]), (7, [7, 4], [0]), (7, [5, 6], [2])], [], [(0, 0, 99999992, [])], [(20, [3, 10], [30, 0, 1, 1, 170, -1, 0, 0]), (23, [10, 2, 5], [5, 1, -1, -36])], [], [(7, 4, 0, 0), (5, 6, -4294967296, -1)])
theorem oo_Mo_writeGroup_at_l1_3 {kA : Nat → ClassId} : or_ok PRD kA GG o_Mo_writeGroup_at_l1_3 := by
  refine or_mk fun A ta ws vs hD hth hl => ?_
  intro t0 r0 t2 k2 t3 r3 t4 k4 t5 k5 t6 k6 t7 k7 t9 k9 d0 d1 f0 f1 f2 f3 f4 f5 ta1 w1 le1 s1 f7 f8 f9
  replace f0 := shm_1908 f0
  replace f1 := shm_585 f1
  replace f2 := shm_135 f2
  replace f3 := shm_136 f3
  replace f4 := shm_5 f4
  replace f5 := shm_232 f5
  replace f7 := shm_1908 f7
  replace f8 := shm_37 f8
  replace f9 := shm_6 f9
  have q3 : n_v vs 3 = n_v vs 0 := f4.symm
  simp only [q3] at f1 f2 f3 f5
  have cr_0_2 := fdq_12 hD hth r0
  have br_0_2_F5_0_0 : w_ei ws (w_ar ws (n_v vs 0) 2) (w_fi ws (n_v vs 0) 5 + 0) = w_el ws (w_ar ws (n_v vs 0) 2) (w_fi ws (n_v vs 0) 5 + 0).toNat := rfl
  have kz_0_170 := fdq_13 hD hth r0
  have kv0 := fdq_13 hD hth r0
  obtain ⟨x, ex, hx⟩ := iv_ex (ta := ta) (lo := 0) (hi := 99999992) (z := w_fi ws (n_v vs 0) 170) (by omega) (by omega) (by omega) (by omega)
  have ex2 : v_iv (Value.int x) = w_fi ws (n_v vs 0) 170 := ex
  have ex3 : 0 ≤ v_iv (Value.int x) ∧ v_iv (Value.int x) ≤ 99999992 := tv_rng hx
  have e_2 : n_v (vs ++ [Value.int x]) 2 = n_v vs 2 := n_v_old (by rw [hl]; decide)
  have e_3 : n_v (vs ++ [Value.int x]) 3 = n_v vs 3 := n_v_old (by rw [hl]; decide)
  have e_5 : n_v (vs ++ [Value.int x]) 5 = n_v vs 5 := n_v_old (by rw [hl]; decide)
  have e_10 : n_v (vs ++ [Value.int x]) 10 = Value.int x := n_v_new hl
  have nf0 : fc_1 PRD (20, [3, 10], [30, 0, 1, 1, 170, -1, 0, 0]) ws (vs ++ [Value.int x]) := by
    refine ⟨nf_inA hl rfl, sgq_140 ?_⟩
    · show 1 * w_fi ws (n_v (vs ++ [Value.int x]) 3) 170 + ((-1) * v_iv (n_v (vs ++ [Value.int x]) 10) + 0) ≤ 0
      simp only [e_3, e_10, q3]
      exact vc_Mo_writeGroup_at_l1_3_0 (v_iv (n_v vs 2)) (v_iv (n_v vs 4)) (v_iv (n_v vs 5)) (v_iv (n_v vs 6)) (v_iv (n_v vs 7)) (v_iv (n_v vs 9)) (w_ei ws (w_ar ws (n_v vs 0) 2)) (w_fi ws (n_v vs 0) 5) (w_fi ws (n_v vs 0) 170) (v_iv (Value.int x)) k2 k4 k5 k6 k7 k9 d0 d1 f0 f1 f2 f3 f5 f7 f8 f9 kz_0_170 ex2 ex3
  have nf1 : fc_1 PRD (23, [10, 2, 5], [5, 1, -1, -36]) ws (vs ++ [Value.int x]) := by
    refine ⟨nf_inA hl rfl, sgq_1909 ?_⟩
    · show 1 * v_iv (n_v (vs ++ [Value.int x]) 10) + ((-1) * v_iv (n_v (vs ++ [Value.int x]) 2) + ((-36) * v_iv (n_v (vs ++ [Value.int x]) 5) + 0)) ≤ 5
      simp only [e_2, e_5, e_10]
      exact vc_Mo_writeGroup_at_l1_3_1 (v_iv (n_v vs 2)) (v_iv (n_v vs 4)) (v_iv (n_v vs 5)) (v_iv (n_v vs 6)) (v_iv (n_v vs 7)) (v_iv (n_v vs 9)) (w_ei ws (w_ar ws (n_v vs 0) 2)) (w_fi ws (n_v vs 0) 5) (w_fi ws (n_v vs 0) 170) (v_iv (Value.int x)) k2 k4 k5 k6 k7 k9 d0 d1 f0 f1 f2 f3 f5 f7 f8 f9 kz_0_170 ex2 ex3
  exact ⟨(fun _ h => (by cases h)), [Value.int x], ag_one hx, List.forall_mem_cons.mpr ⟨⟨show (20 : Nat) < 100 from by decide, nf0⟩, List.forall_mem_cons.mpr ⟨⟨show (23 : Nat) < 100 from by decide, nf1⟩, (fun _ h => (by cases h))⟩⟩, (fun _ h => (by cases h))⟩
set_option maxHeartbeats 4000000 in
theorem vc_Mo_writeGroup_at_l1_4_0 (x2 : Int) (x4 : Int) (x5 : Int) (x6 : Int) (x7 : Int) (x9 : Int) (x10 : Int) (x11 : Int) (x12 : Int) (all_0 : Int → Int) (r_0 : Int) (texts_0 : Int) (gx : Int) (k2 : 0 ≤ x2 ∧ x2 ≤ 98271988) (k4 : 1 ≤ x4 ∧ x4 ≤ 7) (k5 : 0 ≤ x5 ∧ x5 ≤ 23) (k6 : 1 ≤ x6 ∧ x6 ≤ 24) (k7 : 1 ≤ x7 ∧ x7 ≤ 7) (k9 : 0 ≤ x9 ∧ x9 ≤ 99999995) (k10 : 0 ≤ x10 ∧ x10 ≤ 99999992) (k11 : 0 ≤ x11 ∧ x11 ≤ 1) (k12 : 1 ≤ x12 ∧ x12 ≤ 1) (d0 : x4 + 0 ≤ x7 ∧ x7 ≤ x4 + 0) (d1 : x6 + (-4294967296) ≤ x5 ∧ x5 ≤ x6 + (-1)) (f0 : x11 ≤ x12) (f1 : x11 = all_0 (((r_0 + 219) + x5))) (f2 : 1 * x10 + ((-1) * x2 + ((-36) * x5 + 0)) ≤ 5) (f3 : 1 * x9 + ((-1) * x2 + ((-36) * x5 + 0)) ≤ 0) (f4 : x7 = all_0 (((r_0 + 243) + x5))) (f5 : 1 * x6 + ((-1) * all_0 (r_0 + 0) + 0) ≤ 0) (f6 : (-1) * x6 + (1 * all_0 (r_0 + 0) + 0) ≤ 0) (f8 : 1 * texts_0 + ((-1) * x10 + 0) ≤ 8) (f10 : 1 * x10 + ((-1) * x2 + ((-36) * x5 + 0)) ≤ 5) (f11 : 1 * x9 + ((-1) * x2 + ((-36) * x5 + 0)) ≤ 0) (f13 : 1 * x9 + ((-1) * x2 + ((-36) * x5 + 0)) ≤ 0) (f14 : x7 = x4) (f15 : x5 < x6) (kz_0_170 : 0 ≤ texts_0 ∧ texts_0 ≤ 100000000) (ex2 : gx = texts_0) (ex3 : 0 ≤ gx ∧ gx ≤ 99999998) : 1 * texts_0 + ((-1) * gx + 0) ≤ 0 := by
  first | assumption | omega | grind
set_option maxHeartbeats 4000000 in
theorem vc_Mo_writeGroup_at_l1_4_1 (x2 : Int) (x4 : Int) (x5 : Int) (x6 : Int) (x7 : Int) (x9 : Int) (x10 : Int) (x11 : Int) (x12 : Int) (all_0 : Int → Int) (r_0 : Int) (texts_0 : Int) (gx : Int) (k2 : 0 ≤ x2 ∧ x2 ≤ 98271988) (k4 : 1 ≤ x4 ∧ x4 ≤ 7) (k5 : 0 ≤ x5 ∧ x5 ≤ 23) (k6 : 1 ≤ x6 ∧ x6 ≤ 24) (k7 : 1 ≤ x7 ∧ x7 ≤ 7) (k9 : 0 ≤ x9 ∧ x9 ≤ 99999995) (k10 : 0 ≤ x10 ∧ x10 ≤ 99999992) (k11 : 0 ≤ x11 ∧ x11 ≤ 1) (k12 : 1 ≤ x12 ∧ x12 ≤ 1) (d0 : x4 + 0 ≤ x7 ∧ x7 ≤ x4 + 0) (d1 : x6 + (-4294967296) ≤ x5 ∧ x5 ≤ x6 + (-1)) (f0 : x11 ≤ x12) (f1 : x11 = all_0 (((r_0 + 219) + x5))) (f2 : 1 * x10 + ((-1) * x2 + ((-36) * x5 + 0)) ≤ 5) (f3 : 1 * x9 + ((-1) * x2 + ((-36) * x5 + 0)) ≤ 0) (f4 : x7 = all_0 (((r_0 + 243) + x5))) (f5 : 1 * x6 + ((-1) * all_0 (r_0 + 0) + 0) ≤ 0) (f6 : (-1) * x6 + (1 * all_0 (r_0 + 0) + 0) ≤ 0) (f8 : 1 * texts_0 + ((-1) * x10 + 0) ≤ 8) (f10 : 1 * x10 + ((-1) * x2 + ((-36) * x5 + 0)) ≤ 5) (f11 : 1 * x9 + ((-1) * x2 + ((-36) * x5 + 0)) ≤ 0) (f13 : 1 * x9 + ((-1) * x2 + ((-36) * x5 + 0)) ≤ 0) (f14 : x7 = x4) (f15 : x5 < x6) (kz_0_170 : 0 ≤ texts_0 ∧ texts_0 ≤ 100000000) (ex2 : gx = texts_0) (ex3 : 0 ≤ gx ∧ gx ≤ 99999998) : 1 * gx + ((-1) * x2 + ((-36) * x5 + 0)) ≤ 34 := by
  first | assumption | omega | grind
def o_Mo_writeGroup_at_l1_4 : or_T := (70, 14, [(0, (2, 0, 0, [165])), (2, (0, 0, 98271988, [])), (3, (2, 0, 0, [165])), (4, (0, 1, 7, [])), (5, (0, 0, 23, [])), (6, (0, 1, 24, [])), (7, (0, 1, 7, [])), (9, (0, 0, 99999995, [])), (10, (0, 0, 99999992, [])), (11, (0, 0, 1, [])), (12, (0, 1, 1, []))], [(7, [11, 12], [5]), (20, [11, 3, 5], [50, 1, 1, 1005, 1002, 1, 2, 1, 0, 3, 1, 2, 4, 7, 4, 3, 2, 1, 5, 0, 219, 1, 2]), (23, [10, 2, 5], [5, 1, -1, -36]), (23, [9, 2, 5], [0, 1, -1, -36]), (20, [7, 3, 5], [50, 1, 1, 1005, 1002, 1, 2, 1, 0, 3, 1, 2, 4, 7, 4, 3, 2, 1, 5, 0, 243, 1, 2]), (20, [6, 3], [30, 0, 1, 0, 0, -1, 3, 2005000]), (20, [6, 3], [30, 0, -1, 0, 0, 1, 3, 2005000]), (24, [0, 3], []), (20, [3, 10], [30, 8, 1, 1, 170, -1, 0, 0]), (102, [10], [7770675568902916283677847627294075626569627356208558085007249638955617140820833992704, 165170]), (23, [10, 2, 5], [5, 1, -1, -36]), (23, [9, 2, 5], [0, 1, -1, -36]), (102, [9], [7770675568902916283677847627294075626569627356208558085007249638955617140820833992704, 165170]), (23, [9, 2, 5], [0, 1, -1, -36]), (7, [7, 4], [0]), (7, [5, 6], [2])], [], [(0, 0, 99999998, [])], [(20, [3, 14], [30, 0, 1, 1, 170, -1, 0, 0]), (23, [14, 2, 5], [34, 1, -1, -36])], [], [(7, 4, 0, 0), (5, 6, -4294967296, -1)])
theorem oo_Mo_writeGroup_at_l1_4 {kA : Nat → ClassId} : or_ok PRD kA GG o_Mo_writeGroup_at_l1_4 := by
  refine or_mk fun A ta ws vs hD hth hl => ?_
  intro t0 r0 t2 k2 t3 r3 t4 k4 t5 k5 t6 k6 t7 k7 t9 k9 t10 k10 t11 k11 t12 k12 d0 d1 f0 f1 f2 f3 f4 f5 f6 f7 f8 ta1 w1 le1 s1 f10 f11 ta2 w2 le2 s2 f13 f14 f15
  replace f0 := shm_24 f0
  replace f1 := shm_718 f1
  replace f2 := shm_1909 f2
  replace f3 := shm_1908 f3
  replace f4 := shm_585 f4
  replace f5 := shm_135 f5
  replace f6 := shm_136 f6
  replace f7 := shm_5 f7
  replace f8 := shm_172 f8
  replace f10 := shm_1909 f10
  replace f11 := shm_1908 f11
  replace f13 := shm_1908 f13
  replace f14 := shm_37 f14
  replace f15 := shm_6 f15
  have q3 : n_v vs 3 = n_v vs 0 := f7.symm
  simp only [q3] at f1 f4 f5 f6 f8
  have cr_0_2 := fdq_12 hD hth r0
  have br_0_2_F5_0_0 : w_ei ws (w_ar ws (n_v vs 0) 2) (w_fi ws (n_v vs 0) 5 + 0) = w_el ws (w_ar ws (n_v vs 0) 2) (w_fi ws (n_v vs 0) 5 + 0).toNat := rfl
  have kz_0_170 := fdq_13 hD hth r0
  have kv0 := fdq_13 hD hth r0
  obtain ⟨x, ex, hx⟩ := iv_ex (ta := ta) (lo := 0) (hi := 99999998) (z := w_fi ws (n_v vs 0) 170) (by omega) (by omega) (by omega) (by omega)
  have ex2 : v_iv (Value.int x) = w_fi ws (n_v vs 0) 170 := ex
  have ex3 : 0 ≤ v_iv (Value.int x) ∧ v_iv (Value.int x) ≤ 99999998 := tv_rng hx
  have e_2 : n_v (vs ++ [Value.int x]) 2 = n_v vs 2 := n_v_old (by rw [hl]; decide)
  have e_3 : n_v (vs ++ [Value.int x]) 3 = n_v vs 3 := n_v_old (by rw [hl]; decide)
  have e_5 : n_v (vs ++ [Value.int x]) 5 = n_v vs 5 := n_v_old (by rw [hl]; decide)
  have e_14 : n_v (vs ++ [Value.int x]) 14 = Value.int x := n_v_new hl
  have nf0 : fc_1 PRD (20, [3, 14], [30, 0, 1, 1, 170, -1, 0, 0]) ws (vs ++ [Value.int x]) := by
    refine ⟨nf_inA hl rfl, sgq_140 ?_⟩
    · show 1 * w_fi ws (n_v (vs ++ [Value.int x]) 3) 170 + ((-1) * v_iv (n_v (vs ++ [Value.int x]) 14) + 0) ≤ 0
      simp only [e_3, e_14, q3]
      exact vc_Mo_writeGroup_at_l1_4_0 (v_iv (n_v vs 2)) (v_iv (n_v vs 4)) (v_iv (n_v vs 5)) (v_iv (n_v vs 6)) (v_iv (n_v vs 7)) (v_iv (n_v vs 9)) (v_iv (n_v vs 10)) (v_iv (n_v vs 11)) (v_iv (n_v vs 12)) (w_ei ws (w_ar ws (n_v vs 0) 2)) (w_fi ws (n_v vs 0) 5) (w_fi ws (n_v vs 0) 170) (v_iv (Value.int x)) k2 k4 k5 k6 k7 k9 k10 k11 k12 d0 d1 f0 f1 f2 f3 f4 f5 f6 f8 f10 f11 f13 f14 f15 kz_0_170 ex2 ex3
  have nf1 : fc_1 PRD (23, [14, 2, 5], [34, 1, -1, -36]) ws (vs ++ [Value.int x]) := by
    refine ⟨nf_inA hl rfl, sgq_1910 ?_⟩
    · show 1 * v_iv (n_v (vs ++ [Value.int x]) 14) + ((-1) * v_iv (n_v (vs ++ [Value.int x]) 2) + ((-36) * v_iv (n_v (vs ++ [Value.int x]) 5) + 0)) ≤ 34
      simp only [e_2, e_5, e_14]
      exact vc_Mo_writeGroup_at_l1_4_1 (v_iv (n_v vs 2)) (v_iv (n_v vs 4)) (v_iv (n_v vs 5)) (v_iv (n_v vs 6)) (v_iv (n_v vs 7)) (v_iv (n_v vs 9)) (v_iv (n_v vs 10)) (v_iv (n_v vs 11)) (v_iv (n_v vs 12)) (w_ei ws (w_ar ws (n_v vs 0) 2)) (w_fi ws (n_v vs 0) 5) (w_fi ws (n_v vs 0) 170) (v_iv (Value.int x)) k2 k4 k5 k6 k7 k9 k10 k11 k12 d0 d1 f0 f1 f2 f3 f4 f5 f6 f8 f10 f11 f13 f14 f15 kz_0_170 ex2 ex3
  exact ⟨(fun _ h => (by cases h)), [Value.int x], ag_one hx, List.forall_mem_cons.mpr ⟨⟨show (20 : Nat) < 100 from by decide, nf0⟩, List.forall_mem_cons.mpr ⟨⟨show (23 : Nat) < 100 from by decide, nf1⟩, (fun _ h => (by cases h))⟩⟩, (fun _ h => (by cases h))⟩
set_option maxHeartbeats 4000000 in
theorem vc_Mo_writeGroup_at_l1_5_0 (x2 : Int) (x4 : Int) (x5 : Int) (x6 : Int) (x7 : Int) (x9 : Int) (x10 : Int) (x11 : Int) (x12 : Int) (x14 : Int) (x15 : Int) (all_0 : Int → Int) (r_0 : Int) (texts_0 : Int) (k2 : 0 ≤ x2 ∧ x2 ≤ 98271988) (k4 : 1 ≤ x4 ∧ x4 ≤ 7) (k5 : 0 ≤ x5 ∧ x5 ≤ 23) (k6 : 1 ≤ x6 ∧ x6 ≤ 24) (k7 : 1 ≤ x7 ∧ x7 ≤ 7) (k9 : 0 ≤ x9 ∧ x9 ≤ 99999995) (k10 : 0 ≤ x10 ∧ x10 ≤ 99999992) (k11 : 0 ≤ x11 ∧ x11 ≤ 1) (k12 : 1 ≤ x12 ∧ x12 ≤ 1) (k14 : 0 ≤ x14 ∧ x14 ≤ 99999998) (k15 : 1 ≤ x15 ∧ x15 ≤ 24) (d0 : x5 + 1 ≤ x15 ∧ x15 ≤ x5 + 1) (d1 : x6 + (-4294967296) ≤ x15 ∧ x15 ≤ x6 + 0) (d2 : x4 + 0 ≤ x7 ∧ x7 ≤ x4 + 0) (d3 : x6 + (-4294967296) ≤ x5 ∧ x5 ≤ x6 + (-1)) (f0 : x15 = x5 + 1) (f1 : 1 * x14 + ((-1) * x2 + ((-36) * x5 + 0)) ≤ 34) (f2 : x11 = all_0 (((r_0 + 219) + x5))) (f3 : 1 * x10 + ((-1) * x2 + ((-36) * x5 + 0)) ≤ 5) (f4 : 1 * x9 + ((-1) * x2 + ((-36) * x5 + 0)) ≤ 0) (f5 : x7 = all_0 (((r_0 + 243) + x5))) (f6 : 1 * x6 + ((-1) * all_0 (r_0 + 0) + 0) ≤ 0) (f7 : (-1) * x6 + (1 * all_0 (r_0 + 0) + 0) ≤ 0) (f9 : 1 * texts_0 + ((-1) * x14 + 0) ≤ 2) (f11 : 1 * x14 + ((-1) * x2 + ((-36) * x5 + 0)) ≤ 34) (f12 : x11 ≤ x12) (f13 : 1 * x10 + ((-1) * x2 + ((-36) * x5 + 0)) ≤ 5) (f14 : 1 * x9 + ((-1) * x2 + ((-36) * x5 + 0)) ≤ 0) (f16 : 1 * x10 + ((-1) * x2 + ((-36) * x5 + 0)) ≤ 5) (f17 : 1 * x9 + ((-1) * x2 + ((-36) * x5 + 0)) ≤ 0) (f19 : 1 * x9 + ((-1) * x2 + ((-36) * x5 + 0)) ≤ 0) (f20 : x7 = x4) (f21 : x5 < x6) (kz_0_170 : 0 ≤ texts_0 ∧ texts_0 ≤ 100000000) : 1 * texts_0 + ((-1) * x2 + ((-36) * x15 + 0)) ≤ 0 := by
  first | assumption | omega | grind
def o_Mo_writeGroup_at_l1_5 : or_T := (2, 16, [(0, (2, 0, 0, [165])), (2, (0, 0, 98271988, [])), (4, (0, 1, 7, [])), (5, (0, 0, 23, [])), (6, (0, 1, 24, [])), (7, (0, 1, 7, [])), (9, (0, 0, 99999995, [])), (10, (0, 0, 99999992, [])), (11, (0, 0, 1, [])), (12, (0, 1, 1, [])), (14, (0, 0, 99999998, [])), (15, (0, 1, 24, []))], [(6, [15, 5], [1]), (23, [14, 2, 5], [34, 1, -1, -36]), (20, [11, 3, 5], [50, 1, 1, 1005, 1002, 1, 2, 1, 0, 3, 1, 2, 4, 7, 4, 3, 2, 1, 5, 0, 219, 1, 2]), (23, [10, 2, 5], [5, 1, -1, -36]), (23, [9, 2, 5], [0, 1, -1, -36]), (20, [7, 3, 5], [50, 1, 1, 1005, 1002, 1, 2, 1, 0, 3, 1, 2, 4, 7, 4, 3, 2, 1, 5, 0, 243, 1, 2]), (20, [6, 3], [30, 0, 1, 0, 0, -1, 3, 2005000]), (20, [6, 3], [30, 0, -1, 0, 0, 1, 3, 2005000]), (24, [0, 3], []), (20, [3, 14], [30, 2, 1, 1, 170, -1, 0, 0]), (102, [14], [7770675568902916283677847627294075626569627356208558085007249638955617140820833992704, 165170]), (23, [14, 2, 5], [34, 1, -1, -36]), (7, [11, 12], [5]), (23, [10, 2, 5], [5, 1, -1, -36]), (23, [9, 2, 5], [0, 1, -1, -36]), (102, [10], [7770675568902916283677847627294075626569627356208558085007249638955617140820833992704, 165170]), (23, [10, 2, 5], [5, 1, -1, -36]), (23, [9, 2, 5], [0, 1, -1, -36]), (102, [9], [7770675568902916283677847627294075626569627356208558085007249638955617140820833992704, 165170]), (23, [9, 2, 5], [0, 1, -1, -36]), (7, [7, 4], [0]), (7, [5, 6], [2])], [], [], [(20, [3, 2, 15], [30, 0, 1, 1, 170, -1, 0, 0, -36, 0, 0])], [], [(15, 5, 1, 1), (15, 6, -4294967296, 0), (7, 4, 0, 0), (5, 6, -4294967296, -1)])
theorem oo_Mo_writeGroup_at_l1_5 {kA : Nat → ClassId} : or_ok PRD kA GG o_Mo_writeGroup_at_l1_5 := by
  refine or_mk fun A ta ws vs hD hth hl => ?_
  intro t0 r0 t2 k2 t4 k4 t5 k5 t6 k6 t7 k7 t9 k9 t10 k10 t11 k11 t12 k12 t14 k14 t15 k15 d0 d1 d2 d3 f0 f1 f2 f3 f4 f5 f6 f7 f8 f9 ta1 w1 le1 s1 f11 f12 f13 f14 ta2 w2 le2 s2 f16 f17 ta3 w3 le3 s3 f19 f20 f21
  replace f0 := shm_4 f0
  replace f1 := shm_1910 f1
  replace f2 := shm_718 f2
  replace f3 := shm_1909 f3
  replace f4 := shm_1908 f4
  replace f5 := shm_585 f5
  replace f6 := shm_135 f6
  replace f7 := shm_136 f7
  replace f8 := shm_5 f8
  replace f9 := shm_234 f9
  replace f11 := shm_1910 f11
  replace f12 := shm_24 f12
  replace f13 := shm_1909 f13
  replace f14 := shm_1908 f14
  replace f16 := shm_1909 f16
  replace f17 := shm_1908 f17
  replace f19 := shm_1908 f19
  replace f20 := shm_37 f20
  replace f21 := shm_6 f21
  have q3 : n_v vs 3 = n_v vs 0 := f8.symm
  simp only [q3] at f2 f5 f6 f7 f9
  have kz_0_170 := fdq_13 hD hth r0
  have nf0 : fc_1 PRD (20, [3, 2, 15], [30, 0, 1, 1, 170, -1, 0, 0, -36, 0, 0]) ws (vs) := by
    refine ⟨nf_in hl rfl, sgq_1906 ?_⟩
    · show 1 * w_fi ws (n_v vs 3) 170 + ((-1) * v_iv (n_v vs 2) + ((-36) * v_iv (n_v vs 15) + 0)) ≤ 0
      rw [q3]
      exact vc_Mo_writeGroup_at_l1_5_0 (v_iv (n_v vs 2)) (v_iv (n_v vs 4)) (v_iv (n_v vs 5)) (v_iv (n_v vs 6)) (v_iv (n_v vs 7)) (v_iv (n_v vs 9)) (v_iv (n_v vs 10)) (v_iv (n_v vs 11)) (v_iv (n_v vs 12)) (v_iv (n_v vs 14)) (v_iv (n_v vs 15)) (w_ei ws (w_ar ws (n_v vs 0) 2)) (w_fi ws (n_v vs 0) 5) (w_fi ws (n_v vs 0) 170) k2 k4 k5 k6 k7 k9 k10 k11 k12 k14 k15 d0 d1 d2 d3 f0 f1 f2 f3 f4 f5 f6 f7 f9 f11 f12 f13 f14 f16 f17 f19 f20 f21 kz_0_170
  refine ⟨(fun _ h => (by cases h)), [], trivial, ?_, (fun _ h => (by cases h))⟩
  rw [List.append_nil]
  exact List.forall_mem_cons.mpr ⟨⟨show (20 : Nat) < 100 from by decide, nf0⟩, (fun _ h => (by cases h))⟩
set_option maxHeartbeats 4000000 in
theorem vc_Mo_writeGroup_at_l1_6_0 (x2 : Int) (x4 : Int) (x5 : Int) (x6 : Int) (x7 : Int) (x9 : Int) (x10 : Int) (x11 : Int) (x12 : Int) (all_0 : Int → Int) (r_0 : Int) (texts_0 : Int) (gx : Int) (k2 : 0 ≤ x2 ∧ x2 ≤ 98271988) (k4 : 1 ≤ x4 ∧ x4 ≤ 7) (k5 : 0 ≤ x5 ∧ x5 ≤ 23) (k6 : 1 ≤ x6 ∧ x6 ≤ 24) (k7 : 1 ≤ x7 ∧ x7 ≤ 7) (k9 : 0 ≤ x9 ∧ x9 ≤ 99999995) (k10 : 0 ≤ x10 ∧ x10 ≤ 99999992) (k11 : 2 ≤ x11 ∧ x11 ≤ 99) (k12 : 1 ≤ x12 ∧ x12 ≤ 1) (d0 : x4 + 0 ≤ x7 ∧ x7 ≤ x4 + 0) (d1 : x6 + (-4294967296) ≤ x5 ∧ x5 ≤ x6 + (-1)) (f0 : x12 < x11) (f1 : x11 = all_0 (((r_0 + 219) + x5))) (f2 : 1 * x10 + ((-1) * x2 + ((-36) * x5 + 0)) ≤ 5) (f3 : 1 * x9 + ((-1) * x2 + ((-36) * x5 + 0)) ≤ 0) (f4 : x7 = all_0 (((r_0 + 243) + x5))) (f5 : 1 * x6 + ((-1) * all_0 (r_0 + 0) + 0) ≤ 0) (f6 : (-1) * x6 + (1 * all_0 (r_0 + 0) + 0) ≤ 0) (f8 : 1 * texts_0 + ((-1) * x10 + 0) ≤ 8) (f10 : 1 * x10 + ((-1) * x2 + ((-36) * x5 + 0)) ≤ 5) (f11 : 1 * x9 + ((-1) * x2 + ((-36) * x5 + 0)) ≤ 0) (f13 : 1 * x9 + ((-1) * x2 + ((-36) * x5 + 0)) ≤ 0) (f14 : x7 = x4) (f15 : x5 < x6) (kz_0_170 : 0 ≤ texts_0 ∧ texts_0 ≤ 100000000) (ex2 : gx = texts_0) (ex3 : 0 ≤ gx ∧ gx ≤ 99999993) : 1 * texts_0 + ((-1) * gx + 0) ≤ 0 := by
  first | assumption | omega | grind
set_option maxHeartbeats 4000000 in
theorem vc_Mo_writeGroup_at_l1_6_1 (x2 : Int) (x4 : Int) (x5 : Int) (x6 : Int) (x7 : Int) (x9 : Int) (x10 : Int) (x11 : Int) (x12 : Int) (all_0 : Int → Int) (r_0 : Int) (texts_0 : Int) (gx : Int) (k2 : 0 ≤ x2 ∧ x2 ≤ 98271988) (k4 : 1 ≤ x4 ∧ x4 ≤ 7) (k5 : 0 ≤ x5 ∧ x5 ≤ 23) (k6 : 1 ≤ x6 ∧ x6 ≤ 24) (k7 : 1 ≤ x7 ∧ x7 ≤ 7) (k9 : 0 ≤ x9 ∧ x9 ≤ 99999995) (k10 : 0 ≤ x10 ∧ x10 ≤ 99999992) (k11 : 2 ≤ x11 ∧ x11 ≤ 99) (k12 : 1 ≤ x12 ∧ x12 ≤ 1) (d0 : x4 + 0 ≤ x7 ∧ x7 ≤ x4 + 0) (d1 : x6 + (-4294967296) ≤ x5 ∧ x5 ≤ x6 + (-1)) (f0 : x12 < x11) (f1 : x11 = all_0 (((r_0 + 219) + x5))) (f2 : 1 * x10 + ((-1) * x2 + ((-36) * x5 + 0)) ≤ 5) (f3 : 1 * x9 + ((-1) * x2 + ((-36) * x5 + 0)) ≤ 0) (f4 : x7 = all_0 (((r_0 + 243) + x5))) (f5 : 1 * x6 + ((-1) * all_0 (r_0 + 0) + 0) ≤ 0) (f6 : (-1) * x6 + (1 * all_0 (r_0 + 0) + 0) ≤ 0) (f8 : 1 * texts_0 + ((-1) * x10 + 0) ≤ 8) (f10 : 1 * x10 + ((-1) * x2 + ((-36) * x5 + 0)) ≤ 5) (f11 : 1 * x9 + ((-1) * x2 + ((-36) * x5 + 0)) ≤ 0) (f13 : 1 * x9 + ((-1) * x2 + ((-36) * x5 + 0)) ≤ 0) (f14 : x7 = x4) (f15 : x5 < x6) (kz_0_170 : 0 ≤ texts_0 ∧ texts_0 ≤ 100000000) (ex2 : gx = texts_0) (ex3 : 0 ≤ gx ∧ gx ≤ 99999993) : 1 * gx + ((-1) * x2 + ((-36) * x5 + 0)) ≤ 13 := by
  first | assumption | omega | grind
def o_Mo_writeGroup_at_l1_6 : or_T := (47, 14, [(0, (2, 0, 0, [165])), (2, (0, 0, 98271988, [])), (3, (2, 0, 0, [165])), (4, (0, 1, 7, [])), (5, (0, 0, 23, [])), (6, (0, 1, 24, [])), (7, (0, 1, 7, [])), (9, (0, 0, 99999995, [])), (10, (0, 0, 99999992, [])), (11, (0, 2, 99, [])), (12, (0, 1, 1, []))], [(7, [11, 12], [4]), (20, [11, 3, 5], [50, 1, 1, 1005, 1002, 1, 2, 1, 0, 3, 1, 2, 4, 7, 4, 3, 2, 1, 5, 0, 219, 1, 2]), (23, [10, 2, 5], [5, 1, -1, -36]), (23, [9, 2, 5], [0, 1, -1, -36]), (20, [7, 3, 5], [50, 1, 1, 1005, 1002, 1, 2, 1, 0, 3, 1, 2, 4, 7, 4, 3, 2, 1, 5, 0, 243, 1, 2]), (20, [6, 3], [30, 0, 1, 0, 0, -1, 3, 2005000]), (20, [6, 3], [30, 0, -1, 0, 0, 1, 3, 2005000]), (24, [0, 3], []), (20, [3, 10], [30, 8, 1, 1, 170, -1, 0, 0]), (102, [10], [7770675568902916283677847627294075626569627356208558085007249638955617140820833992704, 165170]), (23, [10, 2, 5], [5, 1, -1, -36]), (23, [9, 2, 5], [0, 1, -1, -36]), (102, [9], [7770675568902916283677847627294075626569627356208558085007249638955617140820833992704, 165170]), (23, [9, 2, 5], [0, 1, -1, -36]), (7, [7, 4], [0]), (7, [5, 6], [2])], [], [(0, 0, 99999993, [])], [(20, [3, 14], [30, 0, 1, 1, 170, -1, 0, 0]), (23, [14, 2, 5], [13, 1, -1, -36])], [], [(7, 4, 0, 0), (5, 6, -4294967296, -1)])
theorem oo_Mo_writeGroup_at_l1_6 {kA : Nat → ClassId} : or_ok PRD kA GG o_Mo_writeGroup_at_l1_6 := by
  refine or_mk fun A ta ws vs hD hth hl => ?_
  intro t0 r0 t2 k2 t3 r3 t4 k4 t5 k5 t6 k6 t7 k7 t9 k9 t10 k10 t11 k11 t12 k12 d0 d1 f0 f1 f2 f3 f4 f5 f6 f7 f8 ta1 w1 le1 s1 f10 f11 ta2 w2 le2 s2 f13 f14 f15
  replace f0 := shm_21 f0
  replace f1 := shm_718 f1
  replace f2 := shm_1909 f2
  replace f3 := shm_1908 f3
  replace f4 := shm_585 f4
  replace f5 := shm_135 f5
  replace f6 := shm_136 f6
  replace f7 := shm_5 f7
  replace f8 := shm_172 f8
  replace f10 := shm_1909 f10
  replace f11 := shm_1908 f11
  replace f13 := shm_1908 f13
  replace f14 := shm_37 f14
  replace f15 := shm_6 f15
  have q3 : n_v vs 3 = n_v vs 0 := f7.symm
  simp only [q3] at f1 f4 f5 f6 f8
  have cr_0_2 := fdq_12 hD hth r0
  have br_0_2_F5_0_0 : w_ei ws (w_ar ws (n_v vs 0) 2) (w_fi ws (n_v vs 0) 5 + 0) = w_el ws (w_ar ws (n_v vs 0) 2) (w_fi ws (n_v vs 0) 5 + 0).toNat := rfl
  have kz_0_170 := fdq_13 hD hth r0
  have kv0 := fdq_13 hD hth r0
  obtain ⟨x, ex, hx⟩ := iv_ex (ta := ta) (lo := 0) (hi := 99999993) (z := w_fi ws (n_v vs 0) 170) (by omega) (by omega) (by omega) (by omega)
  have ex2 : v_iv (Value.int x) = w_fi ws (n_v vs 0) 170 := ex
  have ex3 : 0 ≤ v_iv (Value.int x) ∧ v_iv (Value.int x) ≤ 99999993 := tv_rng hx
  have e_2 : n_v (vs ++ [Value.int x]) 2 = n_v vs 2 := n_v_old (by rw [hl]; decide)
  have e_3 : n_v (vs ++ [Value.int x]) 3 = n_v vs 3 := n_v_old (by rw [hl]; decide)
  have e_5 : n_v (vs ++ [Value.int x]) 5 = n_v vs 5 := n_v_old (by rw [hl]; decide)
  have e_14 : n_v (vs ++ [Value.int x]) 14 = Value.int x := n_v_new hl
  have nf0 : fc_1 PRD (20, [3, 14], [30, 0, 1, 1, 170, -1, 0, 0]) ws (vs ++ [Value.int x]) := by
    refine ⟨nf_inA hl rfl, sgq_140 ?_⟩
    · show 1 * w_fi ws (n_v (vs ++ [Value.int x]) 3) 170 + ((-1) * v_iv (n_v (vs ++ [Value.int x]) 14) + 0) ≤ 0
      simp only [e_3, e_14, q3]
      exact vc_Mo_writeGroup_at_l1_6_0 (v_iv (n_v vs 2)) (v_iv (n_v vs 4)) (v_iv (n_v vs 5)) (v_iv (n_v vs 6)) (v_iv (n_v vs 7)) (v_iv (n_v vs 9)) (v_iv (n_v vs 10)) (v_iv (n_v vs 11)) (v_iv (n_v vs 12)) (w_ei ws (w_ar ws (n_v vs 0) 2)) (w_fi ws (n_v vs 0) 5) (w_fi ws (n_v vs 0) 170) (v_iv (Value.int x)) k2 k4 k5 k6 k7 k9 k10 k11 k12 d0 d1 f0 f1 f2 f3 f4 f5 f6 f8 f10 f11 f13 f14 f15 kz_0_170 ex2 ex3
  have nf1 : fc_1 PRD (23, [14, 2, 5], [13, 1, -1, -36]) ws (vs ++ [Value.int x]) := by
    refine ⟨nf_inA hl rfl, sgq_1911 ?_⟩
    · show 1 * v_iv (n_v (vs ++ [Value.int x]) 14) + ((-1) * v_iv (n_v (vs ++ [Value.int x]) 2) + ((-36) * v_iv (n_v (vs ++ [Value.int x]) 5) + 0)) ≤ 13
      simp only [e_2, e_5, e_14]
      exact vc_Mo_writeGroup_at_l1_6_1 (v_iv (n_v vs 2)) (v_iv (n_v vs 4)) (v_iv (n_v vs 5)) (v_iv (n_v vs 6)) (v_iv (n_v vs 7)) (v_iv (n_v vs 9)) (v_iv (n_v vs 10)) (v_iv (n_v vs 11)) (v_iv (n_v vs 12)) (w_ei ws (w_ar ws (n_v vs 0) 2)) (w_fi ws (n_v vs 0) 5) (w_fi ws (n_v vs 0) 170) (v_iv (Value.int x)) k2 k4 k5 k6 k7 k9 k10 k11 k12 d0 d1 f0 f1 f2 f3 f4 f5 f6 f8 f10 f11 f13 f14 f15 kz_0_170 ex2 ex3
  exact ⟨(fun _ h => (by cases h)), [Value.int x], ag_one hx, List.forall_mem_cons.mpr ⟨⟨show (20 : Nat) < 100 from by decide, nf0⟩, List.forall_mem_cons.mpr ⟨⟨show (23 : Nat) < 100 from by decide, nf1⟩, (fun _ h => (by cases h))⟩⟩, (fun _ h => (by cases h))⟩
set_option maxHeartbeats 4000000 in
theorem vc_Mo_writeGroup_at_l1_7_0 (x2 : Int) (x4 : Int) (x5 : Int) (x6 : Int) (x7 : Int) (x9 : Int) (x10 : Int) (x11 : Int) (x12 : Int) (x14 : Int) (x15 : Int) (all_0 : Int → Int) (r_0 : Int) (texts_0 : Int) (gx : Int) (k2 : 0 ≤ x2 ∧ x2 ≤ 98271988) (k4 : 1 ≤ x4 ∧ x4 ≤ 7) (k5 : 0 ≤ x5 ∧ x5 ≤ 23) (k6 : 1 ≤ x6 ∧ x6 ≤ 24) (k7 : 1 ≤ x7 ∧ x7 ≤ 7) (k9 : 0 ≤ x9 ∧ x9 ≤ 99999995) (k10 : 0 ≤ x10 ∧ x10 ≤ 99999992) (k11 : 2 ≤ x11 ∧ x11 ≤ 99) (k12 : 1 ≤ x12 ∧ x12 ≤ 1) (k14 : 0 ≤ x14 ∧ x14 ≤ 99999993) (k15 : 0 ≤ x15 ∧ x15 ≤ 99) (d0 : x4 + 0 ≤ x7 ∧ x7 ≤ x4 + 0) (d1 : x6 + (-4294967296) ≤ x5 ∧ x5 ≤ x6 + (-1)) (f0 : x15 = all_0 (((r_0 + 219) + x5))) (f1 : 1 * x14 + ((-1) * x2 + ((-36) * x5 + 0)) ≤ 13) (f2 : x11 = all_0 (((r_0 + 219) + x5))) (f3 : 1 * x10 + ((-1) * x2 + ((-36) * x5 + 0)) ≤ 5) (f4 : 1 * x9 + ((-1) * x2 + ((-36) * x5 + 0)) ≤ 0) (f5 : x7 = all_0 (((r_0 + 243) + x5))) (f6 : 1 * x6 + ((-1) * all_0 (r_0 + 0) + 0) ≤ 0) (f7 : (-1) * x6 + (1 * all_0 (r_0 + 0) + 0) ≤ 0) (f9 : 1 * texts_0 + ((-1) * x14 + 0) ≤ 7) (f11 : 1 * x14 + ((-1) * x2 + ((-36) * x5 + 0)) ≤ 13) (f12 : x12 < x11) (f13 : 1 * x10 + ((-1) * x2 + ((-36) * x5 + 0)) ≤ 5) (f14 : 1 * x9 + ((-1) * x2 + ((-36) * x5 + 0)) ≤ 0) (f16 : 1 * x10 + ((-1) * x2 + ((-36) * x5 + 0)) ≤ 5) (f17 : 1 * x9 + ((-1) * x2 + ((-36) * x5 + 0)) ≤ 0) (f19 : 1 * x9 + ((-1) * x2 + ((-36) * x5 + 0)) ≤ 0) (f20 : x7 = x4) (f21 : x5 < x6) (kz_0_170 : 0 ≤ texts_0 ∧ texts_0 ≤ 100000000) (ex2 : gx = texts_0) (ex3 : 0 ≤ gx ∧ gx ≤ 99999987) : 1 * texts_0 + ((-1) * gx + 0) ≤ 0 := by
  first | assumption | omega | grind
set_option maxHeartbeats 4000000 in
theorem vc_Mo_writeGroup_at_l1_7_1 (x2 : Int) (x4 : Int) (x5 : Int) (x6 : Int) (x7 : Int) (x9 : Int) (x10 : Int) (x11 : Int) (x12 : Int) (x14 : Int) (x15 : Int) (all_0 : Int → Int) (r_0 : Int) (texts_0 : Int) (gx : Int) (k2 : 0 ≤ x2 ∧ x2 ≤ 98271988) (k4 : 1 ≤ x4 ∧ x4 ≤ 7) (k5 : 0 ≤ x5 ∧ x5 ≤ 23) (k6 : 1 ≤ x6 ∧ x6 ≤ 24) (k7 : 1 ≤ x7 ∧ x7 ≤ 7) (k9 : 0 ≤ x9 ∧ x9 ≤ 99999995) (k10 : 0 ≤ x10 ∧ x10 ≤ 99999992) (k11 : 2 ≤ x11 ∧ x11 ≤ 99) (k12 : 1 ≤ x12 ∧ x12 ≤ 1) (k14 : 0 ≤ x14 ∧ x14 ≤ 99999993) (k15 : 0 ≤ x15 ∧ x15 ≤ 99) (d0 : x4 + 0 ≤ x7 ∧ x7 ≤ x4 + 0) (d1 : x6 + (-4294967296) ≤ x5 ∧ x5 ≤ x6 + (-1)) (f0 : x15 = all_0 (((r_0 + 219) + x5))) (f1 : 1 * x14 + ((-1) * x2 + ((-36) * x5 + 0)) ≤ 13) (f2 : x11 = all_0 (((r_0 + 219) + x5))) (f3 : 1 * x10 + ((-1) * x2 + ((-36) * x5 + 0)) ≤ 5) (f4 : 1 * x9 + ((-1) * x2 + ((-36) * x5 + 0)) ≤ 0) (f5 : x7 = all_0 (((r_0 + 243) + x5))) (f6 : 1 * x6 + ((-1) * all_0 (r_0 + 0) + 0) ≤ 0) (f7 : (-1) * x6 + (1 * all_0 (r_0 + 0) + 0) ≤ 0) (f9 : 1 * texts_0 + ((-1) * x14 + 0) ≤ 7) (f11 : 1 * x14 + ((-1) * x2 + ((-36) * x5 + 0)) ≤ 13) (f12 : x12 < x11) (f13 : 1 * x10 + ((-1) * x2 + ((-36) * x5 + 0)) ≤ 5) (f14 : 1 * x9 + ((-1) * x2 + ((-36) * x5 + 0)) ≤ 0) (f16 : 1 * x10 + ((-1) * x2 + ((-36) * x5 + 0)) ≤ 5) (f17 : 1 * x9 + ((-1) * x2 + ((-36) * x5 + 0)) ≤ 0) (f19 : 1 * x9 + ((-1) * x2 + ((-36) * x5 + 0)) ≤ 0) (f20 : x7 = x4) (f21 : x5 < x6) (kz_0_170 : 0 ≤ texts_0 ∧ texts_0 ≤ 100000000) (ex2 : gx = texts_0) (ex3 : 0 ≤ gx ∧ gx ≤ 99999987) : 1 * gx + ((-1) * x2 + ((-36) * x5 + 0)) ≤ 20 := by
  first | assumption | omega | grind
def o_Mo_writeGroup_at_l1_7 : or_T := (56, 16, [(0, (2, 0, 0, [165])), (2, (0, 0, 98271988, [])), (3, (2, 0, 0, [165])), (4, (0, 1, 7, [])), (5, (0, 0, 23, [])), (6, (0, 1, 24, [])), (7, (0, 1, 7, [])), (9, (0, 0, 99999995, [])), (10, (0, 0, 99999992, [])), (11, (0, 2, 99, [])), (12, (0, 1, 1, [])), (14, (0, 0, 99999993, [])), (15, (0, 0, 99, []))], [(20, [15, 3, 5], [50, 1, 1, 1005, 1002, 1, 2, 1, 0, 3, 1, 2, 4, 7, 4, 3, 2, 1, 5, 0, 219, 1, 2]), (23, [14, 2, 5], [13, 1, -1, -36]), (20, [11, 3, 5], [50, 1, 1, 1005, 1002, 1, 2, 1, 0, 3, 1, 2, 4, 7, 4, 3, 2, 1, 5, 0, 219, 1, 2]), (23, [10, 2, 5], [5, 1, -1, -36]), (23, [9, 2, 5], [0, 1, -1, -36]), (20, [7, 3, 5], [50, 1, 1, 1005, 1002, 1, 2, 1, 0, 3, 1, 2, 4, 7, 4, 3, 2, 1, 5, 0, 243, 1, 2]), (20, [6, 3], [30, 0, 1, 0, 0, -1, 3, 2005000]), (20, [6, 3], [30, 0, -1, 0, 0, 1, 3, 2005000]), (24, [0, 3], []), (20, [3, 14], [30, 7, 1, 1, 170, -1, 0, 0]), (102, [14], [7770675568902916283677847627294075626569627356208558085007249638955617140820833992704, 165170]), (23, [14, 2, 5], [13, 1, -1, -36]), (7, [11, 12], [4]), (23, [10, 2, 5], [5, 1, -1, -36]), (23, [9, 2, 5], [0, 1, -1, -36]), (102, [10], [7770675568902916283677847627294075626569627356208558085007249638955617140820833992704, 165170]), (23, [10, 2, 5], [5, 1, -1, -36]), (23, [9, 2, 5], [0, 1, -1, -36]), (102, [9], [7770675568902916283677847627294075626569627356208558085007249638955617140820833992704, 165170]), (23, [9, 2, 5], [0, 1, -1, -36]), (7, [7, 4], [0]), (7, [5, 6], [2])], [], [(0, 0, 99999987, [])], [(20, [3, 16], [30, 0, 1, 1, 170, -1, 0, 0]), (23, [16, 2, 5], [20, 1, -1, -36])], [], [(7, 4, 0, 0), (5, 6, -4294967296, -1)])
theorem oo_Mo_writeGroup_at_l1_7 {kA : Nat → ClassId} : or_ok PRD kA GG o_Mo_writeGroup_at_l1_7 := by
  refine or_mk fun A ta ws vs hD hth hl => ?_
  intro t0 r0 t2 k2 t3 r3 t4 k4 t5 k5 t6 k6 t7 k7 t9 k9 t10 k10 t11 k11 t12 k12 t14 k14 t15 k15 d0 d1 f0 f1 f2 f3 f4 f5 f6 f7 f8 f9 ta1 w1 le1 s1 f11 f12 f13 f14 ta2 w2 le2 s2 f16 f17 ta3 w3 le3 s3 f19 f20 f21
  replace f0 := shm_718 f0
  replace f1 := shm_1911 f1
  replace f2 := shm_718 f2
  replace f3 := shm_1909 f3
  replace f4 := shm_1908 f4
  replace f5 := shm_585 f5
  replace f6 := shm_135 f6
  replace f7 := shm_136 f7
  replace f8 := shm_5 f8
  replace f9 := shm_233 f9
  replace f11 := shm_1911 f11
  replace f12 := shm_21 f12
  replace f13 := shm_1909 f13
  replace f14 := shm_1908 f14
  replace f16 := shm_1909 f16
  replace f17 := shm_1908 f17
  replace f19 := shm_1908 f19
  replace f20 := shm_37 f20
  replace f21 := shm_6 f21
  have q3 : n_v vs 3 = n_v vs 0 := f8.symm
  simp only [q3] at f0 f2 f5 f6 f7 f9
  have cr_0_2 := fdq_12 hD hth r0
  have br_0_2_F5_0_0 : w_ei ws (w_ar ws (n_v vs 0) 2) (w_fi ws (n_v vs 0) 5 + 0) = w_el ws (w_ar ws (n_v vs 0) 2) (w_fi ws (n_v vs 0) 5 + 0).toNat := rfl
  have kz_0_170 := fdq_13 hD hth r0
  have kv0 := fdq_13 hD hth r0
  obtain ⟨x, ex, hx⟩ := iv_ex (ta := ta) (lo := 0) (hi := 99999987) (z := w_fi ws (n_v vs 0) 170) (by omega) (by omega) (by omega) (by omega)
  have ex2 : v_iv (Value.int x) = w_fi ws (n_v vs 0) 170 := ex
  have ex3 : 0 ≤ v_iv (Value.int x) ∧ v_iv (Value.int x) ≤ 99999987 := tv_rng hx
  have e_2 : n_v (vs ++ [Value.int x]) 2 = n_v vs 2 := n_v_old (by rw [hl]; decide)
  have e_3 : n_v (vs ++ [Value.int x]) 3 = n_v vs 3 := n_v_old (by rw [hl]; decide)
  have e_5 : n_v (vs ++ [Value.int x]) 5 = n_v vs 5 := n_v_old (by rw [hl]; decide)
  have e_16 : n_v (vs ++ [Value.int x]) 16 = Value.int x := n_v_new hl
  have nf0 : fc_1 PRD (20, [3, 16], [30, 0, 1, 1, 170, -1, 0, 0]) ws (vs ++ [Value.int x]) := by
    refine ⟨nf_inA hl rfl, sgq_140 ?_⟩
    · show 1 * w_fi ws (n_v (vs ++ [Value.int x]) 3) 170 + ((-1) * v_iv (n_v (vs ++ [Value.int x]) 16) + 0) ≤ 0
      simp only [e_3, e_16, q3]
      exact vc_Mo_writeGroup_at_l1_7_0 (v_iv (n_v vs 2)) (v_iv (n_v vs 4)) (v_iv (n_v vs 5)) (v_iv (n_v vs 6)) (v_iv (n_v vs 7)) (v_iv (n_v vs 9)) (v_iv (n_v vs 10)) (v_iv (n_v vs 11)) (v_iv (n_v vs 12)) (v_iv (n_v vs 14)) (v_iv (n_v vs 15)) (w_ei ws (w_ar ws (n_v vs 0) 2)) (w_fi ws (n_v vs 0) 5) (w_fi ws (n_v vs 0) 170) (v_iv (Value.int x)) k2 k4 k5 k6 k7 k9 k10 k11 k12 k14 k15 d0 d1 f0 f1 f2 f3 f4 f5 f6 f7 f9 f11 f12 f13 f14 f16 f17 f19 f20 f21 kz_0_170 ex2 ex3
  have nf1 : fc_1 PRD (23, [16, 2, 5], [20, 1, -1, -36]) ws (vs ++ [Value.int x]) := by
    refine ⟨nf_inA hl rfl, sgq_1912 ?_⟩
    · show 1 * v_iv (n_v (vs ++ [Value.int x]) 16) + ((-1) * v_iv (n_v (vs ++ [Value.int x]) 2) + ((-36) * v_iv (n_v (vs ++ [Value.int x]) 5) + 0)) ≤ 20
      simp only [e_2, e_5, e_16]
      exact vc_Mo_writeGroup_at_l1_7_1 (v_iv (n_v vs 2)) (v_iv (n_v vs 4)) (v_iv (n_v vs 5)) (v_iv (n_v vs 6)) (v_iv (n_v vs 7)) (v_iv (n_v vs 9)) (v_iv (n_v vs 10)) (v_iv (n_v vs 11)) (v_iv (n_v vs 12)) (v_iv (n_v vs 14)) (v_iv (n_v vs 15)) (w_ei ws (w_ar ws (n_v vs 0) 2)) (w_fi ws (n_v vs 0) 5) (w_fi ws (n_v vs 0) 170) (v_iv (Value.int x)) k2 k4 k5 k6 k7 k9 k10 k11 k12 k14 k15 d0 d1 f0 f1 f2 f3 f4 f5 f6 f7 f9 f11 f12 f13 f14 f16 f17 f19 f20 f21 kz_0_170 ex2 ex3
  exact ⟨(fun _ h => (by cases h)), [Value.int x], ag_one hx, List.forall_mem_cons.mpr ⟨⟨show (20 : Nat) < 100 from by decide, nf0⟩, List.forall_mem_cons.mpr ⟨⟨show (23 : Nat) < 100 from by decide, nf1⟩, (fun _ h => (by cases h))⟩⟩, (fun _ h => (by cases h))⟩
set_option maxHeartbeats 4000000 in
theorem vc_Mo_writeGroup_at_l1_8_0 (x2 : Int) (x4 : Int) (x5 : Int) (x6 : Int) (x7 : Int) (x9 : Int) (x10 : Int) (x11 : Int) (x12 : Int) (x14 : Int) (x15 : Int) (x16 : Int) (all_0 : Int → Int) (r_0 : Int) (texts_0 : Int) (gx : Int) (k2 : 0 ≤ x2 ∧ x2 ≤ 98271988) (k4 : 1 ≤ x4 ∧ x4 ≤ 7) (k5 : 0 ≤ x5 ∧ x5 ≤ 23) (k6 : 1 ≤ x6 ∧ x6 ≤ 24) (k7 : 1 ≤ x7 ∧ x7 ≤ 7) (k9 : 0 ≤ x9 ∧ x9 ≤ 99999995) (k10 : 0 ≤ x10 ∧ x10 ≤ 99999992) (k11 : 2 ≤ x11 ∧ x11 ≤ 99) (k12 : 1 ≤ x12 ∧ x12 ≤ 1) (k14 : 0 ≤ x14 ∧ x14 ≤ 99999993) (k15 : 0 ≤ x15 ∧ x15 ≤ 99) (k16 : 0 ≤ x16 ∧ x16 ≤ 99999987) (d0 : x4 + 0 ≤ x7 ∧ x7 ≤ x4 + 0) (d1 : x6 + (-4294967296) ≤ x5 ∧ x5 ≤ x6 + (-1)) (f0 : 1 * x16 + ((-1) * x2 + ((-36) * x5 + 0)) ≤ 20) (f1 : x15 = all_0 (((r_0 + 219) + x5))) (f2 : 1 * x14 + ((-1) * x2 + ((-36) * x5 + 0)) ≤ 13) (f3 : x11 = all_0 (((r_0 + 219) + x5))) (f4 : 1 * x10 + ((-1) * x2 + ((-36) * x5 + 0)) ≤ 5) (f5 : 1 * x9 + ((-1) * x2 + ((-36) * x5 + 0)) ≤ 0) (f6 : x7 = all_0 (((r_0 + 243) + x5))) (f7 : 1 * x6 + ((-1) * all_0 (r_0 + 0) + 0) ≤ 0) (f8 : (-1) * x6 + (1 * all_0 (r_0 + 0) + 0) ≤ 0) (f10 : 1 * texts_0 + ((-1) * x16 + 0) ≤ 13) (f12 : 1 * x16 + ((-1) * x2 + ((-36) * x5 + 0)) ≤ 20) (f13 : 1 * x14 + ((-1) * x2 + ((-36) * x5 + 0)) ≤ 13) (f14 : 1 * x10 + ((-1) * x2 + ((-36) * x5 + 0)) ≤ 5) (f15 : 1 * x9 + ((-1) * x2 + ((-36) * x5 + 0)) ≤ 0) (f17 : 1 * x14 + ((-1) * x2 + ((-36) * x5 + 0)) ≤ 13) (f18 : x12 < x11) (f19 : 1 * x10 + ((-1) * x2 + ((-36) * x5 + 0)) ≤ 5) (f20 : 1 * x9 + ((-1) * x2 + ((-36) * x5 + 0)) ≤ 0) (f22 : 1 * x10 + ((-1) * x2 + ((-36) * x5 + 0)) ≤ 5) (f23 : 1 * x9 + ((-1) * x2 + ((-36) * x5 + 0)) ≤ 0) (f25 : 1 * x9 + ((-1) * x2 + ((-36) * x5 + 0)) ≤ 0) (f26 : x7 = x4) (f27 : x5 < x6) (kz_0_170 : 0 ≤ texts_0 ∧ texts_0 ≤ 100000000) (ex2 : gx = texts_0) (ex3 : 0 ≤ gx ∧ gx ≤ 99999999) : 1 * texts_0 + ((-1) * gx + 0) ≤ 0 := by
  first | assumption | omega | grind
set_option maxHeartbeats 4000000 in
theorem vc_Mo_writeGroup_at_l1_8_1 (x2 : Int) (x4 : Int) (x5 : Int) (x6 : Int) (x7 : Int) (x9 : Int) (x10 : Int) (x11 : Int) (x12 : Int) (x14 : Int) (x15 : Int) (x16 : Int) (all_0 : Int → Int) (r_0 : Int) (texts_0 : Int) (gx : Int) (k2 : 0 ≤ x2 ∧ x2 ≤ 98271988) (k4 : 1 ≤ x4 ∧ x4 ≤ 7) (k5 : 0 ≤ x5 ∧ x5 ≤ 23) (k6 : 1 ≤ x6 ∧ x6 ≤ 24) (k7 : 1 ≤ x7 ∧ x7 ≤ 7) (k9 : 0 ≤ x9 ∧ x9 ≤ 99999995) (k10 : 0 ≤ x10 ∧ x10 ≤ 99999992) (k11 : 2 ≤ x11 ∧ x11 ≤ 99) (k12 : 1 ≤ x12 ∧ x12 ≤ 1) (k14 : 0 ≤ x14 ∧ x14 ≤ 99999993) (k15 : 0 ≤ x15 ∧ x15 ≤ 99) (k16 : 0 ≤ x16 ∧ x16 ≤ 99999987) (d0 : x4 + 0 ≤ x7 ∧ x7 ≤ x4 + 0) (d1 : x6 + (-4294967296) ≤ x5 ∧ x5 ≤ x6 + (-1)) (f0 : 1 * x16 + ((-1) * x2 + ((-36) * x5 + 0)) ≤ 20) (f1 : x15 = all_0 (((r_0 + 219) + x5))) (f2 : 1 * x14 + ((-1) * x2 + ((-36) * x5 + 0)) ≤ 13) (f3 : x11 = all_0 (((r_0 + 219) + x5))) (f4 : 1 * x10 + ((-1) * x2 + ((-36) * x5 + 0)) ≤ 5) (f5 : 1 * x9 + ((-1) * x2 + ((-36) * x5 + 0)) ≤ 0) (f6 : x7 = all_0 (((r_0 + 243) + x5))) (f7 : 1 * x6 + ((-1) * all_0 (r_0 + 0) + 0) ≤ 0) (f8 : (-1) * x6 + (1 * all_0 (r_0 + 0) + 0) ≤ 0) (f10 : 1 * texts_0 + ((-1) * x16 + 0) ≤ 13) (f12 : 1 * x16 + ((-1) * x2 + ((-36) * x5 + 0)) ≤ 20) (f13 : 1 * x14 + ((-1) * x2 + ((-36) * x5 + 0)) ≤ 13) (f14 : 1 * x10 + ((-1) * x2 + ((-36) * x5 + 0)) ≤ 5) (f15 : 1 * x9 + ((-1) * x2 + ((-36) * x5 + 0)) ≤ 0) (f17 : 1 * x14 + ((-1) * x2 + ((-36) * x5 + 0)) ≤ 13) (f18 : x12 < x11) (f19 : 1 * x10 + ((-1) * x2 + ((-36) * x5 + 0)) ≤ 5) (f20 : 1 * x9 + ((-1) * x2 + ((-36) * x5 + 0)) ≤ 0) (f22 : 1 * x10 + ((-1) * x2 + ((-36) * x5 + 0)) ≤ 5) (f23 : 1 * x9 + ((-1) * x2 + ((-36) * x5 + 0)) ≤ 0) (f25 : 1 * x9 + ((-1) * x2 + ((-36) * x5 + 0)) ≤ 0) (f26 : x7 = x4) (f27 : x5 < x6) (kz_0_170 : 0 ≤ texts_0 ∧ texts_0 ≤ 100000000) (ex2 : gx = texts_0) (ex3 : 0 ≤ gx ∧ gx ≤ 99999999) : 1 * gx + ((-1) * x2 + ((-36) * x5 + 0)) ≤ 33 := by
  first | assumption | omega | grind
def o_Mo_writeGroup_at_l1_8 : or_T := (63, 18, [(0, (2, 0, 0, [165])), (2, (0, 0, 98271988, [])), (3, (2, 0, 0, [165])), (4, (0, 1, 7, [])), (5, (0, 0, 23, [])), (6, (0, 1, 24, [])), (7, (0, 1, 7, [])), (9, (0, 0, 99999995, [])), (10, (0, 0, 99999992, [])), (11, (0, 2, 99, [])), (12, (0, 1, 1, [])), (14, (0, 0, 99999993, [])), (15, (0, 0, 99, [])), (16, (0, 0, 99999987, []))], [(23, [16, 2, 5], [20, 1, -1, -36]), (20, [15, 3, 5], [50, 1, 1, 1005, 1002, 1, 2, 1, 0, 3, 1, 2, 4, 7, 4, 3, 2, 1, 5, 0, 219, 1, 2]), (23, [14, 2, 5], [13, 1, -1, -36]), (20, [11, 3, 5], [50, 1, 1, 1005, 1002, 1, 2, 1, 0, 3, 1, 2, 4, 7, 4, 3, 2, 1, 5, 0, 219, 1, 2]), (23, [10, 2, 5], [5, 1, -1, -36]), (23, [9, 2, 5], [0, 1, -1, -36]), (20, [7, 3, 5], [50, 1, 1, 1005, 1002, 1, 2, 1, 0, 3, 1, 2, 4, 7, 4, 3, 2, 1, 5, 0, 243, 1, 2]), (20, [6, 3], [30, 0, 1, 0, 0, -1, 3, 2005000]), (20, [6, 3], [30, 0, -1, 0, 0, 1, 3, 2005000]), (24, [0, 3], []), (20, [3, 16], [30, 13, 1, 1, 170, -1, 0, 0]), (102, [16], [7770675568902916283677847627294075626569627356208558085007249638955617140820833992704, 165170]), (23, [16, 2, 5], [20, 1, -1, -36]), (23, [14, 2, 5], [13, 1, -1, -36]), (23, [10, 2, 5], [5, 1, -1, -36]), (23, [9, 2, 5], [0, 1, -1, -36]), (102, [14], [7770675568902916283677847627294075626569627356208558085007249638955617140820833992704, 165170]), (23, [14, 2, 5], [13, 1, -1, -36]), (7, [11, 12], [4]), (23, [10, 2, 5], [5, 1, -1, -36]), (23, [9, 2, 5], [0, 1, -1, -36]), (102, [10], [7770675568902916283677847627294075626569627356208558085007249638955617140820833992704, 165170]), (23, [10, 2, 5], [5, 1, -1, -36]), (23, [9, 2, 5], [0, 1, -1, -36]), (102, [9], [7770675568902916283677847627294075626569627356208558085007249638955617140820833992704, 165170]), (23, [9, 2, 5], [0, 1, -1, -36]), (7, [7, 4], [0]), (7, [5, 6], [2])], [], [(0, 0, 99999999, [])], [(20, [3, 18], [30, 0, 1, 1, 170, -1, 0, 0]), (23, [18, 2, 5], [33, 1, -1, -36])], [], [(7, 4, 0, 0), (5, 6, -4294967296, -1)])
theorem oo_Mo_writeGroup_at_l1_8 {kA : Nat → ClassId} : or_ok PRD kA GG o_Mo_writeGroup_at_l1_8 := by
  refine or_mk fun A ta ws vs hD hth hl => ?_
  intro t0 r0 t2 k2 t3 r3 t4 k4 t5 k5 t6 k6 t7 k7 t9 k9 t10 k10 t11 k11 t12 k12 t14 k14 t15 k15 t16 k16 d0 d1 f0 f1 f2 f3 f4 f5 f6 f7 f8 f9 f10 ta1 w1 le1 s1 f12 f13 f14 f15 ta2 w2 le2 s2 f17 f18 f19 f20 ta3 w3 le3 s3 f22 f23 ta4 w4 le4 s4 f25 f26 f27
  replace f0 := shm_1912 f0
  replace f1 := shm_718 f1
  replace f2 := shm_1911 f2
  replace f3 := shm_718 f3
  replace f4 := shm_1909 f4
  replace f5 := shm_1908 f5
  replace f6 := shm_585 f6
  replace f7 := shm_135 f7
  replace f8 := shm_136 f8
  replace f9 := shm_5 f9
  replace f10 := shm_1026 f10
  replace f12 := shm_1912 f12
  replace f13 := shm_1911 f13
  replace f14 := shm_1909 f14
  replace f15 := shm_1908 f15
  replace f17 := shm_1911 f17
  replace f18 := shm_21 f18
  replace f19 := shm_1909 f19
  replace f20 := shm_1908 f20
  replace f22 := shm_1909 f22
  replace f23 := shm_1908 f23
  replace f25 := shm_1908 f25
  replace f26 := shm_37 f26
  replace f27 := shm_6 f27
  have q3 : n_v vs 3 = n_v vs 0 := f9.symm
  simp only [q3] at f1 f3 f6 f7 f8 f10
  have cr_0_2 := fdq_12 hD hth r0
  have br_0_2_F5_0_0 : w_ei ws (w_ar ws (n_v vs 0) 2) (w_fi ws (n_v vs 0) 5 + 0) = w_el ws (w_ar ws (n_v vs 0) 2) (w_fi ws (n_v vs 0) 5 + 0).toNat := rfl
  have kz_0_170 := fdq_13 hD hth r0
  have kv0 := fdq_13 hD hth r0
  obtain ⟨x, ex, hx⟩ := iv_ex (ta := ta) (lo := 0) (hi := 99999999) (z := w_fi ws (n_v vs 0) 170) (by omega) (by omega) (by omega) (by omega)
  have ex2 : v_iv (Value.int x) = w_fi ws (n_v vs 0) 170 := ex
  have ex3 : 0 ≤ v_iv (Value.int x) ∧ v_iv (Value.int x) ≤ 99999999 := tv_rng hx
  have e_2 : n_v (vs ++ [Value.int x]) 2 = n_v vs 2 := n_v_old (by rw [hl]; decide)
  have e_3 : n_v (vs ++ [Value.int x]) 3 = n_v vs 3 := n_v_old (by rw [hl]; decide)
  have e_5 : n_v (vs ++ [Value.int x]) 5 = n_v vs 5 := n_v_old (by rw [hl]; decide)
  have e_18 : n_v (vs ++ [Value.int x]) 18 = Value.int x := n_v_new hl
  have nf0 : fc_1 PRD (20, [3, 18], [30, 0, 1, 1, 170, -1, 0, 0]) ws (vs ++ [Value.int x]) := by
    refine ⟨nf_inA hl rfl, sgq_140 ?_⟩
    · show 1 * w_fi ws (n_v (vs ++ [Value.int x]) 3) 170 + ((-1) * v_iv (n_v (vs ++ [Value.int x]) 18) + 0) ≤ 0
      simp only [e_3, e_18, q3]
      exact vc_Mo_writeGroup_at_l1_8_0 (v_iv (n_v vs 2)) (v_iv (n_v vs 4)) (v_iv (n_v vs 5)) (v_iv (n_v vs 6)) (v_iv (n_v vs 7)) (v_iv (n_v vs 9)) (v_iv (n_v vs 10)) (v_iv (n_v vs 11)) (v_iv (n_v vs 12)) (v_iv (n_v vs 14)) (v_iv (n_v vs 15)) (v_iv (n_v vs 16)) (w_ei ws (w_ar ws (n_v vs 0) 2)) (w_fi ws (n_v vs 0) 5) (w_fi ws (n_v vs 0) 170) (v_iv (Value.int x)) k2 k4 k5 k6 k7 k9 k10 k11 k12 k14 k15 k16 d0 d1 f0 f1 f2 f3 f4 f5 f6 f7 f8 f10 f12 f13 f14 f15 f17 f18 f19 f20 f22 f23 f25 f26 f27 kz_0_170 ex2 ex3
  have nf1 : fc_1 PRD (23, [18, 2, 5], [33, 1, -1, -36]) ws (vs ++ [Value.int x]) := by
    refine ⟨nf_inA hl rfl, sgq_1913 ?_⟩
    · show 1 * v_iv (n_v (vs ++ [Value.int x]) 18) + ((-1) * v_iv (n_v (vs ++ [Value.int x]) 2) + ((-36) * v_iv (n_v (vs ++ [Value.int x]) 5) + 0)) ≤ 33
      simp only [e_2, e_5, e_18]
      exact vc_Mo_writeGroup_at_l1_8_1 (v_iv (n_v vs 2)) (v_iv (n_v vs 4)) (v_iv (n_v vs 5)) (v_iv (n_v vs 6)) (v_iv (n_v vs 7)) (v_iv (n_v vs 9)) (v_iv (n_v vs 10)) (v_iv (n_v vs 11)) (v_iv (n_v vs 12)) (v_iv (n_v vs 14)) (v_iv (n_v vs 15)) (v_iv (n_v vs 16)) (w_ei ws (w_ar ws (n_v vs 0) 2)) (w_fi ws (n_v vs 0) 5) (w_fi ws (n_v vs 0) 170) (v_iv (Value.int x)) k2 k4 k5 k6 k7 k9 k10 k11 k12 k14 k15 k16 d0 d1 f0 f1 f2 f3 f4 f5 f6 f7 f8 f10 f12 f13 f14 f15 f17 f18 f19 f20 f22 f23 f25 f26 f27 kz_0_170 ex2 ex3
  exact ⟨(fun _ h => (by cases h)), [Value.int x], ag_one hx, List.forall_mem_cons.mpr ⟨⟨show (20 : Nat) < 100 from by decide, nf0⟩, List.forall_mem_cons.mpr ⟨⟨show (23 : Nat) < 100 from by decide, nf1⟩, (fun _ h => (by cases h))⟩⟩, (fun _ h => (by cases h))⟩
set_option maxHeartbeats 4000000 in
theorem vc_Mo_writeGroup_at_l1_9_0 (x2 : Int) (x4 : Int) (x5 : Int) (x6 : Int) (x7 : Int) (x9 : Int) (x10 : Int) (x11 : Int) (x12 : Int) (x14 : Int) (x15 : Int) (x16 : Int) (x18 : Int) (all_0 : Int → Int) (r_0 : Int) (texts_0 : Int) (gx : Int) (k2 : 0 ≤ x2 ∧ x2 ≤ 98271988) (k4 : 1 ≤ x4 ∧ x4 ≤ 7) (k5 : 0 ≤ x5 ∧ x5 ≤ 23) (k6 : 1 ≤ x6 ∧ x6 ≤ 24) (k7 : 1 ≤ x7 ∧ x7 ≤ 7) (k9 : 0 ≤ x9 ∧ x9 ≤ 99999995) (k10 : 0 ≤ x10 ∧ x10 ≤ 99999992) (k11 : 2 ≤ x11 ∧ x11 ≤ 99) (k12 : 1 ≤ x12 ∧ x12 ≤ 1) (k14 : 0 ≤ x14 ∧ x14 ≤ 99999993) (k15 : 0 ≤ x15 ∧ x15 ≤ 99) (k16 : 0 ≤ x16 ∧ x16 ≤ 99999987) (k18 : 0 ≤ x18 ∧ x18 ≤ 99999999) (d0 : x4 + 0 ≤ x7 ∧ x7 ≤ x4 + 0) (d1 : x6 + (-4294967296) ≤ x5 ∧ x5 ≤ x6 + (-1)) (f0 : 1 * x18 + ((-1) * x2 + ((-36) * x5 + 0)) ≤ 33) (f1 : 1 * x16 + ((-1) * x2 + ((-36) * x5 + 0)) ≤ 20) (f2 : x15 = all_0 (((r_0 + 219) + x5))) (f3 : 1 * x14 + ((-1) * x2 + ((-36) * x5 + 0)) ≤ 13) (f4 : x11 = all_0 (((r_0 + 219) + x5))) (f5 : 1 * x10 + ((-1) * x2 + ((-36) * x5 + 0)) ≤ 5) (f6 : 1 * x9 + ((-1) * x2 + ((-36) * x5 + 0)) ≤ 0) (f7 : x7 = all_0 (((r_0 + 243) + x5))) (f8 : 1 * x6 + ((-1) * all_0 (r_0 + 0) + 0) ≤ 0) (f9 : (-1) * x6 + (1 * all_0 (r_0 + 0) + 0) ≤ 0) (f11 : 1 * texts_0 + ((-1) * x18 + 0) ≤ 1) (f13 : 1 * x18 + ((-1) * x2 + ((-36) * x5 + 0)) ≤ 33) (f14 : 1 * x16 + ((-1) * x2 + ((-36) * x5 + 0)) ≤ 20) (f15 : 1 * x14 + ((-1) * x2 + ((-36) * x5 + 0)) ≤ 13) (f16 : 1 * x10 + ((-1) * x2 + ((-36) * x5 + 0)) ≤ 5) (f17 : 1 * x9 + ((-1) * x2 + ((-36) * x5 + 0)) ≤ 0) (f19 : 1 * x16 + ((-1) * x2 + ((-36) * x5 + 0)) ≤ 20) (f20 : 1 * x14 + ((-1) * x2 + ((-36) * x5 + 0)) ≤ 13) (f21 : 1 * x10 + ((-1) * x2 + ((-36) * x5 + 0)) ≤ 5) (f22 : 1 * x9 + ((-1) * x2 + ((-36) * x5 + 0)) ≤ 0) (f24 : 1 * x14 + ((-1) * x2 + ((-36) * x5 + 0)) ≤ 13) (f25 : x12 < x11) (f26 : 1 * x10 + ((-1) * x2 + ((-36) * x5 + 0)) ≤ 5) (f27 : 1 * x9 + ((-1) * x2 + ((-36) * x5 + 0)) ≤ 0) (f29 : 1 * x10 + ((-1) * x2 + ((-36) * x5 + 0)) ≤ 5) (f30 : 1 * x9 + ((-1) * x2 + ((-36) * x5 + 0)) ≤ 0) (f32 : 1 * x9 + ((-1) * x2 + ((-36) * x5 + 0)) ≤ 0) (f33 : x7 = x4) (f34 : x5 < x6) (kz_0_170 : 0 ≤ texts_0 ∧ texts_0 ≤ 100000000) (ex2 : gx = texts_0) (ex3 : 0 ≤ gx ∧ gx ≤ 99999998) : 1 * texts_0 + ((-1) * gx + 0) ≤ 0 := by
  first | assumption | omega | grind
set_option maxHeartbeats 4000000 in
theorem vc_Mo_writeGroup_at_l1_9_1 (x2 : Int) (x4 : Int) (x5 : Int) (x6 : Int) (x7 : Int) (x9 : Int) (x10 : Int) (x11 : Int) (x12 : Int) (x14 : Int) (x15 : Int) (x16 : Int) (x18 : Int) (all_0 : Int → Int) (r_0 : Int) (texts_0 : Int) (gx : Int) (k2 : 0 ≤ x2 ∧ x2 ≤ 98271988) (k4 : 1 ≤ x4 ∧ x4 ≤ 7) (k5 : 0 ≤ x5 ∧ x5 ≤ 23) (k6 : 1 ≤ x6 ∧ x6 ≤ 24) (k7 : 1 ≤ x7 ∧ x7 ≤ 7) (k9 : 0 ≤ x9 ∧ x9 ≤ 99999995) (k10 : 0 ≤ x10 ∧ x10 ≤ 99999992) (k11 : 2 ≤ x11 ∧ x11 ≤ 99) (k12 : 1 ≤ x12 ∧ x12 ≤ 1) (k14 : 0 ≤ x14 ∧ x14 ≤ 99999993) (k15 : 0 ≤ x15 ∧ x15 ≤ 99) (k16 : 0 ≤ x16 ∧ x16 ≤ 99999987) (k18 : 0 ≤ x18 ∧ x18 ≤ 99999999) (d0 : x4 + 0 ≤ x7 ∧ x7 ≤ x4 + 0) (d1 : x6 + (-4294967296) ≤ x5 ∧ x5 ≤ x6 + (-1)) (f0 : 1 * x18 + ((-1) * x2 + ((-36) * x5 + 0)) ≤ 33) (f1 : 1 * x16 + ((-1) * x2 + ((-36) * x5 + 0)) ≤ 20) (f2 : x15 = all_0 (((r_0 + 219) + x5))) (f3 : 1 * x14 + ((-1) * x2 + ((-36) * x5 + 0)) ≤ 13) (f4 : x11 = all_0 (((r_0 + 219) + x5))) (f5 : 1 * x10 + ((-1) * x2 + ((-36) * x5 + 0)) ≤ 5) (f6 : 1 * x9 + ((-1) * x2 + ((-36) * x5 + 0)) ≤ 0) (f7 : x7 = all_0 (((r_0 + 243) + x5))) (f8 : 1 * x6 + ((-1) * all_0 (r_0 + 0) + 0) ≤ 0) (f9 : (-1) * x6 + (1 * all_0 (r_0 + 0) + 0) ≤ 0) (f11 : 1 * texts_0 + ((-1) * x18 + 0) ≤ 1) (f13 : 1 * x18 + ((-1) * x2 + ((-36) * x5 + 0)) ≤ 33) (f14 : 1 * x16 + ((-1) * x2 + ((-36) * x5 + 0)) ≤ 20) (f15 : 1 * x14 + ((-1) * x2 + ((-36) * x5 + 0)) ≤ 13) (f16 : 1 * x10 + ((-1) * x2 + ((-36) * x5 + 0)) ≤ 5) (f17 : 1 * x9 + ((-1) * x2 + ((-36) * x5 + 0)) ≤ 0) (f19 : 1 * x16 + ((-1) * x2 + ((-36) * x5 + 0)) ≤ 20) (f20 : 1 * x14 + ((-1) * x2 + ((-36) * x5 + 0)) ≤ 13) (f21 : 1 * x10 + ((-1) * x2 + ((-36) * x5 + 0)) ≤ 5) (f22 : 1 * x9 + ((-1) * x2 + ((-36) * x5 + 0)) ≤ 0) (f24 : 1 * x14 + ((-1) * x2 + ((-36) * x5 + 0)) ≤ 13) (f25 : x12 < x11) (f26 : 1 * x10 + ((-1) * x2 + ((-36) * x5 + 0)) ≤ 5) (f27 : 1 * x9 + ((-1) * x2 + ((-36) * x5 + 0)) ≤ 0) (f29 : 1 * x10 + ((-1) * x2 + ((-36) * x5 + 0)) ≤ 5) (f30 : 1 * x9 + ((-1) * x2 + ((-36) * x5 + 0)) ≤ 0) (f32 : 1 * x9 + ((-1) * x2 + ((-36) * x5 + 0)) ≤ 0) (f33 : x7 = x4) (f34 : x5 < x6) (kz_0_170 : 0 ≤ texts_0 ∧ texts_0 ≤ 100000000) (ex2 : gx = texts_0) (ex3 : 0 ≤ gx ∧ gx ≤ 99999998) : 1 * gx + ((-1) * x2 + ((-36) * x5 + 0)) ≤ 34 := by
  first | assumption | omega | grind
def o_Mo_writeGroup_at_l1_9 : or_T := (70, 20, [(0, (2, 0, 0, [165])), (2, (0, 0, 98271988, [])), (3, (2, 0, 0, [165])), (4, (0, 1, 7, [])), (5, (0, 0, 23, [])), (6, (0, 1, 24, [])), (7, (0, 1, 7, [])), (9, (0, 0, 99999995, [])), (10, (0, 0, 99999992, [])), (11, (0, 2, 99, [])), (12, (0, 1, 1, [])), (14, (0, 0, 99999993, [])), (15, (0, 0, 99, [])), (16, (0, 0, 99999987, [])), (18, (0, 0, 99999999, []))], [(23, [18, 2, 5], [33, 1, -1, -36]), (23, [16, 2, 5], [20, 1, -1, -36]), (20, [15, 3, 5], [50, 1, 1, 1005, 1002, 1, 2, 1, 0, 3, 1, 2, 4, 7, 4, 3, 2, 1, 5, 0, 219, 1, 2]), (23, [14, 2, 5], [13, 1, -1, -36]), (20, [11, 3, 5], [50, 1, 1, 1005, 1002, 1, 2, 1, 0, 3, 1, 2, 4, 7, 4, 3, 2, 1, 5, 0, 219, 1, 2]), (23, [10, 2, 5], [5, 1, -1, -36]), (23, [9, 2, 5], [0, 1, -1, -36]), (20, [7, 3, 5], [50, 1, 1, 1005, 1002, 1, 2, 1, 0, 3, 1, 2, 4, 7, 4, 3, 2, 1, 5, 0, 243, 1, 2]), (20, [6, 3], [30, 0, 1, 0, 0, -1, 3, 2005000]), (20, [6, 3], [30, 0, -1, 0, 0, 1, 3, 2005000]), (24, [0, 3], []), (20, [3, 18], [30, 1, 1, 1, 170, -1, 0, 0]), (102, [18], [7770675568902916283677847627294075626569627356208558085007249638955617140820833992704, 165170]), (23, [18, 2, 5], [33, 1, -1, -36]), (23, [16, 2, 5], [20, 1, -1, -36]), (23, [14, 2, 5], [13, 1, -1, -36]), (23, [10, 2, 5], [5, 1, -1, -36]), (23, [9, 2, 5], [0, 1, -1, -36]), (102, [16], [7770675568902916283677847627294075626569627356208558085007249638955617140820833992704, 165170]), (23, [16, 2, 5], [20, 1, -1, -36]), (23, [14, 2, 5], [13, 1, -1, -36]), (23, [10, 2, 5], [5, 1, -1, -36]), (23, [9, 2, 5], [0, 1, -1, -36]), (102, [14], [7770675568902916283677847627294075626569627356208558085007249638955617140820833992704, 165170]), (23, [14, 2, 5], [13, 1, -1, -36]), (7, [11, 12], [4]), (23, [10, 2, 5], [5, 1, -1, -36]), (23, [9, 2, 5], [0, 1, -1, -36]), (102, [10], [7770675568902916283677847627294075626569627356208558085007249638955617140820833992704, 165170]), (23, [10, 2, 5], [5, 1, -1, -36]), (23, [9, 2, 5], [0, 1, -1, -36]), (102, [9], [7770675568902916283677847627294075626569627356208558085007249638955617140820833992704, 165170]), (23, [9, 2, 5], [0, 1, -1, -36]), (7, [7, 4], [0]), (7, [5, 6], [2])], [], [(0, 0, 99999998, [])], [(20, [3, 20], [30, 0, 1, 1, 170, -1, 0, 0]), (23, [20, 2, 5], [34, 1, -1, -36])], [], [(7, 4, 0, 0), (5, 6, -4294967296, -1)])
theorem oo_Mo_writeGroup_at_l1_9 {kA : Nat → ClassId} : or_ok PRD kA GG o_Mo_writeGroup_at_l1_9 := by
  refine or_mk fun A ta ws vs hD hth hl => ?_
  intro t0 r0 t2 k2 t3 r3 t4 k4 t5 k5 t6 k6 t7 k7 t9 k9 t10 k10 t11 k11 t12 k12 t14 k14 t15 k15 t16 k16 t18 k18 d0 d1 f0 f1 f2 f3 f4 f5 f6 f7 f8 f9 f10 f11 ta1 w1 le1 s1 f13 f14 f15 f16 f17 ta2 w2 le2 s2 f19 f20 f21 f22 ta3 w3 le3 s3 f24 f25 f26 f27 ta4 w4 le4 s4 f29 f30 ta5 w5 le5 s5 f32 f33 f34
  replace f0 := shm_1913 f0
  replace f1 := shm_1912 f1
  replace f2 := shm_718 f2
  replace f3 := shm_1911 f3
  replace f4 := shm_718 f4
  replace f5 := shm_1909 f5
  replace f6 := shm_1908 f6
  replace f7 := shm_585 f7
  replace f8 := shm_135 f8
  replace f9 := shm_136 f9
  replace f10 := shm_5 f10
  replace f11 := shm_141 f11
  replace f13 := shm_1913 f13
  replace f14 := shm_1912 f14
  replace f15 := shm_1911 f15
  replace f16 := shm_1909 f16
  replace f17 := shm_1908 f17
  replace f19 := shm_1912 f19
  replace f20 := shm_1911 f20
  replace f21 := shm_1909 f21
  replace f22 := shm_1908 f22
  replace f24 := shm_1911 f24
  replace f25 := shm_21 f25
  replace f26 := shm_1909 f26
  replace f27 := shm_1908 f27
  replace f29 := shm_1909 f29
  replace f30 := shm_1908 f30
  replace f32 := shm_1908 f32
  replace f33 := shm_37 f33
  replace f34 := shm_6 f34
  have q3 : n_v vs 3 = n_v vs 0 := f10.symm
  simp only [q3] at f2 f4 f7 f8 f9 f11
  have cr_0_2 := fdq_12 hD hth r0
  have br_0_2_F5_0_0 : w_ei ws (w_ar ws (n_v vs 0) 2) (w_fi ws (n_v vs 0) 5 + 0) = w_el ws (w_ar ws (n_v vs 0) 2) (w_fi ws (n_v vs 0) 5 + 0).toNat := rfl
  have kz_0_170 := fdq_13 hD hth r0
  have kv0 := fdq_13 hD hth r0
  obtain ⟨x, ex, hx⟩ := iv_ex (ta := ta) (lo := 0) (hi := 99999998) (z := w_fi ws (n_v vs 0) 170) (by omega) (by omega) (by omega) (by omega)
  have ex2 : v_iv (Value.int x) = w_fi ws (n_v vs 0) 170 := ex
  have ex3 : 0 ≤ v_iv (Value.int x) ∧ v_iv (Value.int x) ≤ 99999998 := tv_rng hx
  have e_2 : n_v (vs ++ [Value.int x]) 2 = n_v vs 2 := n_v_old (by rw [hl]; decide)
  have e_3 : n_v (vs ++ [Value.int x]) 3 = n_v vs 3 := n_v_old (by rw [hl]; decide)
  have e_5 : n_v (vs ++ [Value.int x]) 5 = n_v vs 5 := n_v_old (by rw [hl]; decide)
  have e_20 : n_v (vs ++ [Value.int x]) 20 = Value.int x := n_v_new hl
  have nf0 : fc_1 PRD (20, [3, 20], [30, 0, 1, 1, 170, -1, 0, 0]) ws (vs ++ [Value.int x]) := by
    refine ⟨nf_inA hl rfl, sgq_140 ?_⟩
    · show 1 * w_fi ws (n_v (vs ++ [Value.int x]) 3) 170 + ((-1) * v_iv (n_v (vs ++ [Value.int x]) 20) + 0) ≤ 0
      simp only [e_3, e_20, q3]
      exact vc_Mo_writeGroup_at_l1_9_0 (v_iv (n_v vs 2)) (v_iv (n_v vs 4)) (v_iv (n_v vs 5)) (v_iv (n_v vs 6)) (v_iv (n_v vs 7)) (v_iv (n_v vs 9)) (v_iv (n_v vs 10)) (v_iv (n_v vs 11)) (v_iv (n_v vs 12)) (v_iv (n_v vs 14)) (v_iv (n_v vs 15)) (v_iv (n_v vs 16)) (v_iv (n_v vs 18)) (w_ei ws (w_ar ws (n_v vs 0) 2)) (w_fi ws (n_v vs 0) 5) (w_fi ws (n_v vs 0) 170) (v_iv (Value.int x)) k2 k4 k5 k6 k7 k9 k10 k11 k12 k14 k15 k16 k18 d0 d1 f0 f1 f2 f3 f4 f5 f6 f7 f8 f9 f11 f13 f14 f15 f16 f17 f19 f20 f21 f22 f24 f25 f26 f27 f29 f30 f32 f33 f34 kz_0_170 ex2 ex3
  have nf1 : fc_1 PRD (23, [20, 2, 5], [34, 1, -1, -36]) ws (vs ++ [Value.int x]) := by
    refine ⟨nf_inA hl rfl, sgq_1910 ?_⟩
    · show 1 * v_iv (n_v (vs ++ [Value.int x]) 20) + ((-1) * v_iv (n_v (vs ++ [Value.int x]) 2) + ((-36) * v_iv (n_v (vs ++ [Value.int x]) 5) + 0)) ≤ 34
      simp only [e_2, e_5, e_20]
      exact vc_Mo_writeGroup_at_l1_9_1 (v_iv (n_v vs 2)) (v_iv (n_v vs 4)) (v_iv (n_v vs 5)) (v_iv (n_v vs 6)) (v_iv (n_v vs 7)) (v_iv (n_v vs 9)) (v_iv (n_v vs 10)) (v_iv (n_v vs 11)) (v_iv (n_v vs 12)) (v_iv (n_v vs 14)) (v_iv (n_v vs 15)) (v_iv (n_v vs 16)) (v_iv (n_v vs 18)) (w_ei ws (w_ar ws (n_v vs 0) 2)) (w_fi ws (n_v vs 0) 5) (w_fi ws (n_v vs 0) 170) (v_iv (Value.int x)) k2 k4 k5 k6 k7 k9 k10 k11 k12 k14 k15 k16 k18 d0 d1 f0 f1 f2 f3 f4 f5 f6 f7 f8 f9 f11 f13 f14 f15 f16 f17 f19 f20 f21 f22 f24 f25 f26 f27 f29 f30 f32 f33 f34 kz_0_170 ex2 ex3
  exact ⟨(fun _ h => (by cases h)), [Value.int x], ag_one hx, List.forall_mem_cons.mpr ⟨⟨show (20 : Nat) < 100 from by decide, nf0⟩, List.forall_mem_cons.mpr ⟨⟨show (23 : Nat) < 100 from by decide, nf1⟩, (fun _ h => (by cases h))⟩⟩, (fun _ h => (by cases h))⟩
set_option maxHeartbeats 4000000 in
theorem vc_Mo_writeGroup_at_l1_10_0 (x2 : Int) (x4 : Int) (x5 : Int) (x6 : Int) (x7 : Int) (x9 : Int) (x10 : Int) (x11 : Int) (x12 : Int) (x14 : Int) (x15 : Int) (x16 : Int) (x18 : Int) (x20 : Int) (x21 : Int) (all_0 : Int → Int) (r_0 : Int) (texts_0 : Int) (k2 : 0 ≤ x2 ∧ x2 ≤ 98271988) (k4 : 1 ≤ x4 ∧ x4 ≤ 7) (k5 : 0 ≤ x5 ∧ x5 ≤ 23) (k6 : 1 ≤ x6 ∧ x6 ≤ 24) (k7 : 1 ≤ x7 ∧ x7 ≤ 7) (k9 : 0 ≤ x9 ∧ x9 ≤ 99999995) (k10 : 0 ≤ x10 ∧ x10 ≤ 99999992) (k11 : 2 ≤ x11 ∧ x11 ≤ 99) (k12 : 1 ≤ x12 ∧ x12 ≤ 1) (k14 : 0 ≤ x14 ∧ x14 ≤ 99999993) (k15 : 0 ≤ x15 ∧ x15 ≤ 99) (k16 : 0 ≤ x16 ∧ x16 ≤ 99999987) (k18 : 0 ≤ x18 ∧ x18 ≤ 99999999) (k20 : 0 ≤ x20 ∧ x20 ≤ 99999998) (k21 : 1 ≤ x21 ∧ x21 ≤ 24) (d0 : x5 + 1 ≤ x21 ∧ x21 ≤ x5 + 1) (d1 : x6 + (-4294967296) ≤ x21 ∧ x21 ≤ x6 + 0) (d2 : x4 + 0 ≤ x7 ∧ x7 ≤ x4 + 0) (d3 : x6 + (-4294967296) ≤ x5 ∧ x5 ≤ x6 + (-1)) (f0 : x21 = x5 + 1) (f1 : 1 * x20 + ((-1) * x2 + ((-36) * x5 + 0)) ≤ 34) (f2 : 1 * x18 + ((-1) * x2 + ((-36) * x5 + 0)) ≤ 33) (f3 : 1 * x16 + ((-1) * x2 + ((-36) * x5 + 0)) ≤ 20) (f4 : x15 = all_0 (((r_0 + 219) + x5))) (f5 : 1 * x14 + ((-1) * x2 + ((-36) * x5 + 0)) ≤ 13) (f6 : x11 = all_0 (((r_0 + 219) + x5))) (f7 : 1 * x10 + ((-1) * x2 + ((-36) * x5 + 0)) ≤ 5) (f8 : 1 * x9 + ((-1) * x2 + ((-36) * x5 + 0)) ≤ 0) (f9 : x7 = all_0 (((r_0 + 243) + x5))) (f10 : 1 * x6 + ((-1) * all_0 (r_0 + 0) + 0) ≤ 0) (f11 : (-1) * x6 + (1 * all_0 (r_0 + 0) + 0) ≤ 0) (f13 : 1 * texts_0 + ((-1) * x20 + 0) ≤ 2) (f15 : 1 * x20 + ((-1) * x2 + ((-36) * x5 + 0)) ≤ 34) (f16 : 1 * x18 + ((-1) * x2 + ((-36) * x5 + 0)) ≤ 33) (f17 : 1 * x16 + ((-1) * x2 + ((-36) * x5 + 0)) ≤ 20) (f18 : 1 * x14 + ((-1) * x2 + ((-36) * x5 + 0)) ≤ 13) (f19 : 1 * x10 + ((-1) * x2 + ((-36) * x5 + 0)) ≤ 5) (f20 : 1 * x9 + ((-1) * x2 + ((-36) * x5 + 0)) ≤ 0) (f22 : 1 * x18 + ((-1) * x2 + ((-36) * x5 + 0)) ≤ 33) (f23 : 1 * x16 + ((-1) * x2 + ((-36) * x5 + 0)) ≤ 20) (f24 : 1 * x14 + ((-1) * x2 + ((-36) * x5 + 0)) ≤ 13) (f25 : 1 * x10 + ((-1) * x2 + ((-36) * x5 + 0)) ≤ 5) (f26 : 1 * x9 + ((-1) * x2 + ((-36) * x5 + 0)) ≤ 0) (f28 : 1 * x16 + ((-1) * x2 + ((-36) * x5 + 0)) ≤ 20) (f29 : 1 * x14 + ((-1) * x2 + ((-36) * x5 + 0)) ≤ 13) (f30 : 1 * x10 + ((-1) * x2 + ((-36) * x5 + 0)) ≤ 5) (f31 : 1 * x9 + ((-1) * x2 + ((-36) * x5 + 0)) ≤ 0) (f33 : 1 * x14 + ((-1) * x2 + ((-36) * x5 + 0)) ≤ 13) (f34 : x12 < x11) (f35 : 1 * x10 + ((-1) * x2 + ((-36) * x5 + 0)) ≤ 5) (f36 : 1 * x9 + ((-1) * x2 + ((-36) * x5 + 0)) ≤ 0) (f38 : 1 * x10 + ((-1) * x2 + ((-36) * x5 + 0)) ≤ 5) (f39 : 1 * x9 + ((-1) * x2 + ((-36) * x5 + 0)) ≤ 0) (f41 : 1 * x9 + ((-1) * x2 + ((-36) * x5 + 0)) ≤ 0) (f42 : x7 = x4) (f43 : x5 < x6) (kz_0_170 : 0 ≤ texts_0 ∧ texts_0 ≤ 100000000) : 1 * texts_0 + ((-1) * x2 + ((-36) * x21 + 0)) ≤ 0 := by
  first | assumption | omega | grind
def o_Mo_writeGroup_at_l1_10 : or_T := (2, 22, [(0, (2, 0, 0, [165])), (2, (0, 0, 98271988, [])), (4, (0, 1, 7, [])), (5, (0, 0, 23, [])), (6, (0, 1, 24, [])), (7, (0, 1, 7, [])), (9, (0, 0, 99999995, [])), (10, (0, 0, 99999992, [])), (11, (0, 2, 99, [])), (12, (0, 1, 1, [])), (14, (0, 0, 99999993, [])), (15, (0, 0, 99, [])), (16, (0, 0, 99999987, [])), (18, (0, 0, 99999999, [])), (20, (0, 0, 99999998, [])), (21, (0, 1, 24, []))], [(6, [21, 5], [1]), (23, [20, 2, 5], [34, 1, -1, -36]), (23, [18, 2, 5], [33, 1, -1, -36]), (23, [16, 2, 5], [20, 1, -1, -36]), (20, [15, 3, 5], [50, 1, 1, 1005, 1002, 1, 2, 1, 0, 3, 1, 2, 4, 7, 4, 3, 2, 1, 5, 0, 219, 1, 2]), (23, [14, 2, 5], [13, 1, -1, -36]), (20, [11, 3, 5], [50, 1, 1, 1005, 1002, 1, 2, 1, 0, 3, 1, 2, 4, 7, 4, 3, 2, 1, 5, 0, 219, 1, 2]), (23, [10, 2, 5], [5, 1, -1, -36]), (23, [9, 2, 5], [0, 1, -1, -36]), (20, [7, 3, 5], [50, 1, 1, 1005, 1002, 1, 2, 1, 0, 3, 1, 2, 4, 7, 4, 3, 2, 1, 5, 0, 243, 1, 2]), (20, [6, 3], [30, 0, 1, 0, 0, -1, 3, 2005000]), (20, [6, 3], [30, 0, -1, 0, 0, 1, 3, 2005000]), (24, [0, 3], []), (20, [3, 20], [30, 2, 1, 1, 170, -1, 0, 0]), (102, [20], [7770675568902916283677847627294075626569627356208558085007249638955617140820833992704, 165170]), (23, [20, 2, 5], [34, 1, -1, -36]), (23, [18, 2, 5], [33, 1, -1, -36]), (23, [16, 2, 5], [20, 1, -1, -36]), (23, [14, 2, 5], [13, 1, -1, -36]), (23, [10, 2, 5], [5, 1, -1, -36]), (23, [9, 2, 5], [0, 1, -1, -36]), (102, [18], [7770675568902916283677847627294075626569627356208558085007249638955617140820833992704, 165170]), (23, [18, 2, 5], [33, 1, -1, -36]), (23, [16, 2, 5], [20, 1, -1, -36]), (23, [14, 2, 5], [13, 1, -1, -36]), (23, [10, 2, 5], [5, 1, -1, -36]), (23, [9, 2, 5], [0, 1, -1, -36]), (102, [16], [7770675568902916283677847627294075626569627356208558085007249638955617140820833992704, 165170]), (23, [16, 2, 5], [20, 1, -1, -36]), (23, [14, 2, 5], [13, 1, -1, -36]), (23, [10, 2, 5], [5, 1, -1, -36]), (23, [9, 2, 5], [0, 1, -1, -36]), (102, [14], [7770675568902916283677847627294075626569627356208558085007249638955617140820833992704, 165170]), (23, [14, 2, 5], [13, 1, -1, -36]), (7, [11, 12], [4]), (23, [10, 2, 5], [5, 1, -1, -36]), (23, [9, 2, 5], [0, 1, -1, -36]), (102, [10], [7770675568902916283677847627294075626569627356208558085007249638955617140820833992704, 165170]), (23, [10, 2, 5], [5, 1, -1, -36]), (23, [9, 2, 5], [0, 1, -1, -36]), (102, [9], [7770675568902916283677847627294075626569627356208558085007249638955617140820833992704, 165170]), (23, [9, 2, 5], [0, 1, -1, -36]), (7, [7, 4], [0]), (7, [5, 6], [2])], [], [], [(20, [3, 2, 21], [30, 0, 1, 1, 170, -1, 0, 0, -36, 0, 0])], [], [(21, 5, 1, 1), (21, 6, -4294967296, 0), (7, 4, 0, 0), (5, 6, -4294967296, -1)])
theorem oo_Mo_writeGroup_at_l1_10 {kA : Nat → ClassId} : or_ok PRD kA GG o_Mo_writeGroup_at_l1_10 := by
  refine or_mk fun A ta ws vs hD hth hl => ?_
  intro t0 r0 t2 k2 t4 k4 t5 k5 t6 k6 t7 k7 t9 k9 t10 k10 t11 k11 t12 k12 t14 k14 t15 k15 t16 k16 t18 k18 t20 k20 t21 k21 d0 d1 d2 d3 f0 f1 f2 f3 f4 f5 f6 f7 f8 f9 f10 f11 f12 f13 ta1 w1 le1 s1 f15 f16 f17 f18 f19 f20 ta2 w2 le2 s2 f22 f23 f24 f25 f26 ta3 w3 le3 s3 f28 f29 f30 f31 ta4 w4 le4 s4 f33 f34 f35 f36 ta5 w5 le5 s5 f38 f39 ta6 w6 le6 s6 f41 f42 f43
  replace f0 := shm_4 f0
  replace f1 := shm_1910 f1
  replace f2 := shm_1913 f2
  replace f3 := shm_1912 f3
  replace f4 := shm_718 f4
  replace f5 := shm_1911 f5
  replace f6 := shm_718 f6
  replace f7 := shm_1909 f7
  replace f8 := shm_1908 f8
  replace f9 := shm_585 f9
  replace f10 := shm_135 f10
  replace f11 := shm_136 f11
  replace f12 := shm_5 f12
  replace f13 := shm_234 f13
  replace f15 := shm_1910 f15
  replace f16 := shm_1913 f16
  replace f17 := shm_1912 f17
  replace f18 := shm_1911 f18
  replace f19 := shm_1909 f19
  replace f20 := shm_1908 f20
  replace f22 := shm_1913 f22
  replace f23 := shm_1912 f23
  replace f24 := shm_1911 f24
  replace f25 := shm_1909 f25
  replace f26 := shm_1908 f26
  replace f28 := shm_1912 f28
  replace f29 := shm_1911 f29
  replace f30 := shm_1909 f30
  replace f31 := shm_1908 f31
  replace f33 := shm_1911 f33
  replace f34 := shm_21 f34
  replace f35 := shm_1909 f35
  replace f36 := shm_1908 f36
  replace f38 := shm_1909 f38
  replace f39 := shm_1908 f39
  replace f41 := shm_1908 f41
  replace f42 := shm_37 f42
  replace f43 := shm_6 f43
  have q3 : n_v vs 3 = n_v vs 0 := f12.symm
  simp only [q3] at f4 f6 f9 f10 f11 f13
  have kz_0_170 := fdq_13 hD hth r0
  have nf0 : fc_1 PRD (20, [3, 2, 21], [30, 0, 1, 1, 170, -1, 0, 0, -36, 0, 0]) ws (vs) := by
    refine ⟨nf_in hl rfl, sgq_1906 ?_⟩
    · show 1 * w_fi ws (n_v vs 3) 170 + ((-1) * v_iv (n_v vs 2) + ((-36) * v_iv (n_v vs 21) + 0)) ≤ 0
      rw [q3]
      exact vc_Mo_writeGroup_at_l1_10_0 (v_iv (n_v vs 2)) (v_iv (n_v vs 4)) (v_iv (n_v vs 5)) (v_iv (n_v vs 6)) (v_iv (n_v vs 7)) (v_iv (n_v vs 9)) (v_iv (n_v vs 10)) (v_iv (n_v vs 11)) (v_iv (n_v vs 12)) (v_iv (n_v vs 14)) (v_iv (n_v vs 15)) (v_iv (n_v vs 16)) (v_iv (n_v vs 18)) (v_iv (n_v vs 20)) (v_iv (n_v vs 21)) (w_ei ws (w_ar ws (n_v vs 0) 2)) (w_fi ws (n_v vs 0) 5) (w_fi ws (n_v vs 0) 170) k2 k4 k5 k6 k7 k9 k10 k11 k12 k14 k15 k16 k18 k20 k21 d0 d1 d2 d3 f0 f1 f2 f3 f4 f5 f6 f7 f8 f9 f10 f11 f13 f15 f16 f17 f18 f19 f20 f22 f23 f24 f25 f26 f28 f29 f30 f31 f33 f34 f35 f36 f38 f39 f41 f42 f43 kz_0_170
  refine ⟨(fun _ h => (by cases h)), [], trivial, ?_, (fun _ h => (by cases h))⟩
  rw [List.append_nil]
  exact List.forall_mem_cons.mpr ⟨⟨show (20 : Nat) < 100 from by decide, nf0⟩, (fun _ h => (by cases h))⟩
set_option maxHeartbeats 4000000 in
theorem vc_Mo_writeGroup_at_l1_11_0 (x2 : Int) (x4 : Int) (x5 : Int) (x6 : Int) (x7 : Int) (x8 : Int) (all_0 : Int → Int) (r_0 : Int) (texts_0 : Int) (k2 : 0 ≤ x2 ∧ x2 ≤ 98271988) (k4 : 1 ≤ x4 ∧ x4 ≤ 7) (k5 : 0 ≤ x5 ∧ x5 ≤ 23) (k6 : 1 ≤ x6 ∧ x6 ≤ 24) (k7 : 0 ≤ x7 ∧ x7 ≤ 7) (k8 : 1 ≤ x8 ∧ x8 ≤ 24) (d0 : x5 + 1 ≤ x8 ∧ x8 ≤ x5 + 1) (d1 : x6 + (-4294967296) ≤ x8 ∧ x8 ≤ x6 + 0) (d2 : x6 + (-4294967296) ≤ x5 ∧ x5 ≤ x6 + (-1)) (f0 : x8 = x5 + 1) (f1 : x7 ≠ x4) (f2 : x7 = all_0 (((r_0 + 243) + x5))) (f3 : x5 < x6) (f4 : 1 * x6 + ((-1) * all_0 (r_0 + 0) + 0) ≤ 0) (f5 : (-1) * x6 + (1 * all_0 (r_0 + 0) + 0) ≤ 0) (f6 : 1 * texts_0 + ((-1) * x2 + ((-36) * x5 + 0)) ≤ 0) (kz_0_170 : 0 ≤ texts_0 ∧ texts_0 ≤ 100000000) : 1 * texts_0 + ((-1) * x2 + ((-36) * x8 + 0)) ≤ 0 := by
  first | assumption | omega | grind
def o_Mo_writeGroup_at_l1_11 : or_T := (2, 9, [(0, (2, 0, 0, [165])), (2, (0, 0, 98271988, [])), (4, (0, 1, 7, [])), (5, (0, 0, 23, [])), (6, (0, 1, 24, [])), (7, (0, 0, 7, [])), (8, (0, 1, 24, []))], [(6, [8, 5], [1]), (7, [7, 4], [1]), (20, [7, 3, 5], [50, 1, 1, 1005, 1002, 1, 2, 1, 0, 3, 1, 2, 4, 7, 4, 3, 2, 1, 5, 0, 243, 1, 2]), (7, [5, 6], [2]), (20, [6, 3], [30, 0, 1, 0, 0, -1, 3, 2005000]), (20, [6, 3], [30, 0, -1, 0, 0, 1, 3, 2005000]), (20, [3, 2, 5], [30, 0, 1, 1, 170, -1, 0, 0, -36, 0, 0]), (24, [0, 3], [])], [], [], [(20, [3, 2, 8], [30, 0, 1, 1, 170, -1, 0, 0, -36, 0, 0])], [], [(8, 5, 1, 1), (8, 6, -4294967296, 0), (5, 6, -4294967296, -1)])
theorem oo_Mo_writeGroup_at_l1_11 {kA : Nat → ClassId} : or_ok PRD kA GG o_Mo_writeGroup_at_l1_11 := by
  refine or_mk fun A ta ws vs hD hth hl => ?_
  intro t0 r0 t2 k2 t4 k4 t5 k5 t6 k6 t7 k7 t8 k8 d0 d1 d2 f0 f1 f2 f3 f4 f5 f6 f7
  replace f0 := shm_4 f0
  replace f1 := shm_40 f1
  replace f2 := shm_585 f2
  replace f3 := shm_6 f3
  replace f4 := shm_135 f4
  replace f5 := shm_136 f5
  replace f6 := shm_1906 f6
  replace f7 := shm_5 f7
  have q3 : n_v vs 3 = n_v vs 0 := f7.symm
  simp only [q3] at f2 f4 f5 f6
  have kz_0_170 := fdq_13 hD hth r0
  have nf0 : fc_1 PRD (20, [3, 2, 8], [30, 0, 1, 1, 170, -1, 0, 0, -36, 0, 0]) ws (vs) := by
    refine ⟨nf_in hl rfl, sgq_1906 ?_⟩
    · show 1 * w_fi ws (n_v vs 3) 170 + ((-1) * v_iv (n_v vs 2) + ((-36) * v_iv (n_v vs 8) + 0)) ≤ 0
      rw [q3]
      exact vc_Mo_writeGroup_at_l1_11_0 (v_iv (n_v vs 2)) (v_iv (n_v vs 4)) (v_iv (n_v vs 5)) (v_iv (n_v vs 6)) (v_iv (n_v vs 7)) (v_iv (n_v vs 8)) (w_ei ws (w_ar ws (n_v vs 0) 2)) (w_fi ws (n_v vs 0) 5) (w_fi ws (n_v vs 0) 170) k2 k4 k5 k6 k7 k8 d0 d1 d2 f0 f1 f2 f3 f4 f5 f6 kz_0_170
  refine ⟨(fun _ h => (by cases h)), [], trivial, ?_, (fun _ h => (by cases h))⟩
  rw [List.append_nil]
  exact List.forall_mem_cons.mpr ⟨⟨show (20 : Nat) < 100 from by decide, nf0⟩, (fun _ h => (by cases h))⟩
set_option maxHeartbeats 4000000 in
theorem vc_Mo_writeGroup_at_l1_12_0 (x2 : Int) (x4 : Int) (x5 : Int) (x6 : Int) (all_0 : Int → Int) (r_0 : Int) (texts_0 : Int) (k2 : 0 ≤ x2 ∧ x2 ≤ 98271988) (k4 : 1 ≤ x4 ∧ x4 ≤ 7) (k5 : 2 ≤ x5 ∧ x5 ≤ 8) (k6 : 0 ≤ x6 ∧ x6 ≤ 8) (d0 : x6 + 0 ≤ x5 ∧ x5 ≤ x6 + 4294967296) (d1 : x5 + (-4294967296) ≤ x4 ∧ x4 ≤ x5 + (-1)) (f0 : x6 ≤ x5) (f1 : 1 * x6 + ((-1) * all_0 (r_0 + 2) + 0) ≤ 0) (f2 : (-1) * x6 + (1 * all_0 (r_0 + 2) + 0) ≤ 0) (f3 : 1 * texts_0 + ((-1) * x2 + ((-287858) * x5 + (287858 * x4 + 0))) ≤ (-286994)) (kz_0_170 : 0 ≤ texts_0 ∧ texts_0 ≤ 100000000) : 1 * texts_0 + ((-1) * x2 + 0) ≤ 1728012 := by
  first | assumption | omega | grind
def o_Mo_writeGroup_at_l1_12 : or_T := (177, 7, [(0, (2, 0, 0, [165])), (2, (0, 0, 98271988, [])), (4, (0, 1, 7, [])), (5, (0, 2, 8, [])), (6, (0, 0, 8, []))], [(7, [5, 6], [3]), (20, [6, 3], [30, 0, 1, 0, 0, -1, 3, 2005002]), (20, [6, 3], [30, 0, -1, 0, 0, 1, 3, 2005002]), (20, [3, 2, 5, 4], [30, -286994, 1, 1, 170, -1, 0, 0, -287858, 0, 0, 287858, 0, 0]), (24, [0, 3], [])], [], [], [(20, [0, 2], [30, 1728012, 1, 1, 170, -1, 0, 0])], [], [(5, 6, 0, 4294967296), (4, 5, -4294967296, -1)])
theorem oo_Mo_writeGroup_at_l1_12 {kA : Nat → ClassId} : or_ok PRD kA GG o_Mo_writeGroup_at_l1_12 := by
  refine or_mk fun A ta ws vs hD hth hl => ?_
  intro t0 r0 t2 k2 t4 k4 t5 k5 t6 k6 d0 d1 f0 f1 f2 f3 f4
  replace f1 := shm_132 f1
  replace f2 := shm_133 f2
  replace f3 := shm_1921 f3
  replace f4 := shm_5 f4
  have q3 : n_v vs 3 = n_v vs 0 := f4.symm
  simp only [q3] at f1 f2 f3
  have kz_0_170 := fdq_13 hD hth r0
  have nf0 : fc_1 PRD (20, [0, 2], [30, 1728012, 1, 1, 170, -1, 0, 0]) ws (vs) := ⟨nf_in hl rfl, sgq_1919 (vc_Mo_writeGroup_at_l1_12_0 (v_iv (n_v vs 2)) (v_iv (n_v vs 4)) (v_iv (n_v vs 5)) (v_iv (n_v vs 6)) (w_ei ws (w_ar ws (n_v vs 0) 2)) (w_fi ws (n_v vs 0) 5) (w_fi ws (n_v vs 0) 170) k2 k4 k5 k6 d0 d1 (shm_2 f0) f1 f2 f3 kz_0_170)⟩
  refine ⟨(fun _ h => (by cases h)), [], trivial, ?_, (fun _ h => (by cases h))⟩
  rw [List.append_nil]
  exact List.forall_mem_cons.mpr ⟨⟨show (20 : Nat) < 100 from by decide, nf0⟩, (fun _ h => (by cases h))⟩
def o_Mo_writeGroup_at_l1_13 : or_T := (117, 14, [(0, (2, 0, 0, [165])), (2, (0, 0, 98271988, [])), (3, (2, 0, 0, [165])), (4, (0, 1, 6, [])), (5, (0, 2, 7, [])), (6, (0, 3, 8, [])), (7, (2, 0, 0, [167])), (8, (0, 0, 66297, [])), (9, (0, 531, 531, [])), (10, (0, 531, 66828, [])), (11, (0, 533, 66835, [])), (12, (0, 1, 6, []))], [(7, [12, 4], [0]), (10, [12, 7, 11], []), (1, [11, 10, 5], []), (1, [10, 8, 9], []), (9, [8, 3], [5]), (9, [7, 3], [2]), (7, [5, 6], [2]), (20, [6, 3], [30, 0, 1, 0, 0, -1, 3, 2005002]), (20, [6, 3], [30, 0, -1, 0, 0, 1, 3, 2005002]), (20, [3, 2, 5, 4], [30, -286994, 1, 1, 170, -1, 0, 0, -287858, 0, 0, 287858, 0, 0]), (24, [0, 3], [])], [], [(0, 0, 99999994, [])], [(20, [3, 14], [30, 0, 1, 1, 170, -1, 0, 0]), (23, [14, 2, 5, 4], [-286994, 1, -1, -287858, 287858])], [], [(12, 4, 0, 0), (11, 5, 531, 66828), (11, 6, -4294967296, 66827), (11, 10, 2, 7), (11, 8, 533, 538), (10, 8, 531, 531), (5, 6, -4294967296, -1), (4, 5, -4294967296, -1)])
theorem oo_Mo_writeGroup_at_l1_13 {kA : Nat → ClassId} : or_ok PRD kA GG o_Mo_writeGroup_at_l1_13 := by
  refine or_mk fun A ta ws vs hD hth hl => ?_
  intro t0 r0 t2 k2 t3 r3 t4 k4 t5 k5 t6 k6 t7 r7 t8 k8 t9 k9 t10 k10 t11 k11 t12 k12 d0 d1 d2 d3 d4 d5 d6 d7 f0 f1 f2 f3 f4 f5 f6 f7 f8 f9 f10
  replace f0 := shm_37 f0
  replace f1 := shm_106 f1
  replace f2 := shm_12 f2
  replace f3 := shm_12 f3
  replace f4 := shm_109 f4
  replace f5 := shm_129 f5
  replace f6 := shm_6 f6
  replace f7 := shm_132 f7
  replace f8 := shm_133 f8
  replace f9 := shm_1921 f9
  replace f10 := shm_5 f10
  have q3 : n_v vs 3 = n_v vs 0 := f10.symm
  simp only [q3] at f4 f5 f7 f8 f9
  have cr_0_2 := fdq_12 hD hth r0
  have ad_7 : v_ad (n_v vs 7) = w_ar ws (n_v vs 0) 2 := congrArg v_ad f5
  simp only [ad_7] at f1
  have h1 : v_iv (n_v vs 12) = w_ei ws (w_ar ws (n_v vs 0) 2) (v_iv (n_v vs 11)) := f1
  have g4 : v_iv (n_v vs 8) = w_fi ws (n_v vs 0) 5 := congrArg v_iv f4
  have cg1_F5_2 : v_iv (n_v vs 11) = w_fi ws (n_v vs 0) 5 + 2 → w_el ws (w_ar ws (n_v vs 0) 2) (v_iv (n_v vs 11)).toNat = w_el ws (w_ar ws (n_v vs 0) 2) (w_fi ws (n_v vs 0) 5 + 2).toNat := fun h => by rw [h]
  have kz_0_170 := fdq_13 hD hth r0
  have kv0 := fdq_13 hD hth r0
  obtain ⟨x, ex, hx⟩ := iv_ex (ta := ta) (lo := 0) (hi := 99999994) (z := w_fi ws (n_v vs 0) 170) (by omega) (by omega) (by omega) (by omega)
  have ex2 : v_iv (Value.int x) = w_fi ws (n_v vs 0) 170 := ex
  have ex3 : 0 ≤ v_iv (Value.int x) ∧ v_iv (Value.int x) ≤ 99999994 := tv_rng hx
  have e_2 : n_v (vs ++ [Value.int x]) 2 = n_v vs 2 := n_v_old (by rw [hl]; decide)
  have e_3 : n_v (vs ++ [Value.int x]) 3 = n_v vs 3 := n_v_old (by rw [hl]; decide)
  have e_4 : n_v (vs ++ [Value.int x]) 4 = n_v vs 4 := n_v_old (by rw [hl]; decide)
  have e_5 : n_v (vs ++ [Value.int x]) 5 = n_v vs 5 := n_v_old (by rw [hl]; decide)
  have e_14 : n_v (vs ++ [Value.int x]) 14 = Value.int x := n_v_new hl
  have nf0 : fc_1 PRD (20, [3, 14], [30, 0, 1, 1, 170, -1, 0, 0]) ws (vs ++ [Value.int x]) := by
    refine ⟨nf_inA hl rfl, sgq_140 ?_⟩
    · show 1 * w_fi ws (n_v (vs ++ [Value.int x]) 3) 170 + ((-1) * v_iv (n_v (vs ++ [Value.int x]) 14) + 0) ≤ 0
      simp only [e_3, e_14, q3]
      omega
  have nf1 : fc_1 PRD (23, [14, 2, 5, 4], [-286994, 1, -1, -287858, 287858]) ws (vs ++ [Value.int x]) := by
    refine ⟨nf_inA hl rfl, sgq_1922 ?_⟩
    · show 1 * v_iv (n_v (vs ++ [Value.int x]) 14) + ((-1) * v_iv (n_v (vs ++ [Value.int x]) 2) + ((-287858) * v_iv (n_v (vs ++ [Value.int x]) 5) + (287858 * v_iv (n_v (vs ++ [Value.int x]) 4) + 0))) ≤ (-286994)
      simp only [e_2, e_4, e_5, e_14]
      omega
  exact ⟨(fun _ h => (by cases h)), [Value.int x], ag_one hx, List.forall_mem_cons.mpr ⟨⟨show (20 : Nat) < 100 from by decide, nf0⟩, List.forall_mem_cons.mpr ⟨⟨show (23 : Nat) < 100 from by decide, nf1⟩, (fun _ h => (by cases h))⟩⟩, (fun _ h => (by cases h))⟩
set_option maxHeartbeats 4000000 in
theorem vc_Mo_writeGroup_at_l1_14_0 (x2 : Int) (x4 : Int) (x5 : Int) (x6 : Int) (x8 : Int) (x12 : Int) (x14 : Int) (r_0 : Int) (all_0 : Int → Int) (texts_0 : Int) (gx : Int) (k2 : 0 ≤ x2 ∧ x2 ≤ 98271988) (k4 : 1 ≤ x4 ∧ x4 ≤ 6) (k5 : 2 ≤ x5 ∧ x5 ≤ 7) (k6 : 3 ≤ x6 ∧ x6 ≤ 8) (k8 : 0 ≤ x8 ∧ x8 ≤ 66297) (k12 : 1 ≤ x12 ∧ x12 ≤ 6) (k14 : 0 ≤ x14 ∧ x14 ≤ 99999994) (d0 : x4 + 0 ≤ x12 ∧ x12 ≤ x4 + 0) (d1 : x6 + (-4294967296) ≤ x5 ∧ x5 ≤ x6 + (-1)) (d2 : x5 + (-4294967296) ≤ x4 ∧ x4 ≤ x5 + (-1)) (g0 : x8 = r_0) (f2 : 1 * x14 + ((-1) * x2 + ((-287858) * x5 + (287858 * x4 + 0))) ≤ (-286994)) (f3 : 1 * x6 + ((-1) * all_0 (r_0 + 2) + 0) ≤ 0) (f4 : (-1) * x6 + (1 * all_0 (r_0 + 2) + 0) ≤ 0) (f6 : 1 * texts_0 + ((-1) * x14 + 0) ≤ 6) (f8 : 1 * x14 + ((-1) * x2 + ((-287858) * x5 + (287858 * x4 + 0))) ≤ (-286994)) (f9 : x12 = x4) (f10 : x5 < x6) (kz_0_170 : 0 ≤ texts_0 ∧ texts_0 ≤ 100000000) (ex2 : gx = texts_0) (ex3 : 0 ≤ gx ∧ gx ≤ 99999992) : 1 * texts_0 + ((-1) * gx + 0) ≤ 0 := by
  first | assumption | omega | grind
set_option maxHeartbeats 4000000 in
theorem vc_Mo_writeGroup_at_l1_14_1 (x2 : Int) (x4 : Int) (x5 : Int) (x6 : Int) (x8 : Int) (x12 : Int) (x14 : Int) (r_0 : Int) (all_0 : Int → Int) (texts_0 : Int) (gx : Int) (k2 : 0 ≤ x2 ∧ x2 ≤ 98271988) (k4 : 1 ≤ x4 ∧ x4 ≤ 6) (k5 : 2 ≤ x5 ∧ x5 ≤ 7) (k6 : 3 ≤ x6 ∧ x6 ≤ 8) (k8 : 0 ≤ x8 ∧ x8 ≤ 66297) (k12 : 1 ≤ x12 ∧ x12 ≤ 6) (k14 : 0 ≤ x14 ∧ x14 ≤ 99999994) (d0 : x4 + 0 ≤ x12 ∧ x12 ≤ x4 + 0) (d1 : x6 + (-4294967296) ≤ x5 ∧ x5 ≤ x6 + (-1)) (d2 : x5 + (-4294967296) ≤ x4 ∧ x4 ≤ x5 + (-1)) (g0 : x8 = r_0) (f2 : 1 * x14 + ((-1) * x2 + ((-287858) * x5 + (287858 * x4 + 0))) ≤ (-286994)) (f3 : 1 * x6 + ((-1) * all_0 (r_0 + 2) + 0) ≤ 0) (f4 : (-1) * x6 + (1 * all_0 (r_0 + 2) + 0) ≤ 0) (f6 : 1 * texts_0 + ((-1) * x14 + 0) ≤ 6) (f8 : 1 * x14 + ((-1) * x2 + ((-287858) * x5 + (287858 * x4 + 0))) ≤ (-286994)) (f9 : x12 = x4) (f10 : x5 < x6) (kz_0_170 : 0 ≤ texts_0 ∧ texts_0 ≤ 100000000) (ex2 : gx = texts_0) (ex3 : 0 ≤ gx ∧ gx ≤ 99999992) : 1 * gx + ((-1) * x2 + ((-287858) * x5 + (287858 * x4 + 0))) ≤ (-286988) := by
  first | assumption | omega | grind
def o_Mo_writeGroup_at_l1_14 : or_T := (149, 24, [(0, (2, 0, 0, [165])), (2, (0, 0, 98271988, [])), (3, (2, 0, 0, [165])), (4, (0, 1, 6, [])), (5, (0, 2, 7, [])), (6, (0, 3, 8, [])), (7, (2, 0, 0, [167])), (8, (0, 0, 66297, [])), (12, (0, 1, 6, [])), (14, (0, 0, 99999994, []))], [(9, [8, 3], [5]), (9, [7, 3], [2]), (23, [14, 2, 5, 4], [-286994, 1, -1, -287858, 287858]), (20, [6, 3], [30, 0, 1, 0, 0, -1, 3, 2005002]), (20, [6, 3], [30, 0, -1, 0, 0, 1, 3, 2005002]), (24, [0, 3], []), (20, [3, 14], [30, 6, 1, 1, 170, -1, 0, 0]), (102, [14], [7770675568902916283677847627294075626569627356208558085007249638955617140820833992704, 165170]), (23, [14, 2, 5, 4], [-286994, 1, -1, -287858, 287858]), (7, [12, 4], [0]), (7, [5, 6], [2])], [], [(0, 0, 99999992, [])], [(20, [3, 24], [30, 0, 1, 1, 170, -1, 0, 0]), (23, [24, 2, 5, 4], [-286988, 1, -1, -287858, 287858])], [], [(12, 4, 0, 0), (5, 6, -4294967296, -1), (4, 5, -4294967296, -1)])
theorem oo_Mo_writeGroup_at_l1_14 {kA : Nat → ClassId} : or_ok PRD kA GG o_Mo_writeGroup_at_l1_14 := by
  refine or_mk fun A ta ws vs hD hth hl => ?_
  intro t0 r0 t2 k2 t3 r3 t4 k4 t5 k5 t6 k6 t7 r7 t8 k8 t12 k12 t14 k14 d0 d1 d2 f0 f1 f2 f3 f4 f5 f6 ta1 w1 le1 s1 f8 f9 f10
  replace f0 := shm_109 f0
  replace f1 := shm_129 f1
  replace f2 := shm_1922 f2
  replace f3 := shm_132 f3
  replace f4 := shm_133 f4
  replace f5 := shm_5 f5
  replace f6 := shm_235 f6
  replace f8 := shm_1922 f8
  replace f9 := shm_37 f9
  replace f10 := shm_6 f10
  have q3 : n_v vs 3 = n_v vs 0 := f5.symm
  simp only [q3] at f0 f1 f3 f4 f6
  have cr_0_2 := fdq_12 hD hth r0
  have ad_7 : v_ad (n_v vs 7) = w_ar ws (n_v vs 0) 2 := congrArg v_ad f1
  have g0 : v_iv (n_v vs 8) = w_fi ws (n_v vs 0) 5 := congrArg v_iv f0
  have kz_0_170 := fdq_13 hD hth r0
  have kv0 := fdq_13 hD hth r0
  obtain ⟨x, ex, hx⟩ := iv_ex (ta := ta) (lo := 0) (hi := 99999992) (z := w_fi ws (n_v vs 0) 170) (by omega) (by omega) (by omega) (by omega)
  have ex2 : v_iv (Value.int x) = w_fi ws (n_v vs 0) 170 := ex
  have ex3 : 0 ≤ v_iv (Value.int x) ∧ v_iv (Value.int x) ≤ 99999992 := tv_rng hx
  have e_2 : n_v (vs ++ [Value.int x]) 2 = n_v vs 2 := n_v_old (by rw [hl]; decide)
  have e_3 : n_v (vs ++ [Value.int x]) 3 = n_v vs 3 := n_v_old (by rw [hl]; decide)
  have e_4 : n_v (vs ++ [Value.int x]) 4 = n_v vs 4 := n_v_old (by rw [hl]; decide)
  have e_5 : n_v (vs ++ [Value.int x]) 5 = n_v vs 5 := n_v_old (by rw [hl]; decide)
  have e_24 : n_v (vs ++ [Value.int x]) 24 = Value.int x := n_v_new hl
  have nf0 : fc_1 PRD (20, [3, 24], [30, 0, 1, 1, 170, -1, 0, 0]) ws (vs ++ [Value.int x]) := by
    refine ⟨nf_inA hl rfl, sgq_140 ?_⟩
    · show 1 * w_fi ws (n_v (vs ++ [Value.int x]) 3) 170 + ((-1) * v_iv (n_v (vs ++ [Value.int x]) 24) + 0) ≤ 0
      simp only [e_3, e_24, q3]
      exact vc_Mo_writeGroup_at_l1_14_0 (v_iv (n_v vs 2)) (v_iv (n_v vs 4)) (v_iv (n_v vs 5)) (v_iv (n_v vs 6)) (v_iv (n_v vs 8)) (v_iv (n_v vs 12)) (v_iv (n_v vs 14)) (w_fi ws (n_v vs 0) 5) (w_ei ws (w_ar ws (n_v vs 0) 2)) (w_fi ws (n_v vs 0) 170) (v_iv (Value.int x)) k2 k4 k5 k6 k8 k12 k14 d0 d1 d2 g0 f2 f3 f4 f6 f8 f9 f10 kz_0_170 ex2 ex3
  have nf1 : fc_1 PRD (23, [24, 2, 5, 4], [-286988, 1, -1, -287858, 287858]) ws (vs ++ [Value.int x]) := by
    refine ⟨nf_inA hl rfl, sgq_1923 ?_⟩
    · show 1 * v_iv (n_v (vs ++ [Value.int x]) 24) + ((-1) * v_iv (n_v (vs ++ [Value.int x]) 2) + ((-287858) * v_iv (n_v (vs ++ [Value.int x]) 5) + (287858 * v_iv (n_v (vs ++ [Value.int x]) 4) + 0))) ≤ (-286988)
      simp only [e_2, e_4, e_5, e_24]
      exact vc_Mo_writeGroup_at_l1_14_1 (v_iv (n_v vs 2)) (v_iv (n_v vs 4)) (v_iv (n_v vs 5)) (v_iv (n_v vs 6)) (v_iv (n_v vs 8)) (v_iv (n_v vs 12)) (v_iv (n_v vs 14)) (w_fi ws (n_v vs 0) 5) (w_ei ws (w_ar ws (n_v vs 0) 2)) (w_fi ws (n_v vs 0) 170) (v_iv (Value.int x)) k2 k4 k5 k6 k8 k12 k14 d0 d1 d2 g0 f2 f3 f4 f6 f8 f9 f10 kz_0_170 ex2 ex3
  exact ⟨(fun _ h => (by cases h)), [Value.int x], ag_one hx, List.forall_mem_cons.mpr ⟨⟨show (20 : Nat) < 100 from by decide, nf0⟩, List.forall_mem_cons.mpr ⟨⟨show (23 : Nat) < 100 from by decide, nf1⟩, (fun _ h => (by cases h))⟩⟩, (fun _ h => (by cases h))⟩
set_option maxHeartbeats 4000000 in
theorem vc_Mo_writeGroup_at_l1_15_0 (x2 : Int) (x4 : Int) (x5 : Int) (x6 : Int) (x12 : Int) (x14 : Int) (x24 : Int) (all_0 : Int → Int) (r_0 : Int) (texts_0 : Int) (gx : Int) (k2 : 0 ≤ x2 ∧ x2 ≤ 98271988) (k4 : 1 ≤ x4 ∧ x4 ≤ 6) (k5 : 2 ≤ x5 ∧ x5 ≤ 7) (k6 : 3 ≤ x6 ∧ x6 ≤ 8) (k12 : 1 ≤ x12 ∧ x12 ≤ 6) (k14 : 0 ≤ x14 ∧ x14 ≤ 99999994) (k24 : 0 ≤ x24 ∧ x24 ≤ 99999992) (d0 : x4 + 0 ≤ x12 ∧ x12 ≤ x4 + 0) (d1 : x6 + (-4294967296) ≤ x5 ∧ x5 ≤ x6 + (-1)) (d2 : x5 + (-4294967296) ≤ x4 ∧ x4 ≤ x5 + (-1)) (f0 : 1 * x24 + ((-1) * x2 + ((-287858) * x5 + (287858 * x4 + 0))) ≤ (-286988)) (f1 : 1 * x14 + ((-1) * x2 + ((-287858) * x5 + (287858 * x4 + 0))) ≤ (-286994)) (f2 : 1 * x6 + ((-1) * all_0 (r_0 + 2) + 0) ≤ 0) (f3 : (-1) * x6 + (1 * all_0 (r_0 + 2) + 0) ≤ 0) (f5 : 1 * texts_0 + ((-1) * x24 + 0) ≤ 8) (f7 : 1 * x24 + ((-1) * x2 + ((-287858) * x5 + (287858 * x4 + 0))) ≤ (-286988)) (f8 : 1 * x14 + ((-1) * x2 + ((-287858) * x5 + (287858 * x4 + 0))) ≤ (-286994)) (f10 : 1 * x14 + ((-1) * x2 + ((-287858) * x5 + (287858 * x4 + 0))) ≤ (-286994)) (f11 : x12 = x4) (f12 : x5 < x6) (kz_0_170 : 0 ≤ texts_0 ∧ texts_0 ≤ 100000000) (ex2 : gx = texts_0) (ex3 : 0 ≤ gx ∧ gx ≤ 99999997) : 1 * texts_0 + ((-1) * gx + 0) ≤ 0 := by
  first | assumption | omega | grind
set_option maxHeartbeats 4000000 in
theorem vc_Mo_writeGroup_at_l1_15_1 (x2 : Int) (x4 : Int) (x5 : Int) (x6 : Int) (x12 : Int) (x14 : Int) (x24 : Int) (all_0 : Int → Int) (r_0 : Int) (texts_0 : Int) (gx : Int) (k2 : 0 ≤ x2 ∧ x2 ≤ 98271988) (k4 : 1 ≤ x4 ∧ x4 ≤ 6) (k5 : 2 ≤ x5 ∧ x5 ≤ 7) (k6 : 3 ≤ x6 ∧ x6 ≤ 8) (k12 : 1 ≤ x12 ∧ x12 ≤ 6) (k14 : 0 ≤ x14 ∧ x14 ≤ 99999994) (k24 : 0 ≤ x24 ∧ x24 ≤ 99999992) (d0 : x4 + 0 ≤ x12 ∧ x12 ≤ x4 + 0) (d1 : x6 + (-4294967296) ≤ x5 ∧ x5 ≤ x6 + (-1)) (d2 : x5 + (-4294967296) ≤ x4 ∧ x4 ≤ x5 + (-1)) (f0 : 1 * x24 + ((-1) * x2 + ((-287858) * x5 + (287858 * x4 + 0))) ≤ (-286988)) (f1 : 1 * x14 + ((-1) * x2 + ((-287858) * x5 + (287858 * x4 + 0))) ≤ (-286994)) (f2 : 1 * x6 + ((-1) * all_0 (r_0 + 2) + 0) ≤ 0) (f3 : (-1) * x6 + (1 * all_0 (r_0 + 2) + 0) ≤ 0) (f5 : 1 * texts_0 + ((-1) * x24 + 0) ≤ 8) (f7 : 1 * x24 + ((-1) * x2 + ((-287858) * x5 + (287858 * x4 + 0))) ≤ (-286988)) (f8 : 1 * x14 + ((-1) * x2 + ((-287858) * x5 + (287858 * x4 + 0))) ≤ (-286994)) (f10 : 1 * x14 + ((-1) * x2 + ((-287858) * x5 + (287858 * x4 + 0))) ≤ (-286994)) (f11 : x12 = x4) (f12 : x5 < x6) (kz_0_170 : 0 ≤ texts_0 ∧ texts_0 ≤ 100000000) (ex2 : gx = texts_0) (ex3 : 0 ≤ gx ∧ gx ≤ 99999997) : 1 * gx + ((-1) * x2 + ((-287858) * x5 + (287858 * x4 + 0))) ≤ (-286980) := by
  first | assumption | omega | grind
def o_Mo_writeGroup_at_l1_15 : or_T := (156, 26, [(0, (2, 0, 0, [165])), (2, (0, 0, 98271988, [])), (3, (2, 0, 0, [165])), (4, (0, 1, 6, [])), (5, (0, 2, 7, [])), (6, (0, 3, 8, [])), (12, (0, 1, 6, [])), (14, (0, 0, 99999994, [])), (24, (0, 0, 99999992, []))], [(23, [24, 2, 5, 4], [-286988, 1, -1, -287858, 287858]), (23, [14, 2, 5, 4], [-286994, 1, -1, -287858, 287858]), (20, [6, 3], [30, 0, 1, 0, 0, -1, 3, 2005002]), (20, [6, 3], [30, 0, -1, 0, 0, 1, 3, 2005002]), (24, [0, 3], []), (20, [3, 24], [30, 8, 1, 1, 170, -1, 0, 0]), (102, [24], [7770675568902916283677847627294075626569627356208558085007249638955617140820833992704, 165170]), (23, [24, 2, 5, 4], [-286988, 1, -1, -287858, 287858]), (23, [14, 2, 5, 4], [-286994, 1, -1, -287858, 287858]), (102, [14], [7770675568902916283677847627294075626569627356208558085007249638955617140820833992704, 165170]), (23, [14, 2, 5, 4], [-286994, 1, -1, -287858, 287858]), (7, [12, 4], [0]), (7, [5, 6], [2])], [], [(0, 0, 99999997, [])], [(20, [3, 26], [30, 0, 1, 1, 170, -1, 0, 0]), (23, [26, 2, 5, 4], [-286980, 1, -1, -287858, 287858])], [], [(12, 4, 0, 0), (5, 6, -4294967296, -1), (4, 5, -4294967296, -1)])
theorem oo_Mo_writeGroup_at_l1_15 {kA : Nat → ClassId} : or_ok PRD kA GG o_Mo_writeGroup_at_l1_15 := by
  refine or_mk fun A ta ws vs hD hth hl => ?_
  intro t0 r0 t2 k2 t3 r3 t4 k4 t5 k5 t6 k6 t12 k12 t14 k14 t24 k24 d0 d1 d2 f0 f1 f2 f3 f4 f5 ta1 w1 le1 s1 f7 f8 ta2 w2 le2 s2 f10 f11 f12
  replace f0 := shm_1923 f0
  replace f1 := shm_1922 f1
  replace f2 := shm_132 f2
  replace f3 := shm_133 f3
  replace f4 := shm_5 f4
  replace f5 := shm_172 f5
  replace f7 := shm_1923 f7
  replace f8 := shm_1922 f8
  replace f10 := shm_1922 f10
  replace f11 := shm_37 f11
  replace f12 := shm_6 f12
  have q3 : n_v vs 3 = n_v vs 0 := f4.symm
  simp only [q3] at f2 f3 f5
  have cr_0_2 := fdq_12 hD hth r0
  have kz_0_170 := fdq_13 hD hth r0
  have kv0 := fdq_13 hD hth r0
  obtain ⟨x, ex, hx⟩ := iv_ex (ta := ta) (lo := 0) (hi := 99999997) (z := w_fi ws (n_v vs 0) 170) (by omega) (by omega) (by omega) (by omega)
  have ex2 : v_iv (Value.int x) = w_fi ws (n_v vs 0) 170 := ex
  have ex3 : 0 ≤ v_iv (Value.int x) ∧ v_iv (Value.int x) ≤ 99999997 := tv_rng hx
  have e_2 : n_v (vs ++ [Value.int x]) 2 = n_v vs 2 := n_v_old (by rw [hl]; decide)
  have e_3 : n_v (vs ++ [Value.int x]) 3 = n_v vs 3 := n_v_old (by rw [hl]; decide)
  have e_4 : n_v (vs ++ [Value.int x]) 4 = n_v vs 4 := n_v_old (by rw [hl]; decide)
  have e_5 : n_v (vs ++ [Value.int x]) 5 = n_v vs 5 := n_v_old (by rw [hl]; decide)
  have e_26 : n_v (vs ++ [Value.int x]) 26 = Value.int x := n_v_new hl
  have nf0 : fc_1 PRD (20, [3, 26], [30, 0, 1, 1, 170, -1, 0, 0]) ws (vs ++ [Value.int x]) := by
    refine ⟨nf_inA hl rfl, sgq_140 ?_⟩
    · show 1 * w_fi ws (n_v (vs ++ [Value.int x]) 3) 170 + ((-1) * v_iv (n_v (vs ++ [Value.int x]) 26) + 0) ≤ 0
      simp only [e_3, e_26, q3]
      exact vc_Mo_writeGroup_at_l1_15_0 (v_iv (n_v vs 2)) (v_iv (n_v vs 4)) (v_iv (n_v vs 5)) (v_iv (n_v vs 6)) (v_iv (n_v vs 12)) (v_iv (n_v vs 14)) (v_iv (n_v vs 24)) (w_ei ws (w_ar ws (n_v vs 0) 2)) (w_fi ws (n_v vs 0) 5) (w_fi ws (n_v vs 0) 170) (v_iv (Value.int x)) k2 k4 k5 k6 k12 k14 k24 d0 d1 d2 f0 f1 f2 f3 f5 f7 f8 f10 f11 f12 kz_0_170 ex2 ex3
  have nf1 : fc_1 PRD (23, [26, 2, 5, 4], [-286980, 1, -1, -287858, 287858]) ws (vs ++ [Value.int x]) := by
    refine ⟨nf_inA hl rfl, sgq_1924 ?_⟩
    · show 1 * v_iv (n_v (vs ++ [Value.int x]) 26) + ((-1) * v_iv (n_v (vs ++ [Value.int x]) 2) + ((-287858) * v_iv (n_v (vs ++ [Value.int x]) 5) + (287858 * v_iv (n_v (vs ++ [Value.int x]) 4) + 0))) ≤ (-286980)
      simp only [e_2, e_4, e_5, e_26]
      exact vc_Mo_writeGroup_at_l1_15_1 (v_iv (n_v vs 2)) (v_iv (n_v vs 4)) (v_iv (n_v vs 5)) (v_iv (n_v vs 6)) (v_iv (n_v vs 12)) (v_iv (n_v vs 14)) (v_iv (n_v vs 24)) (w_ei ws (w_ar ws (n_v vs 0) 2)) (w_fi ws (n_v vs 0) 5) (w_fi ws (n_v vs 0) 170) (v_iv (Value.int x)) k2 k4 k5 k6 k12 k14 k24 d0 d1 d2 f0 f1 f2 f3 f5 f7 f8 f10 f11 f12 kz_0_170 ex2 ex3
  exact ⟨(fun _ h => (by cases h)), [Value.int x], ag_one hx, List.forall_mem_cons.mpr ⟨⟨show (20 : Nat) < 100 from by decide, nf0⟩, List.forall_mem_cons.mpr ⟨⟨show (23 : Nat) < 100 from by decide, nf1⟩, (fun _ h => (by cases h))⟩⟩, (fun _ h => (by cases h))⟩
set_option maxHeartbeats 4000000 in
theorem vc_Mo_writeGroup_at_l1_16_0 (x2 : Int) (x4 : Int) (x5 : Int) (x6 : Int) (x12 : Int) (x14 : Int) (x24 : Int) (x26 : Int) (all_0 : Int → Int) (r_0 : Int) (texts_0 : Int) (gx : Int) (k2 : 0 ≤ x2 ∧ x2 ≤ 98271988) (k4 : 1 ≤ x4 ∧ x4 ≤ 6) (k5 : 2 ≤ x5 ∧ x5 ≤ 7) (k6 : 3 ≤ x6 ∧ x6 ≤ 8) (k12 : 1 ≤ x12 ∧ x12 ≤ 6) (k14 : 0 ≤ x14 ∧ x14 ≤ 99999994) (k24 : 0 ≤ x24 ∧ x24 ≤ 99999992) (k26 : 0 ≤ x26 ∧ x26 ≤ 99999997) (d0 : x4 + 0 ≤ x12 ∧ x12 ≤ x4 + 0) (d1 : x6 + (-4294967296) ≤ x5 ∧ x5 ≤ x6 + (-1)) (d2 : x5 + (-4294967296) ≤ x4 ∧ x4 ≤ x5 + (-1)) (f0 : 1 * x26 + ((-1) * x2 + ((-287858) * x5 + (287858 * x4 + 0))) ≤ (-286980)) (f1 : 1 * x24 + ((-1) * x2 + ((-287858) * x5 + (287858 * x4 + 0))) ≤ (-286988)) (f2 : 1 * x14 + ((-1) * x2 + ((-287858) * x5 + (287858 * x4 + 0))) ≤ (-286994)) (f3 : 1 * x6 + ((-1) * all_0 (r_0 + 2) + 0) ≤ 0) (f4 : (-1) * x6 + (1 * all_0 (r_0 + 2) + 0) ≤ 0) (f6 : 1 * texts_0 + ((-1) * x26 + 0) ≤ 3) (f8 : 1 * x26 + ((-1) * x2 + ((-287858) * x5 + (287858 * x4 + 0))) ≤ (-286980)) (f9 : 1 * x24 + ((-1) * x2 + ((-287858) * x5 + (287858 * x4 + 0))) ≤ (-286988)) (f10 : 1 * x14 + ((-1) * x2 + ((-287858) * x5 + (287858 * x4 + 0))) ≤ (-286994)) (f12 : 1 * x24 + ((-1) * x2 + ((-287858) * x5 + (287858 * x4 + 0))) ≤ (-286988)) (f13 : 1 * x14 + ((-1) * x2 + ((-287858) * x5 + (287858 * x4 + 0))) ≤ (-286994)) (f15 : 1 * x14 + ((-1) * x2 + ((-287858) * x5 + (287858 * x4 + 0))) ≤ (-286994)) (f16 : x12 = x4) (f17 : x5 < x6) (kz_0_170 : 0 ≤ texts_0 ∧ texts_0 ≤ 100000000) (ex2 : gx = texts_0) (ex3 : 0 ≤ gx ∧ gx ≤ 99712161) : 1 * texts_0 + ((-1) * gx + 0) ≤ 0 := by
  first | assumption | omega | grind
set_option maxHeartbeats 4000000 in
theorem vc_Mo_writeGroup_at_l1_16_1 (x2 : Int) (x4 : Int) (x5 : Int) (x6 : Int) (x12 : Int) (x14 : Int) (x24 : Int) (x26 : Int) (all_0 : Int → Int) (r_0 : Int) (texts_0 : Int) (gx : Int) (k2 : 0 ≤ x2 ∧ x2 ≤ 98271988) (k4 : 1 ≤ x4 ∧ x4 ≤ 6) (k5 : 2 ≤ x5 ∧ x5 ≤ 7) (k6 : 3 ≤ x6 ∧ x6 ≤ 8) (k12 : 1 ≤ x12 ∧ x12 ≤ 6) (k14 : 0 ≤ x14 ∧ x14 ≤ 99999994) (k24 : 0 ≤ x24 ∧ x24 ≤ 99999992) (k26 : 0 ≤ x26 ∧ x26 ≤ 99999997) (d0 : x4 + 0 ≤ x12 ∧ x12 ≤ x4 + 0) (d1 : x6 + (-4294967296) ≤ x5 ∧ x5 ≤ x6 + (-1)) (d2 : x5 + (-4294967296) ≤ x4 ∧ x4 ≤ x5 + (-1)) (f0 : 1 * x26 + ((-1) * x2 + ((-287858) * x5 + (287858 * x4 + 0))) ≤ (-286980)) (f1 : 1 * x24 + ((-1) * x2 + ((-287858) * x5 + (287858 * x4 + 0))) ≤ (-286988)) (f2 : 1 * x14 + ((-1) * x2 + ((-287858) * x5 + (287858 * x4 + 0))) ≤ (-286994)) (f3 : 1 * x6 + ((-1) * all_0 (r_0 + 2) + 0) ≤ 0) (f4 : (-1) * x6 + (1 * all_0 (r_0 + 2) + 0) ≤ 0) (f6 : 1 * texts_0 + ((-1) * x26 + 0) ≤ 3) (f8 : 1 * x26 + ((-1) * x2 + ((-287858) * x5 + (287858 * x4 + 0))) ≤ (-286980)) (f9 : 1 * x24 + ((-1) * x2 + ((-287858) * x5 + (287858 * x4 + 0))) ≤ (-286988)) (f10 : 1 * x14 + ((-1) * x2 + ((-287858) * x5 + (287858 * x4 + 0))) ≤ (-286994)) (f12 : 1 * x24 + ((-1) * x2 + ((-287858) * x5 + (287858 * x4 + 0))) ≤ (-286988)) (f13 : 1 * x14 + ((-1) * x2 + ((-287858) * x5 + (287858 * x4 + 0))) ≤ (-286994)) (f15 : 1 * x14 + ((-1) * x2 + ((-287858) * x5 + (287858 * x4 + 0))) ≤ (-286994)) (f16 : x12 = x4) (f17 : x5 < x6) (kz_0_170 : 0 ≤ texts_0 ∧ texts_0 ≤ 100000000) (ex2 : gx = texts_0) (ex3 : 0 ≤ gx ∧ gx ≤ 99712161) : 1 * gx + ((-1) * x2 + ((-287858) * x5 + (287858 * x4 + 0))) ≤ (-286977) := by
  first | assumption | omega | grind
def o_Mo_writeGroup_at_l1_16 : or_T := (161, 27, [(0, (2, 0, 0, [165])), (2, (0, 0, 98271988, [])), (3, (2, 0, 0, [165])), (4, (0, 1, 6, [])), (5, (0, 2, 7, [])), (6, (0, 3, 8, [])), (12, (0, 1, 6, [])), (14, (0, 0, 99999994, [])), (24, (0, 0, 99999992, [])), (26, (0, 0, 99999997, []))], [(23, [26, 2, 5, 4], [-286980, 1, -1, -287858, 287858]), (23, [24, 2, 5, 4], [-286988, 1, -1, -287858, 287858]), (23, [14, 2, 5, 4], [-286994, 1, -1, -287858, 287858]), (20, [6, 3], [30, 0, 1, 0, 0, -1, 3, 2005002]), (20, [6, 3], [30, 0, -1, 0, 0, 1, 3, 2005002]), (24, [0, 3], []), (20, [3, 26], [30, 3, 1, 1, 170, -1, 0, 0]), (102, [26], [7770675568902916283677847627294075626569627356208558085007249638955617140820833992704, 165170]), (23, [26, 2, 5, 4], [-286980, 1, -1, -287858, 287858]), (23, [24, 2, 5, 4], [-286988, 1, -1, -287858, 287858]), (23, [14, 2, 5, 4], [-286994, 1, -1, -287858, 287858]), (102, [24], [7770675568902916283677847627294075626569627356208558085007249638955617140820833992704, 165170]), (23, [24, 2, 5, 4], [-286988, 1, -1, -287858, 287858]), (23, [14, 2, 5, 4], [-286994, 1, -1, -287858, 287858]), (102, [14], [7770675568902916283677847627294075626569627356208558085007249638955617140820833992704, 165170]), (23, [14, 2, 5, 4], [-286994, 1, -1, -287858, 287858]), (7, [12, 4], [0]), (7, [5, 6], [2])], [], [(0, 0, 99712161, [])], [(20, [3, 27], [30, 0, 1, 1, 170, -1, 0, 0]), (23, [27, 2, 5, 4], [-286977, 1, -1, -287858, 287858])], [], [(12, 4, 0, 0), (5, 6, -4294967296, -1), (4, 5, -4294967296, -1)])
theorem oo_Mo_writeGroup_at_l1_16 {kA : Nat → ClassId} : or_ok PRD kA GG o_Mo_writeGroup_at_l1_16 := by
  refine or_mk fun A ta ws vs hD hth hl => ?_
  intro t0 r0 t2 k2 t3 r3 t4 k4 t5 k5 t6 k6 t12 k12 t14 k14 t24 k24 t26 k26 d0 d1 d2 f0 f1 f2 f3 f4 f5 f6 ta1 w1 le1 s1 f8 f9 f10 ta2 w2 le2 s2 f12 f13 ta3 w3 le3 s3 f15 f16 f17
  replace f0 := shm_1924 f0
  replace f1 := shm_1923 f1
  replace f2 := shm_1922 f2
  replace f3 := shm_132 f3
  replace f4 := shm_133 f4
  replace f5 := shm_5 f5
  replace f6 := shm_236 f6
  replace f8 := shm_1924 f8
  replace f9 := shm_1923 f9
  replace f10 := shm_1922 f10
  replace f12 := shm_1923 f12
  replace f13 := shm_1922 f13
  replace f15 := shm_1922 f15
  replace f16 := shm_37 f16
  replace f17 := shm_6 f17
  have q3 : n_v vs 3 = n_v vs 0 := f5.symm
  simp only [q3] at f3 f4 f6
  have cr_0_2 := fdq_12 hD hth r0
  have kz_0_170 := fdq_13 hD hth r0
  have kv0 := fdq_13 hD hth r0
  obtain ⟨x, ex, hx⟩ := iv_ex (ta := ta) (lo := 0) (hi := 99712161) (z := w_fi ws (n_v vs 0) 170) (by omega) (by omega) (by omega) (by omega)
  have ex2 : v_iv (Value.int x) = w_fi ws (n_v vs 0) 170 := ex
  have ex3 : 0 ≤ v_iv (Value.int x) ∧ v_iv (Value.int x) ≤ 99712161 := tv_rng hx
  have e_2 : n_v (vs ++ [Value.int x]) 2 = n_v vs 2 := n_v_old (by rw [hl]; decide)
  have e_3 : n_v (vs ++ [Value.int x]) 3 = n_v vs 3 := n_v_old (by rw [hl]; decide)
  have e_4 : n_v (vs ++ [Value.int x]) 4 = n_v vs 4 := n_v_old (by rw [hl]; decide)
  have e_5 : n_v (vs ++ [Value.int x]) 5 = n_v vs 5 := n_v_old (by rw [hl]; decide)
  have e_27 : n_v (vs ++ [Value.int x]) 27 = Value.int x := n_v_new hl
  have nf0 : fc_1 PRD (20, [3, 27], [30, 0, 1, 1, 170, -1, 0, 0]) ws (vs ++ [Value.int x]) := by
    refine ⟨nf_inA hl rfl, sgq_140 ?_⟩
    · show 1 * w_fi ws (n_v (vs ++ [Value.int x]) 3) 170 + ((-1) * v_iv (n_v (vs ++ [Value.int x]) 27) + 0) ≤ 0
      simp only [e_3, e_27, q3]
      exact vc_Mo_writeGroup_at_l1_16_0 (v_iv (n_v vs 2)) (v_iv (n_v vs 4)) (v_iv (n_v vs 5)) (v_iv (n_v vs 6)) (v_iv (n_v vs 12)) (v_iv (n_v vs 14)) (v_iv (n_v vs 24)) (v_iv (n_v vs 26)) (w_ei ws (w_ar ws (n_v vs 0) 2)) (w_fi ws (n_v vs 0) 5) (w_fi ws (n_v vs 0) 170) (v_iv (Value.int x)) k2 k4 k5 k6 k12 k14 k24 k26 d0 d1 d2 f0 f1 f2 f3 f4 f6 f8 f9 f10 f12 f13 f15 f16 f17 kz_0_170 ex2 ex3
  have nf1 : fc_1 PRD (23, [27, 2, 5, 4], [-286977, 1, -1, -287858, 287858]) ws (vs ++ [Value.int x]) := by
    refine ⟨nf_inA hl rfl, sgq_1925 ?_⟩
    · show 1 * v_iv (n_v (vs ++ [Value.int x]) 27) + ((-1) * v_iv (n_v (vs ++ [Value.int x]) 2) + ((-287858) * v_iv (n_v (vs ++ [Value.int x]) 5) + (287858 * v_iv (n_v (vs ++ [Value.int x]) 4) + 0))) ≤ (-286977)
      simp only [e_2, e_4, e_5, e_27]
      exact vc_Mo_writeGroup_at_l1_16_1 (v_iv (n_v vs 2)) (v_iv (n_v vs 4)) (v_iv (n_v vs 5)) (v_iv (n_v vs 6)) (v_iv (n_v vs 12)) (v_iv (n_v vs 14)) (v_iv (n_v vs 24)) (v_iv (n_v vs 26)) (w_ei ws (w_ar ws (n_v vs 0) 2)) (w_fi ws (n_v vs 0) 5) (w_fi ws (n_v vs 0) 170) (v_iv (Value.int x)) k2 k4 k5 k6 k12 k14 k24 k26 d0 d1 d2 f0 f1 f2 f3 f4 f6 f8 f9 f10 f12 f13 f15 f16 f17 kz_0_170 ex2 ex3
  exact ⟨(fun _ h => (by cases h)), [Value.int x], ag_one hx, List.forall_mem_cons.mpr ⟨⟨show (20 : Nat) < 100 from by decide, nf0⟩, List.forall_mem_cons.mpr ⟨⟨show (23 : Nat) < 100 from by decide, nf1⟩, (fun _ h => (by cases h))⟩⟩, (fun _ h => (by cases h))⟩
set_option maxHeartbeats 4000000 in
theorem vc_Mo_writeGroup_at_l1_17_0 (x2 : Int) (x4 : Int) (x5 : Int) (x6 : Int) (x12 : Int) (x14 : Int) (x24 : Int) (x26 : Int) (x27 : Int) (all_0 : Int → Int) (r_0 : Int) (texts_0 : Int) (gx : Int) (k2 : 0 ≤ x2 ∧ x2 ≤ 98271988) (k4 : 1 ≤ x4 ∧ x4 ≤ 6) (k5 : 2 ≤ x5 ∧ x5 ≤ 7) (k6 : 3 ≤ x6 ∧ x6 ≤ 8) (k12 : 1 ≤ x12 ∧ x12 ≤ 6) (k14 : 0 ≤ x14 ∧ x14 ≤ 99999994) (k24 : 0 ≤ x24 ∧ x24 ≤ 99999992) (k26 : 0 ≤ x26 ∧ x26 ≤ 99999997) (k27 : 0 ≤ x27 ∧ x27 ≤ 99712161) (d0 : x4 + 0 ≤ x12 ∧ x12 ≤ x4 + 0) (d1 : x6 + (-4294967296) ≤ x5 ∧ x5 ≤ x6 + (-1)) (d2 : x5 + (-4294967296) ≤ x4 ∧ x4 ≤ x5 + (-1)) (f0 : 1 * x27 + ((-1) * x2 + ((-287858) * x5 + (287858 * x4 + 0))) ≤ (-286977)) (f1 : 1 * x26 + ((-1) * x2 + ((-287858) * x5 + (287858 * x4 + 0))) ≤ (-286980)) (f2 : 1 * x24 + ((-1) * x2 + ((-287858) * x5 + (287858 * x4 + 0))) ≤ (-286988)) (f3 : 1 * x14 + ((-1) * x2 + ((-287858) * x5 + (287858 * x4 + 0))) ≤ (-286994)) (f4 : 1 * x6 + ((-1) * all_0 (r_0 + 2) + 0) ≤ 0) (f5 : (-1) * x6 + (1 * all_0 (r_0 + 2) + 0) ≤ 0) (f7 : 1 * texts_0 + ((-1) * x27 + 0) ≤ 287839) (f9 : 1 * x27 + ((-1) * x2 + ((-287858) * x5 + (287858 * x4 + 0))) ≤ (-286977)) (f10 : 1 * x26 + ((-1) * x2 + ((-287858) * x5 + (287858 * x4 + 0))) ≤ (-286980)) (f11 : 1 * x24 + ((-1) * x2 + ((-287858) * x5 + (287858 * x4 + 0))) ≤ (-286988)) (f12 : 1 * x14 + ((-1) * x2 + ((-287858) * x5 + (287858 * x4 + 0))) ≤ (-286994)) (f14 : 1 * x26 + ((-1) * x2 + ((-287858) * x5 + (287858 * x4 + 0))) ≤ (-286980)) (f15 : 1 * x24 + ((-1) * x2 + ((-287858) * x5 + (287858 * x4 + 0))) ≤ (-286988)) (f16 : 1 * x14 + ((-1) * x2 + ((-287858) * x5 + (287858 * x4 + 0))) ≤ (-286994)) (f18 : 1 * x24 + ((-1) * x2 + ((-287858) * x5 + (287858 * x4 + 0))) ≤ (-286988)) (f19 : 1 * x14 + ((-1) * x2 + ((-287858) * x5 + (287858 * x4 + 0))) ≤ (-286994)) (f21 : 1 * x14 + ((-1) * x2 + ((-287858) * x5 + (287858 * x4 + 0))) ≤ (-286994)) (f22 : x12 = x4) (f23 : x5 < x6) (kz_0_170 : 0 ≤ texts_0 ∧ texts_0 ≤ 100000000) (ex2 : gx = texts_0) (ex3 : 0 ≤ gx ∧ gx ≤ 99999998) : 1 * texts_0 + ((-1) * gx + 0) ≤ 0 := by
  first | assumption | omega | grind
set_option maxHeartbeats 4000000 in
theorem vc_Mo_writeGroup_at_l1_17_1 (x2 : Int) (x4 : Int) (x5 : Int) (x6 : Int) (x12 : Int) (x14 : Int) (x24 : Int) (x26 : Int) (x27 : Int) (all_0 : Int → Int) (r_0 : Int) (texts_0 : Int) (gx : Int) (k2 : 0 ≤ x2 ∧ x2 ≤ 98271988) (k4 : 1 ≤ x4 ∧ x4 ≤ 6) (k5 : 2 ≤ x5 ∧ x5 ≤ 7) (k6 : 3 ≤ x6 ∧ x6 ≤ 8) (k12 : 1 ≤ x12 ∧ x12 ≤ 6) (k14 : 0 ≤ x14 ∧ x14 ≤ 99999994) (k24 : 0 ≤ x24 ∧ x24 ≤ 99999992) (k26 : 0 ≤ x26 ∧ x26 ≤ 99999997) (k27 : 0 ≤ x27 ∧ x27 ≤ 99712161) (d0 : x4 + 0 ≤ x12 ∧ x12 ≤ x4 + 0) (d1 : x6 + (-4294967296) ≤ x5 ∧ x5 ≤ x6 + (-1)) (d2 : x5 + (-4294967296) ≤ x4 ∧ x4 ≤ x5 + (-1)) (f0 : 1 * x27 + ((-1) * x2 + ((-287858) * x5 + (287858 * x4 + 0))) ≤ (-286977)) (f1 : 1 * x26 + ((-1) * x2 + ((-287858) * x5 + (287858 * x4 + 0))) ≤ (-286980)) (f2 : 1 * x24 + ((-1) * x2 + ((-287858) * x5 + (287858 * x4 + 0))) ≤ (-286988)) (f3 : 1 * x14 + ((-1) * x2 + ((-287858) * x5 + (287858 * x4 + 0))) ≤ (-286994)) (f4 : 1 * x6 + ((-1) * all_0 (r_0 + 2) + 0) ≤ 0) (f5 : (-1) * x6 + (1 * all_0 (r_0 + 2) + 0) ≤ 0) (f7 : 1 * texts_0 + ((-1) * x27 + 0) ≤ 287839) (f9 : 1 * x27 + ((-1) * x2 + ((-287858) * x5 + (287858 * x4 + 0))) ≤ (-286977)) (f10 : 1 * x26 + ((-1) * x2 + ((-287858) * x5 + (287858 * x4 + 0))) ≤ (-286980)) (f11 : 1 * x24 + ((-1) * x2 + ((-287858) * x5 + (287858 * x4 + 0))) ≤ (-286988)) (f12 : 1 * x14 + ((-1) * x2 + ((-287858) * x5 + (287858 * x4 + 0))) ≤ (-286994)) (f14 : 1 * x26 + ((-1) * x2 + ((-287858) * x5 + (287858 * x4 + 0))) ≤ (-286980)) (f15 : 1 * x24 + ((-1) * x2 + ((-287858) * x5 + (287858 * x4 + 0))) ≤ (-286988)) (f16 : 1 * x14 + ((-1) * x2 + ((-287858) * x5 + (287858 * x4 + 0))) ≤ (-286994)) (f18 : 1 * x24 + ((-1) * x2 + ((-287858) * x5 + (287858 * x4 + 0))) ≤ (-286988)) (f19 : 1 * x14 + ((-1) * x2 + ((-287858) * x5 + (287858 * x4 + 0))) ≤ (-286994)) (f21 : 1 * x14 + ((-1) * x2 + ((-287858) * x5 + (287858 * x4 + 0))) ≤ (-286994)) (f22 : x12 = x4) (f23 : x5 < x6) (kz_0_170 : 0 ≤ texts_0 ∧ texts_0 ≤ 100000000) (ex2 : gx = texts_0) (ex3 : 0 ≤ gx ∧ gx ≤ 99999998) : 1 * gx + ((-1) * x2 + ((-287858) * x5 + (287858 * x4 + 0))) ≤ 862 := by
  first | assumption | omega | grind
def o_Mo_writeGroup_at_l1_17 : or_T := (168, 29, [(0, (2, 0, 0, [165])), (2, (0, 0, 98271988, [])), (3, (2, 0, 0, [165])), (4, (0, 1, 6, [])), (5, (0, 2, 7, [])), (6, (0, 3, 8, [])), (12, (0, 1, 6, [])), (14, (0, 0, 99999994, [])), (24, (0, 0, 99999992, [])), (26, (0, 0, 99999997, [])), (27, (0, 0, 99712161, []))], [(23, [27, 2, 5, 4], [-286977, 1, -1, -287858, 287858]), (23, [26, 2, 5, 4], [-286980, 1, -1, -287858, 287858]), (23, [24, 2, 5, 4], [-286988, 1, -1, -287858, 287858]), (23, [14, 2, 5, 4], [-286994, 1, -1, -287858, 287858]), (20, [6, 3], [30, 0, 1, 0, 0, -1, 3, 2005002]), (20, [6, 3], [30, 0, -1, 0, 0, 1, 3, 2005002]), (24, [0, 3], []), (20, [3, 27], [30, 287839, 1, 1, 170, -1, 0, 0]), (102, [27], [7770675568902916283677847627294075626569627356208558085007249638955617140820833992704, 165170]), (23, [27, 2, 5, 4], [-286977, 1, -1, -287858, 287858]), (23, [26, 2, 5, 4], [-286980, 1, -1, -287858, 287858]), (23, [24, 2, 5, 4], [-286988, 1, -1, -287858, 287858]), (23, [14, 2, 5, 4], [-286994, 1, -1, -287858, 287858]), (102, [26], [7770675568902916283677847627294075626569627356208558085007249638955617140820833992704, 165170]), (23, [26, 2, 5, 4], [-286980, 1, -1, -287858, 287858]), (23, [24, 2, 5, 4], [-286988, 1, -1, -287858, 287858]), (23, [14, 2, 5, 4], [-286994, 1, -1, -287858, 287858]), (102, [24], [7770675568902916283677847627294075626569627356208558085007249638955617140820833992704, 165170]), (23, [24, 2, 5, 4], [-286988, 1, -1, -287858, 287858]), (23, [14, 2, 5, 4], [-286994, 1, -1, -287858, 287858]), (102, [14], [7770675568902916283677847627294075626569627356208558085007249638955617140820833992704, 165170]), (23, [14, 2, 5, 4], [-286994, 1, -1, -287858, 287858]), (7, [12, 4], [0]), (7, [5, 6], [2])], [], [(0, 0, 99999998, [])], [(20, [3, 29], [30, 0, 1, 1, 170, -1, 0, 0]), (23, [29, 2, 5, 4], [862, 1, -1, -287858, 287858])], [], [(12, 4, 0, 0), (5, 6, -4294967296, -1), (4, 5, -4294967296, -1)])
theorem oo_Mo_writeGroup_at_l1_17 {kA : Nat → ClassId} : or_ok PRD kA GG o_Mo_writeGroup_at_l1_17 := by
  refine or_mk fun A ta ws vs hD hth hl => ?_
  intro t0 r0 t2 k2 t3 r3 t4 k4 t5 k5 t6 k6 t12 k12 t14 k14 t24 k24 t26 k26 t27 k27 d0 d1 d2 f0 f1 f2 f3 f4 f5 f6 f7 ta1 w1 le1 s1 f9 f10 f11 f12 ta2 w2 le2 s2 f14 f15 f16 ta3 w3 le3 s3 f18 f19 ta4 w4 le4 s4 f21 f22 f23
  replace f0 := shm_1925 f0
  replace f1 := shm_1924 f1
  replace f2 := shm_1923 f2
  replace f3 := shm_1922 f3
  replace f4 := shm_132 f4
  replace f5 := shm_133 f5
  replace f6 := shm_5 f6
  replace f7 := shm_1926 f7
  replace f9 := shm_1925 f9
  replace f10 := shm_1924 f10
  replace f11 := shm_1923 f11
  replace f12 := shm_1922 f12
  replace f14 := shm_1924 f14
  replace f15 := shm_1923 f15
  replace f16 := shm_1922 f16
  replace f18 := shm_1923 f18
  replace f19 := shm_1922 f19
  replace f21 := shm_1922 f21
  replace f22 := shm_37 f22
  replace f23 := shm_6 f23
  have q3 : n_v vs 3 = n_v vs 0 := f6.symm
  simp only [q3] at f4 f5 f7
  have cr_0_2 := fdq_12 hD hth r0
  have kz_0_170 := fdq_13 hD hth r0
  have kv0 := fdq_13 hD hth r0
  obtain ⟨x, ex, hx⟩ := iv_ex (ta := ta) (lo := 0) (hi := 99999998) (z := w_fi ws (n_v vs 0) 170) (by omega) (by omega) (by omega) (by omega)
  have ex2 : v_iv (Value.int x) = w_fi ws (n_v vs 0) 170 := ex
  have ex3 : 0 ≤ v_iv (Value.int x) ∧ v_iv (Value.int x) ≤ 99999998 := tv_rng hx
  have e_2 : n_v (vs ++ [Value.int x]) 2 = n_v vs 2 := n_v_old (by rw [hl]; decide)
  have e_3 : n_v (vs ++ [Value.int x]) 3 = n_v vs 3 := n_v_old (by rw [hl]; decide)
  have e_4 : n_v (vs ++ [Value.int x]) 4 = n_v vs 4 := n_v_old (by rw [hl]; decide)
  have e_5 : n_v (vs ++ [Value.int x]) 5 = n_v vs 5 := n_v_old (by rw [hl]; decide)
  have e_29 : n_v (vs ++ [Value.int x]) 29 = Value.int x := n_v_new hl
  have nf0 : fc_1 PRD (20, [3, 29], [30, 0, 1, 1, 170, -1, 0, 0]) ws (vs ++ [Value.int x]) := by
    refine ⟨nf_inA hl rfl, sgq_140 ?_⟩
    · show 1 * w_fi ws (n_v (vs ++ [Value.int x]) 3) 170 + ((-1) * v_iv (n_v (vs ++ [Value.int x]) 29) + 0) ≤ 0
      simp only [e_3, e_29, q3]
      exact vc_Mo_writeGroup_at_l1_17_0 (v_iv (n_v vs 2)) (v_iv (n_v vs 4)) (v_iv (n_v vs 5)) (v_iv (n_v vs 6)) (v_iv (n_v vs 12)) (v_iv (n_v vs 14)) (v_iv (n_v vs 24)) (v_iv (n_v vs 26)) (v_iv (n_v vs 27)) (w_ei ws (w_ar ws (n_v vs 0) 2)) (w_fi ws (n_v vs 0) 5) (w_fi ws (n_v vs 0) 170) (v_iv (Value.int x)) k2 k4 k5 k6 k12 k14 k24 k26 k27 d0 d1 d2 f0 f1 f2 f3 f4 f5 f7 f9 f10 f11 f12 f14 f15 f16 f18 f19 f21 f22 f23 kz_0_170 ex2 ex3
  have nf1 : fc_1 PRD (23, [29, 2, 5, 4], [862, 1, -1, -287858, 287858]) ws (vs ++ [Value.int x]) := by
    refine ⟨nf_inA hl rfl, sgq_1927 ?_⟩
    · show 1 * v_iv (n_v (vs ++ [Value.int x]) 29) + ((-1) * v_iv (n_v (vs ++ [Value.int x]) 2) + ((-287858) * v_iv (n_v (vs ++ [Value.int x]) 5) + (287858 * v_iv (n_v (vs ++ [Value.int x]) 4) + 0))) ≤ 862
      simp only [e_2, e_4, e_5, e_29]
      exact vc_Mo_writeGroup_at_l1_17_1 (v_iv (n_v vs 2)) (v_iv (n_v vs 4)) (v_iv (n_v vs 5)) (v_iv (n_v vs 6)) (v_iv (n_v vs 12)) (v_iv (n_v vs 14)) (v_iv (n_v vs 24)) (v_iv (n_v vs 26)) (v_iv (n_v vs 27)) (w_ei ws (w_ar ws (n_v vs 0) 2)) (w_fi ws (n_v vs 0) 5) (w_fi ws (n_v vs 0) 170) (v_iv (Value.int x)) k2 k4 k5 k6 k12 k14 k24 k26 k27 d0 d1 d2 f0 f1 f2 f3 f4 f5 f7 f9 f10 f11 f12 f14 f15 f16 f18 f19 f21 f22 f23 kz_0_170 ex2 ex3
  exact ⟨(fun _ h => (by cases h)), [Value.int x], ag_one hx, List.forall_mem_cons.mpr ⟨⟨show (20 : Nat) < 100 from by decide, nf0⟩, List.forall_mem_cons.mpr ⟨⟨show (23 : Nat) < 100 from by decide, nf1⟩, (fun _ h => (by cases h))⟩⟩, (fun _ h => (by cases h))⟩
set_option maxHeartbeats 4000000 in
theorem vc_Mo_writeGroup_at_l1_18_0 (x2 : Int) (x4 : Int) (x5 : Int) (x6 : Int) (x12 : Int) (x14 : Int) (x24 : Int) (x26 : Int) (x27 : Int) (x29 : Int) (x30 : Int) (all_0 : Int → Int) (r_0 : Int) (texts_0 : Int) (k2 : 0 ≤ x2 ∧ x2 ≤ 98271988) (k4 : 1 ≤ x4 ∧ x4 ≤ 6) (k5 : 2 ≤ x5 ∧ x5 ≤ 7) (k6 : 3 ≤ x6 ∧ x6 ≤ 8) (k12 : 1 ≤ x12 ∧ x12 ≤ 6) (k14 : 0 ≤ x14 ∧ x14 ≤ 99999994) (k24 : 0 ≤ x24 ∧ x24 ≤ 99999992) (k26 : 0 ≤ x26 ∧ x26 ≤ 99999997) (k27 : 0 ≤ x27 ∧ x27 ≤ 99712161) (k29 : 0 ≤ x29 ∧ x29 ≤ 99999998) (k30 : 3 ≤ x30 ∧ x30 ≤ 8) (d0 : x5 + 1 ≤ x30 ∧ x30 ≤ x5 + 1) (d1 : x6 + (-4294967296) ≤ x30 ∧ x30 ≤ x6 + 0) (d2 : x4 + 0 ≤ x12 ∧ x12 ≤ x4 + 0) (d3 : x6 + (-4294967296) ≤ x5 ∧ x5 ≤ x6 + (-1)) (d4 : x5 + (-4294967296) ≤ x4 ∧ x4 ≤ x5 + (-1)) (f0 : x30 = x5 + 1) (f1 : 1 * x29 + ((-1) * x2 + ((-287858) * x5 + (287858 * x4 + 0))) ≤ 862) (f2 : 1 * x27 + ((-1) * x2 + ((-287858) * x5 + (287858 * x4 + 0))) ≤ (-286977)) (f3 : 1 * x26 + ((-1) * x2 + ((-287858) * x5 + (287858 * x4 + 0))) ≤ (-286980)) (f4 : 1 * x24 + ((-1) * x2 + ((-287858) * x5 + (287858 * x4 + 0))) ≤ (-286988)) (f5 : 1 * x14 + ((-1) * x2 + ((-287858) * x5 + (287858 * x4 + 0))) ≤ (-286994)) (f6 : 1 * x6 + ((-1) * all_0 (r_0 + 2) + 0) ≤ 0) (f7 : (-1) * x6 + (1 * all_0 (r_0 + 2) + 0) ≤ 0) (f9 : 1 * texts_0 + ((-1) * x29 + 0) ≤ 2) (f11 : 1 * x29 + ((-1) * x2 + ((-287858) * x5 + (287858 * x4 + 0))) ≤ 862) (f12 : 1 * x27 + ((-1) * x2 + ((-287858) * x5 + (287858 * x4 + 0))) ≤ (-286977)) (f13 : 1 * x26 + ((-1) * x2 + ((-287858) * x5 + (287858 * x4 + 0))) ≤ (-286980)) (f14 : 1 * x24 + ((-1) * x2 + ((-287858) * x5 + (287858 * x4 + 0))) ≤ (-286988)) (f15 : 1 * x14 + ((-1) * x2 + ((-287858) * x5 + (287858 * x4 + 0))) ≤ (-286994)) (f17 : 1 * x27 + ((-1) * x2 + ((-287858) * x5 + (287858 * x4 + 0))) ≤ (-286977)) (f18 : 1 * x26 + ((-1) * x2 + ((-287858) * x5 + (287858 * x4 + 0))) ≤ (-286980)) (f19 : 1 * x24 + ((-1) * x2 + ((-287858) * x5 + (287858 * x4 + 0))) ≤ (-286988)) (f20 : 1 * x14 + ((-1) * x2 + ((-287858) * x5 + (287858 * x4 + 0))) ≤ (-286994)) (f22 : 1 * x26 + ((-1) * x2 + ((-287858) * x5 + (287858 * x4 + 0))) ≤ (-286980)) (f23 : 1 * x24 + ((-1) * x2 + ((-287858) * x5 + (287858 * x4 + 0))) ≤ (-286988)) (f24 : 1 * x14 + ((-1) * x2 + ((-287858) * x5 + (287858 * x4 + 0))) ≤ (-286994)) (f26 : 1 * x24 + ((-1) * x2 + ((-287858) * x5 + (287858 * x4 + 0))) ≤ (-286988)) (f27 : 1 * x14 + ((-1) * x2 + ((-287858) * x5 + (287858 * x4 + 0))) ≤ (-286994)) (f29 : 1 * x14 + ((-1) * x2 + ((-287858) * x5 + (287858 * x4 + 0))) ≤ (-286994)) (f30 : x12 = x4) (f31 : x5 < x6) (kz_0_170 : 0 ≤ texts_0 ∧ texts_0 ≤ 100000000) : 1 * texts_0 + ((-1) * x2 + ((-287858) * x30 + (287858 * x4 + 0))) ≤ (-286994) := by
  first | assumption | omega | grind
def o_Mo_writeGroup_at_l1_18 : or_T := (83, 31, [(0, (2, 0, 0, [165])), (2, (0, 0, 98271988, [])), (4, (0, 1, 6, [])), (5, (0, 2, 7, [])), (6, (0, 3, 8, [])), (12, (0, 1, 6, [])), (14, (0, 0, 99999994, [])), (24, (0, 0, 99999992, [])), (26, (0, 0, 99999997, [])), (27, (0, 0, 99712161, [])), (29, (0, 0, 99999998, [])), (30, (0, 3, 8, []))], [(6, [30, 5], [1]), (23, [29, 2, 5, 4], [862, 1, -1, -287858, 287858]), (23, [27, 2, 5, 4], [-286977, 1, -1, -287858, 287858]), (23, [26, 2, 5, 4], [-286980, 1, -1, -287858, 287858]), (23, [24, 2, 5, 4], [-286988, 1, -1, -287858, 287858]), (23, [14, 2, 5, 4], [-286994, 1, -1, -287858, 287858]), (20, [6, 3], [30, 0, 1, 0, 0, -1, 3, 2005002]), (20, [6, 3], [30, 0, -1, 0, 0, 1, 3, 2005002]), (24, [0, 3], []), (20, [3, 29], [30, 2, 1, 1, 170, -1, 0, 0]), (102, [29], [7770675568902916283677847627294075626569627356208558085007249638955617140820833992704, 165170]), (23, [29, 2, 5, 4], [862, 1, -1, -287858, 287858]), (23, [27, 2, 5, 4], [-286977, 1, -1, -287858, 287858]), (23, [26, 2, 5, 4], [-286980, 1, -1, -287858, 287858]), (23, [24, 2, 5, 4], [-286988, 1, -1, -287858, 287858]), (23, [14, 2, 5, 4], [-286994, 1, -1, -287858, 287858]), (102, [27], [7770675568902916283677847627294075626569627356208558085007249638955617140820833992704, 165170]), (23, [27, 2, 5, 4], [-286977, 1, -1, -287858, 287858]), (23, [26, 2, 5, 4], [-286980, 1, -1, -287858, 287858]), (23, [24, 2, 5, 4], [-286988, 1, -1, -287858, 287858]), (23, [14, 2, 5, 4], [-286994, 1, -1, -287858, 287858]), (102, [26], [7770675568902916283677847627294075626569627356208558085007249638955617140820833992704, 165170]), (23, [26, 2, 5, 4], [-286980, 1, -1, -287858, 287858]), (23, [24, 2, 5, 4], [-286988, 1, -1, -287858, 287858]), (23, [14, 2, 5, 4], [-286994, 1, -1, -287858, 287858]), (102, [24], [7770675568902916283677847627294075626569627356208558085007249638955617140820833992704, 165170]), (23, [24, 2, 5, 4], [-286988, 1, -1, -287858, 287858]), (23, [14, 2, 5, 4], [-286994, 1, -1, -287858, 287858]), (102, [14], [7770675568902916283677847627294075626569627356208558085007249638955617140820833992704, 165170]), (23, [14, 2, 5, 4], [-286994, 1, -1, -287858, 287858]), (7, [12, 4], [0]), (7, [5, 6], [2])], [], [], [(20, [3, 2, 30, 4], [30, -286994, 1, 1, 170, -1, 0, 0, -287858, 0, 0, 287858, 0, 0])], [], [(30, 5, 1, 1), (30, 6, -4294967296, 0), (12, 4, 0, 0), (5, 6, -4294967296, -1), (4, 5, -4294967296, -1)])
theorem oo_Mo_writeGroup_at_l1_18 {kA : Nat → ClassId} : or_ok PRD kA GG o_Mo_writeGroup_at_l1_18 := by
  refine or_mk fun A ta ws vs hD hth hl => ?_
  intro t0 r0 t2 k2 t4 k4 t5 k5 t6 k6 t12 k12 t14 k14 t24 k24 t26 k26 t27 k27 t29 k29 t30 k30 d0 d1 d2 d3 d4 f0 f1 f2 f3 f4 f5 f6 f7 f8 f9 ta1 w1 le1 s1 f11 f12 f13 f14 f15 ta2 w2 le2 s2 f17 f18 f19 f20 ta3 w3 le3 s3 f22 f23 f24 ta4 w4 le4 s4 f26 f27 ta5 w5 le5 s5 f29 f30 f31
  replace f0 := shm_4 f0
  replace f1 := shm_1927 f1
  replace f2 := shm_1925 f2
  replace f3 := shm_1924 f3
  replace f4 := shm_1923 f4
  replace f5 := shm_1922 f5
  replace f6 := shm_132 f6
  replace f7 := shm_133 f7
  replace f8 := shm_5 f8
  replace f9 := shm_234 f9
  replace f11 := shm_1927 f11
  replace f12 := shm_1925 f12
  replace f13 := shm_1924 f13
  replace f14 := shm_1923 f14
  replace f15 := shm_1922 f15
  replace f17 := shm_1925 f17
  replace f18 := shm_1924 f18
  replace f19 := shm_1923 f19
  replace f20 := shm_1922 f20
  replace f22 := shm_1924 f22
  replace f23 := shm_1923 f23
  replace f24 := shm_1922 f24
  replace f26 := shm_1923 f26
  replace f27 := shm_1922 f27
  replace f29 := shm_1922 f29
  replace f30 := shm_37 f30
  replace f31 := shm_6 f31
  have q3 : n_v vs 3 = n_v vs 0 := f8.symm
  simp only [q3] at f6 f7 f9
  have kz_0_170 := fdq_13 hD hth r0
  have nf0 : fc_1 PRD (20, [3, 2, 30, 4], [30, -286994, 1, 1, 170, -1, 0, 0, -287858, 0, 0, 287858, 0, 0]) ws (vs) := by
    refine ⟨nf_in hl rfl, sgq_1921 ?_⟩
    · show 1 * w_fi ws (n_v vs 3) 170 + ((-1) * v_iv (n_v vs 2) + ((-287858) * v_iv (n_v vs 30) + (287858 * v_iv (n_v vs 4) + 0))) ≤ (-286994)
      rw [q3]
      exact vc_Mo_writeGroup_at_l1_18_0 (v_iv (n_v vs 2)) (v_iv (n_v vs 4)) (v_iv (n_v vs 5)) (v_iv (n_v vs 6)) (v_iv (n_v vs 12)) (v_iv (n_v vs 14)) (v_iv (n_v vs 24)) (v_iv (n_v vs 26)) (v_iv (n_v vs 27)) (v_iv (n_v vs 29)) (v_iv (n_v vs 30)) (w_ei ws (w_ar ws (n_v vs 0) 2)) (w_fi ws (n_v vs 0) 5) (w_fi ws (n_v vs 0) 170) k2 k4 k5 k6 k12 k14 k24 k26 k27 k29 k30 d0 d1 d2 d3 d4 f0 f1 f2 f3 f4 f5 f6 f7 f9 f11 f12 f13 f14 f15 f17 f18 f19 f20 f22 f23 f24 f26 f27 f29 f30 f31 kz_0_170
  refine ⟨(fun _ h => (by cases h)), [], trivial, ?_, (fun _ h => (by cases h))⟩
  rw [List.append_nil]
  exact List.forall_mem_cons.mpr ⟨⟨show (20 : Nat) < 100 from by decide, nf0⟩, (fun _ h => (by cases h))⟩
def o_Mo_writeGroup_at_l1_19 : or_T := (83, 14, [(0, (2, 0, 0, [165])), (2, (0, 0, 98271988, [])), (3, (2, 0, 0, [165])), (4, (0, 1, 6, [])), (5, (0, 2, 7, [])), (6, (0, 3, 8, [])), (7, (2, 0, 0, [167])), (8, (0, 0, 66297, [])), (9, (0, 531, 531, [])), (10, (0, 531, 66828, [])), (11, (0, 533, 66835, [])), (12, (0, -1, 6, [])), (13, (0, 3, 8, []))], [(6, [13, 5], [1]), (7, [12, 4], [1]), (10, [12, 7, 11], []), (1, [11, 10, 5], []), (1, [10, 8, 9], []), (9, [8, 3], [5]), (9, [7, 3], [2]), (7, [5, 6], [2]), (20, [6, 3], [30, 0, 1, 0, 0, -1, 3, 2005002]), (20, [6, 3], [30, 0, -1, 0, 0, 1, 3, 2005002]), (20, [3, 2, 5, 4], [30, -286994, 1, 1, 170, -1, 0, 0, -287858, 0, 0, 287858, 0, 0]), (24, [0, 3], [])], [], [], [(20, [3, 2, 13, 4], [30, -286994, 1, 1, 170, -1, 0, 0, -287858, 0, 0, 287858, 0, 0])], [], [(13, 5, 1, 1), (13, 6, -4294967296, 0), (11, 5, 531, 66828), (11, 6, -4294967296, 66827), (11, 10, 2, 7), (11, 8, 533, 538), (10, 8, 531, 531), (5, 6, -4294967296, -1), (4, 5, -4294967296, -1)])
theorem oo_Mo_writeGroup_at_l1_19 {kA : Nat → ClassId} : or_ok PRD kA GG o_Mo_writeGroup_at_l1_19 := by
  refine or_mk fun A ta ws vs hD hth hl => ?_
  intro t0 r0 t2 k2 t3 r3 t4 k4 t5 k5 t6 k6 t7 r7 t8 k8 t9 k9 t10 k10 t11 k11 t12 k12 t13 k13 d0 d1 d2 d3 d4 d5 d6 d7 d8 f0 f1 f2 f3 f4 f5 f6 f7 f8 f9 f10 f11
  replace f0 := shm_4 f0
  replace f1 := shm_40 f1
  replace f2 := shm_106 f2
  replace f3 := shm_12 f3
  replace f4 := shm_12 f4
  replace f5 := shm_109 f5
  replace f6 := shm_129 f6
  replace f7 := shm_6 f7
  replace f8 := shm_132 f8
  replace f9 := shm_133 f9
  replace f10 := shm_1921 f10
  replace f11 := shm_5 f11
  have q3 : n_v vs 3 = n_v vs 0 := f11.symm
  simp only [q3] at f5 f6 f8 f9 f10
  have cr_0_2 := fdq_12 hD hth r0
  have ad_7 : v_ad (n_v vs 7) = w_ar ws (n_v vs 0) 2 := congrArg v_ad f6
  simp only [ad_7] at f2
  have h2 : v_iv (n_v vs 12) = w_ei ws (w_ar ws (n_v vs 0) 2) (v_iv (n_v vs 11)) := f2
  have g5 : v_iv (n_v vs 8) = w_fi ws (n_v vs 0) 5 := congrArg v_iv f5
  have cg2_F5_2 : v_iv (n_v vs 11) = w_fi ws (n_v vs 0) 5 + 2 → w_el ws (w_ar ws (n_v vs 0) 2) (v_iv (n_v vs 11)).toNat = w_el ws (w_ar ws (n_v vs 0) 2) (w_fi ws (n_v vs 0) 5 + 2).toNat := fun h => by rw [h]
  have kz_0_170 := fdq_13 hD hth r0
  have nf0 : fc_1 PRD (20, [3, 2, 13, 4], [30, -286994, 1, 1, 170, -1, 0, 0, -287858, 0, 0, 287858, 0, 0]) ws (vs) := by
    refine ⟨nf_in hl rfl, sgq_1921 ?_⟩
    · show 1 * w_fi ws (n_v vs 3) 170 + ((-1) * v_iv (n_v vs 2) + ((-287858) * v_iv (n_v vs 13) + (287858 * v_iv (n_v vs 4) + 0))) ≤ (-286994)
      rw [q3]
      omega
  refine ⟨(fun _ h => (by cases h)), [], trivial, ?_, (fun _ h => (by cases h))⟩
  rw [List.append_nil]
  exact List.forall_mem_cons.mpr ⟨⟨show (20 : Nat) < 100 from by decide, nf0⟩, (fun _ h => (by cases h))⟩
def n_Mo_writeGroup_at_l1_an : List an_T := [(2, [(0, (2, 0, 0, [165])), (1, (0, 1, 7, [])), (2, (0, 0, 24, []))], [], (0, 0), [(0, 0, 99998), (1, 5, 24), (0, 0, 100000)], [(1, 4, (Int.negSucc 999999999999), 0), (4, 1, (Int.negSucc 999999999999), 0)], [], [(2, 0, 0, [165]), (0, 1, 7, []), (0, 0, 98271988, [])], 0, [], [(20, [3, 2, 5], [30, 0, 1, 1, 170, (Int.negSucc 0), 0, 0, (Int.negSucc 35), 0, 0]), (24, [0, 3], [])]), (83, [(0, (2, 0, 0, [165])), (1, (0, 1, 7, [])), (2, (0, 2, 8, []))], [], (0, 0), [(0, 0, 99917), (1, 5, 8), (0, 0, 100000)], [(1, 4, (Int.negSucc 999999999999), 0), (1, 5, (Int.negSucc 999999999999), (Int.negSucc 0)), (4, 1, (Int.negSucc 999999999999), 0), (4, 5, (Int.negSucc 999999999999), (Int.negSucc 0))], [], [(2, 0, 0, [165]), (0, 1, 7, []), (0, 0, 98271988, [])], 0, [], [(20, [3, 2, 5, 4], [30, (Int.negSucc 286993), 1, 1, 170, (Int.negSucc 0), 0, 0, (Int.negSucc 287857), 0, 0, 287858, 0, 0]), (24, [0, 3], [])])]
def t_Mo_writeGroup_at_l1_ct : ct_L := [(1, 475, e_Mo_nodes), (1, 509, e_Mo_groups), (1, 723, e_Mo_size), (1, 725, e_Mo_groupOf), (1, 1285, e_Mo_writeName), (1, 1293, e_Mo_writeNode), (1, 1298, e_Mo_writeNumber), (82, 1290, e_Mo_write_at_s5013), (145, 1290, e_Mo_write_at_s5014), (193, 1290, e_Mo_write_at_s5045), (214, 1290, e_Mo_write_at_s5015), (355, 1290, e_Mo_write_at_s5016), (472, 1290, e_Mo_write_at_s5017), (487, 1309, e_Mo_writeGroup_at_l2), (508, 1290, e_Mo_write_at_s5018), (1000001, 1288, en_ro [] (2, 0, 0, [5013])), (1000001, 1296, en_ro [] (2, 0, 0, [5014])), (1000001, 1301, en_ro [] (2, 0, 0, [5045])), (1000001, 1303, en_ro [] (2, 0, 0, [5015])), (1000001, 1305, en_ro [] (2, 0, 0, [5016])), (1000001, 1307, en_ro [] (2, 0, 0, [5017])), (1000001, 1312, en_ro [] (2, 0, 0, [5018]))]
set_option maxRecDepth 100000 in
theorem c_Mo_writeGroup_at_l1 {l : Launch} {D : va_G} {kA : Nat → ClassId} (h_Mo_groupOf : ct_ok PRD l D kA GG y_Mo_groupOf z_Mo_groupOf e_Mo_groupOf) (h_Mo_groups : ct_ok PRD l D kA GG y_Mo_groups z_Mo_groups e_Mo_groups) (h_Mo_nodes : ct_ok PRD l D kA GG y_Mo_nodes z_Mo_nodes e_Mo_nodes) (h_Mo_size : ct_ok PRD l D kA GG y_Mo_size z_Mo_size e_Mo_size) (h_Mo_writeGroup_at_l2 : ct_ok PRD l D kA GG y_Mo_writeGroup_at_l2 z_Mo_writeGroup_at_l2 e_Mo_writeGroup_at_l2) (h_Mo_writeName : ct_ok PRD l D kA GG y_Mo_writeName z_Mo_writeName e_Mo_writeName) (h_Mo_writeNode : ct_ok PRD l D kA GG y_Mo_writeNode z_Mo_writeNode e_Mo_writeNode) (h_Mo_writeNumber : ct_ok PRD l D kA GG y_Mo_writeNumber z_Mo_writeNumber e_Mo_writeNumber) (h_Mo_write_at_s5013 : ct_ok PRD l D kA GG y_Mo_write_at_s5013 z_Mo_write_at_s5013 e_Mo_write_at_s5013) (h_Mo_write_at_s5014 : ct_ok PRD l D kA GG y_Mo_write_at_s5014 z_Mo_write_at_s5014 e_Mo_write_at_s5014) (h_Mo_write_at_s5015 : ct_ok PRD l D kA GG y_Mo_write_at_s5015 z_Mo_write_at_s5015 e_Mo_write_at_s5015) (h_Mo_write_at_s5016 : ct_ok PRD l D kA GG y_Mo_write_at_s5016 z_Mo_write_at_s5016 e_Mo_write_at_s5016) (h_Mo_write_at_s5017 : ct_ok PRD l D kA GG y_Mo_write_at_s5017 z_Mo_write_at_s5017 e_Mo_write_at_s5017) (h_Mo_write_at_s5018 : ct_ok PRD l D kA GG y_Mo_write_at_s5018 z_Mo_write_at_s5018 e_Mo_write_at_s5018) (h_Mo_write_at_s5045 : ct_ok PRD l D kA GG y_Mo_write_at_s5045 z_Mo_write_at_s5045 e_Mo_write_at_s5045) : ct_ok PRD l D kA GG y_Mo_writeGroup_at_l1 z_Mo_writeGroup_at_l1 e_Mo_writeGroup_at_l1 := chk_all_ok (FT := [(16, 13, 2), (391, 13, 5)]) (PT := []) (CT := t_Mo_writeGroup_at_l1_ct) (KT := []) (NT := []) (AN := n_Mo_writeGroup_at_l1_an) (OT := [o_Mo_writeGroup_at_l1_0, o_Mo_writeGroup_at_l1_1, o_Mo_writeGroup_at_l1_2, o_Mo_writeGroup_at_l1_3, o_Mo_writeGroup_at_l1_4, o_Mo_writeGroup_at_l1_5, o_Mo_writeGroup_at_l1_6, o_Mo_writeGroup_at_l1_7, o_Mo_writeGroup_at_l1_8, o_Mo_writeGroup_at_l1_9, o_Mo_writeGroup_at_l1_10, o_Mo_writeGroup_at_l1_11, o_Mo_writeGroup_at_l1_12, o_Mo_writeGroup_at_l1_13, o_Mo_writeGroup_at_l1_14, o_Mo_writeGroup_at_l1_15, o_Mo_writeGroup_at_l1_16, o_Mo_writeGroup_at_l1_17, o_Mo_writeGroup_at_l1_18, o_Mo_writeGroup_at_l1_19]) 3 408 (List.forall_mem_cons.mpr ⟨oo_Mo_writeGroup_at_l1_0, List.forall_mem_cons.mpr ⟨oo_Mo_writeGroup_at_l1_1, List.forall_mem_cons.mpr ⟨oo_Mo_writeGroup_at_l1_2, List.forall_mem_cons.mpr ⟨oo_Mo_writeGroup_at_l1_3, List.forall_mem_cons.mpr ⟨oo_Mo_writeGroup_at_l1_4, List.forall_mem_cons.mpr ⟨oo_Mo_writeGroup_at_l1_5, List.forall_mem_cons.mpr ⟨oo_Mo_writeGroup_at_l1_6, List.forall_mem_cons.mpr ⟨oo_Mo_writeGroup_at_l1_7, List.forall_mem_cons.mpr ⟨oo_Mo_writeGroup_at_l1_8, List.forall_mem_cons.mpr ⟨oo_Mo_writeGroup_at_l1_9, List.forall_mem_cons.mpr ⟨oo_Mo_writeGroup_at_l1_10, List.forall_mem_cons.mpr ⟨oo_Mo_writeGroup_at_l1_11, List.forall_mem_cons.mpr ⟨oo_Mo_writeGroup_at_l1_12, List.forall_mem_cons.mpr ⟨oo_Mo_writeGroup_at_l1_13, List.forall_mem_cons.mpr ⟨oo_Mo_writeGroup_at_l1_14, List.forall_mem_cons.mpr ⟨oo_Mo_writeGroup_at_l1_15, List.forall_mem_cons.mpr ⟨oo_Mo_writeGroup_at_l1_16, List.forall_mem_cons.mpr ⟨oo_Mo_writeGroup_at_l1_17, List.forall_mem_cons.mpr ⟨oo_Mo_writeGroup_at_l1_18, List.forall_mem_cons.mpr ⟨oo_Mo_writeGroup_at_l1_19, List.forall_mem_nil _⟩⟩⟩⟩⟩⟩⟩⟩⟩⟩⟩⟩⟩⟩⟩⟩⟩⟩⟩⟩) (by decide +kernel) ⟨List.forall_mem_cons.mpr ⟨gf_Mo_16, List.forall_mem_cons.mpr ⟨gf_Mo_391, List.forall_mem_nil _⟩⟩, List.forall_mem_nil _, List.forall_mem_cons.mpr ⟨cl_virtual (y := y_Mo_nodes) (ci := 13) rfl rfl ⟨_, _, rfl⟩ (by decide +kernel) h_Mo_nodes wm_3025 wm_9 wm_3022 wm_3024 wv_13_3 ⟨by decide, by decide, by decide +kernel⟩ (by decide), List.forall_mem_cons.mpr ⟨cl_virtual (y := y_Mo_groups) (ci := 13) rfl rfl ⟨_, _, rfl⟩ (by decide +kernel) h_Mo_groups wm_3070 wm_9 wm_3067 wm_3069 wv_13_14 ⟨by decide, by decide, by decide +kernel⟩ (by decide), List.forall_mem_cons.mpr ⟨cl_virtual (y := y_Mo_size) (ci := 13) rfl rfl ⟨_, _, rfl⟩ (by decide +kernel) h_Mo_size wm_3307 wm_9 wm_3304 wm_3306 wv_17_0 ⟨by decide, by decide, by decide +kernel⟩ (by decide), List.forall_mem_cons.mpr ⟨cl_virtual (y := y_Mo_groupOf) (ci := 13) rfl rfl ⟨_, _, rfl⟩ (by decide +kernel) h_Mo_groupOf wm_3311 wm_9 wm_3308 wm_3310 wv_17_1 ⟨by decide, by decide, by decide +kernel⟩ (by decide), List.forall_mem_cons.mpr ⟨cl_virtual (y := y_Mo_writeName) (ci := 13) rfl rfl ⟨_, _, rfl⟩ (by decide +kernel) h_Mo_writeName wm_3922 wm_9 wm_3919 wm_3921 wv_24_10 ⟨by decide, by decide, by decide +kernel⟩ (by decide), List.forall_mem_cons.mpr ⟨cl_virtual (y := y_Mo_writeNode) (ci := 13) rfl rfl ⟨_, _, rfl⟩ (by decide +kernel) h_Mo_writeNode wm_3918 wm_9 wm_3915 wm_3917 wv_24_9 ⟨by decide, by decide, by decide +kernel⟩ (by decide), List.forall_mem_cons.mpr ⟨cl_virtual (y := y_Mo_writeNumber) (ci := 13) rfl rfl ⟨_, _, rfl⟩ (by decide +kernel) h_Mo_writeNumber wm_3927 wm_9 wm_3924 wm_3926 wv_24_11 ⟨by decide, by decide, by decide +kernel⟩ (by decide), List.forall_mem_cons.mpr ⟨cl_virtual (y := y_Mo_write_at_s5013) (ci := 13) rfl rfl ⟨_, _, rfl⟩ (by decide +kernel) h_Mo_write_at_s5013 wm_3910 wm_9 wm_3907 wm_3909 wv_24_7 ⟨by decide, by decide, by decide +kernel⟩ (by decide), List.forall_mem_cons.mpr ⟨cl_virtual (y := y_Mo_write_at_s5014) (ci := 13) rfl rfl ⟨_, _, rfl⟩ (by decide +kernel) h_Mo_write_at_s5014 wm_3910 wm_9 wm_3907 wm_3909 wv_24_7 ⟨by decide, by decide, by decide +kernel⟩ (by decide), List.forall_mem_cons.mpr ⟨cl_virtual (y := y_Mo_write_at_s5045) (ci := 13) rfl rfl ⟨_, _, rfl⟩ (by decide +kernel) h_Mo_write_at_s5045 wm_3910 wm_9 wm_3907 wm_3909 wv_24_7 ⟨by decide, by decide, by decide +kernel⟩ (by decide), List.forall_mem_cons.mpr ⟨cl_virtual (y := y_Mo_write_at_s5015) (ci := 13) rfl rfl ⟨_, _, rfl⟩ (by decide +kernel) h_Mo_write_at_s5015 wm_3910 wm_9 wm_3907 wm_3909 wv_24_7 ⟨by decide, by decide, by decide +kernel⟩ (by decide), List.forall_mem_cons.mpr ⟨cl_virtual (y := y_Mo_write_at_s5016) (ci := 13) rfl rfl ⟨_, _, rfl⟩ (by decide +kernel) h_Mo_write_at_s5016 wm_3910 wm_9 wm_3907 wm_3909 wv_24_7 ⟨by decide, by decide, by decide +kernel⟩ (by decide), List.forall_mem_cons.mpr ⟨cl_virtual (y := y_Mo_write_at_s5017) (ci := 13) rfl rfl ⟨_, _, rfl⟩ (by decide +kernel) h_Mo_write_at_s5017 wm_3910 wm_9 wm_3907 wm_3909 wv_24_7 ⟨by decide, by decide, by decide +kernel⟩ (by decide), List.forall_mem_cons.mpr ⟨cl_virtual (y := y_Mo_writeGroup_at_l2) (ci := 13) rfl rfl ⟨_, _, rfl⟩ (by decide +kernel) h_Mo_writeGroup_at_l2 wm_3905 wm_9 wm_3902 wm_3904 wv_24_6 ⟨by decide, by decide, by decide +kernel⟩ (by decide), List.forall_mem_cons.mpr ⟨cl_virtual (y := y_Mo_write_at_s5018) (ci := 13) rfl rfl ⟨_, _, rfl⟩ (by decide +kernel) h_Mo_write_at_s5018 wm_3910 wm_9 wm_3907 wm_3909 wv_24_7 ⟨by decide, by decide, by decide +kernel⟩ (by decide), List.forall_mem_cons.mpr ⟨cl_ldcw (own := "DrawingHouseModel") (idx := 1288) (i := 13) (tx := "node ") (by decide +kernel) (by decide +kernel) (by decide +kernel), List.forall_mem_cons.mpr ⟨cl_ldcw (own := "DrawingHouseModel") (idx := 1296) (i := 14) (tx := " [size=") (by decide +kernel) (by decide +kernel) (by decide +kernel), List.forall_mem_cons.mpr ⟨cl_ldcw (own := "DrawingHouseModel") (idx := 1301) (i := 45) (tx := "]") (by decide +kernel) (by decide +kernel) (by decide +kernel), List.forall_mem_cons.mpr ⟨cl_ldcw (own := "DrawingHouseModel") (idx := 1303) (i := 15) (tx := ";\n") (by decide +kernel) (by decide +kernel) (by decide +kernel), List.forall_mem_cons.mpr ⟨cl_ldcw (own := "DrawingHouseModel") (idx := 1305) (i := 16) (tx := "group ") (by decide +kernel) (by decide +kernel) (by decide +kernel), List.forall_mem_cons.mpr ⟨cl_ldcw (own := "DrawingHouseModel") (idx := 1307) (i := 17) (tx := " {\n") (by decide +kernel) (by decide +kernel) (by decide +kernel), List.forall_mem_cons.mpr ⟨cl_ldcw (own := "DrawingHouseModel") (idx := 1312) (i := 18) (tx := "}\n") (by decide +kernel) (by decide +kernel) (by decide +kernel), List.forall_mem_nil _⟩⟩⟩⟩⟩⟩⟩⟩⟩⟩⟩⟩⟩⟩⟩⟩⟩⟩⟩⟩⟩⟩, List.forall_mem_nil _, List.forall_mem_nil _, GG_pl⟩ (by decide +kernel)

set_option maxHeartbeats 4000000 in
theorem vc_Mo_writeGroup_at_l2_0_0 (x2 : Int) (x3 : Int) (texts_0 : Int) (k2 : 0 ≤ x2 ∧ x2 ≤ 99712161) (k3 : 0 ≤ x3 ∧ x3 ≤ 0) (f0 : 1 * texts_0 + ((-1) * x2 + 0) ≤ 0) (kz_0_170 : 0 ≤ texts_0 ∧ texts_0 ≤ 100000000) : 1 * texts_0 + ((-1) * x2 + ((-36) * x3 + 0)) ≤ 0 := by
  first | assumption | omega | grind
def o_Mo_writeGroup_at_l2_0 : or_T := (2, 4, [(0, (2, 0, 0, [165])), (2, (0, 0, 99712161, [])), (3, (0, 0, 0, []))], [(20, [0, 2], [30, 0, 1, 1, 170, -1, 0, 0])], [], [], [(20, [0, 2, 3], [30, 0, 1, 1, 170, -1, 0, 0, -36, 0, 0]), (24, [0, 0], [])], [], [])
theorem oo_Mo_writeGroup_at_l2_0 {kA : Nat → ClassId} : or_ok PRD kA GG o_Mo_writeGroup_at_l2_0 := by
  refine or_mk fun A ta ws vs hD hth hl => ?_
  intro t0 r0 t2 k2 t3 k3 f0
  have kz_0_170 := fdq_13 hD hth r0
  have nf0 : fc_1 PRD (20, [0, 2, 3], [30, 0, 1, 1, 170, -1, 0, 0, -36, 0, 0]) ws (vs) := ⟨nf_in hl rfl, sgq_1906 (vc_Mo_writeGroup_at_l2_0_0 (v_iv (n_v vs 2)) (v_iv (n_v vs 3)) (w_fi ws (n_v vs 0) 170) k2 k3 (shm_140 f0) kz_0_170)⟩
  have nf1 : fc_1 PRD (24, [0, 0], []) ws (vs) := by
    refine ⟨nf_in hl rfl, sgq_1 ?_⟩
    · show n_v vs 0 = n_v vs 0
      first | rfl | simp only [true_and]
  refine ⟨(fun _ h => (by cases h)), [], trivial, ?_, (fun _ h => (by cases h))⟩
  rw [List.append_nil]
  exact List.forall_mem_cons.mpr ⟨⟨show (20 : Nat) < 100 from by decide, nf0⟩, List.forall_mem_cons.mpr ⟨⟨show (24 : Nat) < 100 from by decide, nf1⟩, (fun _ h => (by cases h))⟩⟩
set_option maxHeartbeats 4000000 in
theorem vc_Mo_writeGroup_at_l2_1_0 (x2 : Int) (x4 : Int) (x5 : Int) (x6 : Int) (x7 : Int) (x8 : Int) (all_0 : Int → Int) (r_0 : Int) (texts_0 : Int) (k2 : 0 ≤ x2 ∧ x2 ≤ 99712161) (k4 : 2 ≤ x4 ∧ x4 ≤ 7) (k5 : 0 ≤ x5 ∧ x5 ≤ 24) (k6 : 0 ≤ x6 ∧ x6 ≤ 24) (k7 : 1 ≤ x7 ∧ x7 ≤ 1) (k8 : 3 ≤ x8 ∧ x8 ≤ 8) (d0 : x4 + 1 ≤ x8 ∧ x8 ≤ x4 + 1) (d1 : x6 + 0 ≤ x5 ∧ x5 ≤ x6 + 4294967296) (f0 : x8 = x4 + x7) (f1 : x6 ≤ x5) (f2 : 1 * x6 + ((-1) * all_0 (r_0 + 0) + 0) ≤ 0) (f3 : (-1) * x6 + (1 * all_0 (r_0 + 0) + 0) ≤ 0) (f4 : 1 * texts_0 + ((-1) * x2 + ((-36) * x5 + 0)) ≤ 0) (kz_0_170 : 0 ≤ texts_0 ∧ texts_0 ≤ 100000000) : 1 * texts_0 + ((-1) * x2 + ((-57395) * x8 + (57395 * x4 + 0))) ≤ (-56531) := by
  first | assumption | omega | grind
def o_Mo_writeGroup_at_l2_1 : or_T := (83, 9, [(0, (2, 0, 0, [165])), (2, (0, 0, 99712161, [])), (4, (0, 2, 7, [])), (5, (0, 0, 24, [])), (6, (0, 0, 24, [])), (7, (0, 1, 1, [])), (8, (0, 3, 8, []))], [(1, [8, 4, 7], []), (7, [5, 6], [3]), (20, [6, 3], [30, 0, 1, 0, 0, -1, 3, 2005000]), (20, [6, 3], [30, 0, -1, 0, 0, 1, 3, 2005000]), (20, [3, 2, 5], [30, 0, 1, 1, 170, -1, 0, 0, -36, 0, 0]), (24, [0, 3], [])], [], [], [(20, [3, 2, 8, 4], [30, -56531, 1, 1, 170, -1, 0, 0, -57395, 0, 0, 57395, 0, 0])], [], [(8, 4, 1, 1), (5, 6, 0, 4294967296)])
theorem oo_Mo_writeGroup_at_l2_1 {kA : Nat → ClassId} : or_ok PRD kA GG o_Mo_writeGroup_at_l2_1 := by
  refine or_mk fun A ta ws vs hD hth hl => ?_
  intro t0 r0 t2 k2 t4 k4 t5 k5 t6 k6 t7 k7 t8 k8 d0 d1 f0 f1 f2 f3 f4 f5
  replace f0 := shm_12 f0
  replace f1 := shm_2 f1
  replace f2 := shm_135 f2
  replace f3 := shm_136 f3
  replace f4 := shm_1906 f4
  replace f5 := shm_5 f5
  have q3 : n_v vs 3 = n_v vs 0 := f5.symm
  simp only [q3] at f2 f3 f4
  have kz_0_170 := fdq_13 hD hth r0
  have nf0 : fc_1 PRD (20, [3, 2, 8, 4], [30, -56531, 1, 1, 170, -1, 0, 0, -57395, 0, 0, 57395, 0, 0]) ws (vs) := by
    refine ⟨nf_in hl rfl, sgq_1928 ?_⟩
    · show 1 * w_fi ws (n_v vs 3) 170 + ((-1) * v_iv (n_v vs 2) + ((-57395) * v_iv (n_v vs 8) + (57395 * v_iv (n_v vs 4) + 0))) ≤ (-56531)
      rw [q3]
      exact vc_Mo_writeGroup_at_l2_1_0 (v_iv (n_v vs 2)) (v_iv (n_v vs 4)) (v_iv (n_v vs 5)) (v_iv (n_v vs 6)) (v_iv (n_v vs 7)) (v_iv (n_v vs 8)) (w_ei ws (w_ar ws (n_v vs 0) 2)) (w_fi ws (n_v vs 0) 5) (w_fi ws (n_v vs 0) 170) k2 k4 k5 k6 k7 k8 d0 d1 f0 f1 f2 f3 f4 kz_0_170
  refine ⟨(fun _ h => (by cases h)), [], trivial, ?_, (fun _ h => (by cases h))⟩
  rw [List.append_nil]
  exact List.forall_mem_cons.mpr ⟨⟨show (20 : Nat) < 100 from by decide, nf0⟩, (fun _ h => (by cases h))⟩
set_option maxHeartbeats 4000000 in
theorem vc_Mo_writeGroup_at_l2_2_0 (x2 : Int) (x4 : Int) (x5 : Int) (x6 : Int) (x7 : Int) (all_0 : Int → Int) (r_0 : Int) (texts_0 : Int) (gx : Int) (k2 : 0 ≤ x2 ∧ x2 ≤ 99712161) (k4 : 2 ≤ x4 ∧ x4 ≤ 7) (k5 : 0 ≤ x5 ∧ x5 ≤ 23) (k6 : 1 ≤ x6 ∧ x6 ≤ 24) (k7 : 2 ≤ x7 ∧ x7 ≤ 7) (d0 : x4 + 0 ≤ x7 ∧ x7 ≤ x4 + 0) (d1 : x6 + (-4294967296) ≤ x5 ∧ x5 ≤ x6 + (-1)) (f0 : x7 = x4) (f1 : x7 = all_0 (((r_0 + 243) + x5))) (f2 : x5 < x6) (f3 : 1 * x6 + ((-1) * all_0 (r_0 + 0) + 0) ≤ 0) (f4 : (-1) * x6 + (1 * all_0 (r_0 + 0) + 0) ≤ 0) (f5 : 1 * texts_0 + ((-1) * x2 + ((-36) * x5 + 0)) ≤ 0) (kz_0_170 : 0 ≤ texts_0 ∧ texts_0 ≤ 100000000) (ex2 : gx = texts_0) (ex3 : 0 ≤ gx ∧ gx ≤ 99999995) : 1 * texts_0 + ((-1) * gx + 0) ≤ 0 := by
  first | assumption | omega | grind
set_option maxHeartbeats 4000000 in
theorem vc_Mo_writeGroup_at_l2_2_1 (x2 : Int) (x4 : Int) (x5 : Int) (x6 : Int) (x7 : Int) (all_0 : Int → Int) (r_0 : Int) (texts_0 : Int) (gx : Int) (k2 : 0 ≤ x2 ∧ x2 ≤ 99712161) (k4 : 2 ≤ x4 ∧ x4 ≤ 7) (k5 : 0 ≤ x5 ∧ x5 ≤ 23) (k6 : 1 ≤ x6 ∧ x6 ≤ 24) (k7 : 2 ≤ x7 ∧ x7 ≤ 7) (d0 : x4 + 0 ≤ x7 ∧ x7 ≤ x4 + 0) (d1 : x6 + (-4294967296) ≤ x5 ∧ x5 ≤ x6 + (-1)) (f0 : x7 = x4) (f1 : x7 = all_0 (((r_0 + 243) + x5))) (f2 : x5 < x6) (f3 : 1 * x6 + ((-1) * all_0 (r_0 + 0) + 0) ≤ 0) (f4 : (-1) * x6 + (1 * all_0 (r_0 + 0) + 0) ≤ 0) (f5 : 1 * texts_0 + ((-1) * x2 + ((-36) * x5 + 0)) ≤ 0) (kz_0_170 : 0 ≤ texts_0 ∧ texts_0 ≤ 100000000) (ex2 : gx = texts_0) (ex3 : 0 ≤ gx ∧ gx ≤ 99999995) : 1 * gx + ((-1) * x2 + ((-36) * x5 + 0)) ≤ 0 := by
  first | assumption | omega | grind
def o_Mo_writeGroup_at_l2_2 : or_T := (26, 9, [(0, (2, 0, 0, [165])), (2, (0, 0, 99712161, [])), (3, (2, 0, 0, [165])), (4, (0, 2, 7, [])), (5, (0, 0, 23, [])), (6, (0, 1, 24, [])), (7, (0, 2, 7, []))], [(7, [7, 4], [0]), (20, [7, 3, 5], [50, 1, 1, 1005, 1002, 1, 2, 1, 0, 3, 1, 2, 4, 7, 4, 3, 2, 1, 5, 0, 243, 1, 2]), (7, [5, 6], [2]), (20, [6, 3], [30, 0, 1, 0, 0, -1, 3, 2005000]), (20, [6, 3], [30, 0, -1, 0, 0, 1, 3, 2005000]), (20, [3, 2, 5], [30, 0, 1, 1, 170, -1, 0, 0, -36, 0, 0]), (24, [0, 3], [])], [], [(0, 0, 99999995, [])], [(20, [3, 9], [30, 0, 1, 1, 170, -1, 0, 0]), (23, [9, 2, 5], [0, 1, -1, -36])], [], [(7, 4, 0, 0), (5, 6, -4294967296, -1)])
theorem oo_Mo_writeGroup_at_l2_2 {kA : Nat → ClassId} : or_ok PRD kA GG o_Mo_writeGroup_at_l2_2 := by
  refine or_mk fun A ta ws vs hD hth hl => ?_
  intro t0 r0 t2 k2 t3 r3 t4 k4 t5 k5 t6 k6 t7 k7 d0 d1 f0 f1 f2 f3 f4 f5 f6
  replace f0 := shm_37 f0
  replace f1 := shm_585 f1
  replace f2 := shm_6 f2
  replace f3 := shm_135 f3
  replace f4 := shm_136 f4
  replace f5 := shm_1906 f5
  replace f6 := shm_5 f6
  have q3 : n_v vs 3 = n_v vs 0 := f6.symm
  simp only [q3] at f1 f3 f4 f5
  have cr_0_2 := fdq_12 hD hth r0
  have br_0_2_F5_0_0 : w_ei ws (w_ar ws (n_v vs 0) 2) (w_fi ws (n_v vs 0) 5 + 0) = w_el ws (w_ar ws (n_v vs 0) 2) (w_fi ws (n_v vs 0) 5 + 0).toNat := rfl
  have kz_0_170 := fdq_13 hD hth r0
  have kv0 := fdq_13 hD hth r0
  obtain ⟨x, ex, hx⟩ := iv_ex (ta := ta) (lo := 0) (hi := 99999995) (z := w_fi ws (n_v vs 0) 170) (by omega) (by omega) (by omega) (by omega)
  have ex2 : v_iv (Value.int x) = w_fi ws (n_v vs 0) 170 := ex
  have ex3 : 0 ≤ v_iv (Value.int x) ∧ v_iv (Value.int x) ≤ 99999995 := tv_rng hx
  have e_2 : n_v (vs ++ [Value.int x]) 2 = n_v vs 2 := n_v_old (by rw [hl]; decide)
  have e_3 : n_v (vs ++ [Value.int x]) 3 = n_v vs 3 := n_v_old (by rw [hl]; decide)
  have e_5 : n_v (vs ++ [Value.int x]) 5 = n_v vs 5 := n_v_old (by rw [hl]; decide)
  have e_9 : n_v (vs ++ [Value.int x]) 9 = Value.int x := n_v_new hl
  have nf0 : fc_1 PRD (20, [3, 9], [30, 0, 1, 1, 170, -1, 0, 0]) ws (vs ++ [Value.int x]) := by
    refine ⟨nf_inA hl rfl, sgq_140 ?_⟩
    · show 1 * w_fi ws (n_v (vs ++ [Value.int x]) 3) 170 + ((-1) * v_iv (n_v (vs ++ [Value.int x]) 9) + 0) ≤ 0
      simp only [e_3, e_9, q3]
      exact vc_Mo_writeGroup_at_l2_2_0 (v_iv (n_v vs 2)) (v_iv (n_v vs 4)) (v_iv (n_v vs 5)) (v_iv (n_v vs 6)) (v_iv (n_v vs 7)) (w_ei ws (w_ar ws (n_v vs 0) 2)) (w_fi ws (n_v vs 0) 5) (w_fi ws (n_v vs 0) 170) (v_iv (Value.int x)) k2 k4 k5 k6 k7 d0 d1 f0 f1 f2 f3 f4 f5 kz_0_170 ex2 ex3
  have nf1 : fc_1 PRD (23, [9, 2, 5], [0, 1, -1, -36]) ws (vs ++ [Value.int x]) := by
    refine ⟨nf_inA hl rfl, sgq_1908 ?_⟩
    · show 1 * v_iv (n_v (vs ++ [Value.int x]) 9) + ((-1) * v_iv (n_v (vs ++ [Value.int x]) 2) + ((-36) * v_iv (n_v (vs ++ [Value.int x]) 5) + 0)) ≤ 0
      simp only [e_2, e_5, e_9]
      exact vc_Mo_writeGroup_at_l2_2_1 (v_iv (n_v vs 2)) (v_iv (n_v vs 4)) (v_iv (n_v vs 5)) (v_iv (n_v vs 6)) (v_iv (n_v vs 7)) (w_ei ws (w_ar ws (n_v vs 0) 2)) (w_fi ws (n_v vs 0) 5) (w_fi ws (n_v vs 0) 170) (v_iv (Value.int x)) k2 k4 k5 k6 k7 d0 d1 f0 f1 f2 f3 f4 f5 kz_0_170 ex2 ex3
  exact ⟨(fun _ h => (by cases h)), [Value.int x], ag_one hx, List.forall_mem_cons.mpr ⟨⟨show (20 : Nat) < 100 from by decide, nf0⟩, List.forall_mem_cons.mpr ⟨⟨show (23 : Nat) < 100 from by decide, nf1⟩, (fun _ h => (by cases h))⟩⟩, (fun _ h => (by cases h))⟩
set_option maxHeartbeats 4000000 in
theorem vc_Mo_writeGroup_at_l2_3_0 (x2 : Int) (x4 : Int) (x5 : Int) (x6 : Int) (x7 : Int) (x9 : Int) (all_0 : Int → Int) (r_0 : Int) (texts_0 : Int) (gx : Int) (k2 : 0 ≤ x2 ∧ x2 ≤ 99712161) (k4 : 2 ≤ x4 ∧ x4 ≤ 7) (k5 : 0 ≤ x5 ∧ x5 ≤ 23) (k6 : 1 ≤ x6 ∧ x6 ≤ 24) (k7 : 2 ≤ x7 ∧ x7 ≤ 7) (k9 : 0 ≤ x9 ∧ x9 ≤ 99999995) (d0 : x4 + 0 ≤ x7 ∧ x7 ≤ x4 + 0) (d1 : x6 + (-4294967296) ≤ x5 ∧ x5 ≤ x6 + (-1)) (f0 : 1 * x9 + ((-1) * x2 + ((-36) * x5 + 0)) ≤ 0) (f1 : x7 = all_0 (((r_0 + 243) + x5))) (f2 : 1 * x6 + ((-1) * all_0 (r_0 + 0) + 0) ≤ 0) (f3 : (-1) * x6 + (1 * all_0 (r_0 + 0) + 0) ≤ 0) (f5 : 1 * texts_0 + ((-1) * x9 + 0) ≤ 5) (f7 : 1 * x9 + ((-1) * x2 + ((-36) * x5 + 0)) ≤ 0) (f8 : x7 = x4) (f9 : x5 < x6) (kz_0_170 : 0 ≤ texts_0 ∧ texts_0 ≤ 100000000) (ex2 : gx = texts_0) (ex3 : 0 ≤ gx ∧ gx ≤ 99999992) : 1 * texts_0 + ((-1) * gx + 0) ≤ 0 := by
  first | assumption | omega | grind
set_option maxHeartbeats 4000000 in
theorem vc_Mo_writeGroup_at_l2_3_1 (x2 : Int) (x4 : Int) (x5 : Int) (x6 : Int) (x7 : Int) (x9 : Int) (all_0 : Int → Int) (r_0 : Int) (texts_0 : Int) (gx : Int) (k2 : 0 ≤ x2 ∧ x2 ≤ 99712161) (k4 : 2 ≤ x4 ∧ x4 ≤ 7) (k5 : 0 ≤ x5 ∧ x5 ≤ 23) (k6 : 1 ≤ x6 ∧ x6 ≤ 24) (k7 : 2 ≤ x7 ∧ x7 ≤ 7) (k9 : 0 ≤ x9 ∧ x9 ≤ 99999995) (d0 : x4 + 0 ≤ x7 ∧ x7 ≤ x4 + 0) (d1 : x6 + (-4294967296) ≤ x5 ∧ x5 ≤ x6 + (-1)) (f0 : 1 * x9 + ((-1) * x2 + ((-36) * x5 + 0)) ≤ 0) (f1 : x7 = all_0 (((r_0 + 243) + x5))) (f2 : 1 * x6 + ((-1) * all_0 (r_0 + 0) + 0) ≤ 0) (f3 : (-1) * x6 + (1 * all_0 (r_0 + 0) + 0) ≤ 0) (f5 : 1 * texts_0 + ((-1) * x9 + 0) ≤ 5) (f7 : 1 * x9 + ((-1) * x2 + ((-36) * x5 + 0)) ≤ 0) (f8 : x7 = x4) (f9 : x5 < x6) (kz_0_170 : 0 ≤ texts_0 ∧ texts_0 ≤ 100000000) (ex2 : gx = texts_0) (ex3 : 0 ≤ gx ∧ gx ≤ 99999992) : 1 * gx + ((-1) * x2 + ((-36) * x5 + 0)) ≤ 5 := by
  first | assumption | omega | grind
def o_Mo_writeGroup_at_l2_3 : or_T := (31, 10, [(0, (2, 0, 0, [165])), (2, (0, 0, 99712161, [])), (3, (2, 0, 0, [165])), (4, (0, 2, 7, [])), (5, (0, 0, 23, [])), (6, (0, 1, 24, [])), (7, (0, 2, 7, [])), (9, (0, 0, 99999995, []))], [(23, [9, 2, 5], [0, 1, -1, -36]), (20, [7, 3, 5], [50, 1, 1, 1005, 1002, 1, 2, 1, 0, 3, 1, 2, 4, 7, 4, 3, 2, 1, 5, 0, 243, 1, 2]), (20, [6, 3], [30, 0, 1, 0, 0, -1, 3, 2005000]), (20, [6, 3], [30, 0, -1, 0, 0, 1, 3, 2005000]), (24, [0, 3], []), (20, [3, 9], [30, 5, 1, 1, 170, -1, 0, 0]), (102, [9], [7770675568902916283677847627294075626569627356208558085007249638955617140820833992704, 165170]), (23, [9, 2, 5], [0, 1, -1, -36]), (7, [7, 4], [0]), (7, [5, 6], [2])], [], [(0, 0, 99999992, [])], [(20, [3, 10], [30, 0, 1, 1, 170, -1, 0, 0]), (23, [10, 2, 5], [5, 1, -1, -36])], [], [(7, 4, 0, 0), (5, 6, -4294967296, -1)])
theorem oo_Mo_writeGroup_at_l2_3 {kA : Nat → ClassId} : or_ok PRD kA GG o_Mo_writeGroup_at_l2_3 := by
  refine or_mk fun A ta ws vs hD hth hl => ?_
  intro t0 r0 t2 k2 t3 r3 t4 k4 t5 k5 t6 k6 t7 k7 t9 k9 d0 d1 f0 f1 f2 f3 f4 f5 ta1 w1 le1 s1 f7 f8 f9
  replace f0 := shm_1908 f0
  replace f1 := shm_585 f1
  replace f2 := shm_135 f2
  replace f3 := shm_136 f3
  replace f4 := shm_5 f4
  replace f5 := shm_232 f5
  replace f7 := shm_1908 f7
  replace f8 := shm_37 f8
  replace f9 := shm_6 f9
  have q3 : n_v vs 3 = n_v vs 0 := f4.symm
  simp only [q3] at f1 f2 f3 f5
  have cr_0_2 := fdq_12 hD hth r0
  have br_0_2_F5_0_0 : w_ei ws (w_ar ws (n_v vs 0) 2) (w_fi ws (n_v vs 0) 5 + 0) = w_el ws (w_ar ws (n_v vs 0) 2) (w_fi ws (n_v vs 0) 5 + 0).toNat := rfl
  have kz_0_170 := fdq_13 hD hth r0
  have kv0 := fdq_13 hD hth r0
  obtain ⟨x, ex, hx⟩ := iv_ex (ta := ta) (lo := 0) (hi := 99999992) (z := w_fi ws (n_v vs 0) 170) (by omega) (by omega) (by omega) (by omega)
  have ex2 : v_iv (Value.int x) = w_fi ws (n_v vs 0) 170 := ex
  have ex3 : 0 ≤ v_iv (Value.int x) ∧ v_iv (Value.int x) ≤ 99999992 := tv_rng hx
  have e_2 : n_v (vs ++ [Value.int x]) 2 = n_v vs 2 := n_v_old (by rw [hl]; decide)
  have e_3 : n_v (vs ++ [Value.int x]) 3 = n_v vs 3 := n_v_old (by rw [hl]; decide)
  have e_5 : n_v (vs ++ [Value.int x]) 5 = n_v vs 5 := n_v_old (by rw [hl]; decide)
  have e_10 : n_v (vs ++ [Value.int x]) 10 = Value.int x := n_v_new hl
  have nf0 : fc_1 PRD (20, [3, 10], [30, 0, 1, 1, 170, -1, 0, 0]) ws (vs ++ [Value.int x]) := by
    refine ⟨nf_inA hl rfl, sgq_140 ?_⟩
    · show 1 * w_fi ws (n_v (vs ++ [Value.int x]) 3) 170 + ((-1) * v_iv (n_v (vs ++ [Value.int x]) 10) + 0) ≤ 0
      simp only [e_3, e_10, q3]
      exact vc_Mo_writeGroup_at_l2_3_0 (v_iv (n_v vs 2)) (v_iv (n_v vs 4)) (v_iv (n_v vs 5)) (v_iv (n_v vs 6)) (v_iv (n_v vs 7)) (v_iv (n_v vs 9)) (w_ei ws (w_ar ws (n_v vs 0) 2)) (w_fi ws (n_v vs 0) 5) (w_fi ws (n_v vs 0) 170) (v_iv (Value.int x)) k2 k4 k5 k6 k7 k9 d0 d1 f0 f1 f2 f3 f5 f7 f8 f9 kz_0_170 ex2 ex3
  have nf1 : fc_1 PRD (23, [10, 2, 5], [5, 1, -1, -36]) ws (vs ++ [Value.int x]) := by
    refine ⟨nf_inA hl rfl, sgq_1909 ?_⟩
    · show 1 * v_iv (n_v (vs ++ [Value.int x]) 10) + ((-1) * v_iv (n_v (vs ++ [Value.int x]) 2) + ((-36) * v_iv (n_v (vs ++ [Value.int x]) 5) + 0)) ≤ 5
      simp only [e_2, e_5, e_10]
      exact vc_Mo_writeGroup_at_l2_3_1 (v_iv (n_v vs 2)) (v_iv (n_v vs 4)) (v_iv (n_v vs 5)) (v_iv (n_v vs 6)) (v_iv (n_v vs 7)) (v_iv (n_v vs 9)) (w_ei ws (w_ar ws (n_v vs 0) 2)) (w_fi ws (n_v vs 0) 5) (w_fi ws (n_v vs 0) 170) (v_iv (Value.int x)) k2 k4 k5 k6 k7 k9 d0 d1 f0 f1 f2 f3 f5 f7 f8 f9 kz_0_170 ex2 ex3
  exact ⟨(fun _ h => (by cases h)), [Value.int x], ag_one hx, List.forall_mem_cons.mpr ⟨⟨show (20 : Nat) < 100 from by decide, nf0⟩, List.forall_mem_cons.mpr ⟨⟨show (23 : Nat) < 100 from by decide, nf1⟩, (fun _ h => (by cases h))⟩⟩, (fun _ h => (by cases h))⟩
set_option maxHeartbeats 4000000 in
theorem vc_Mo_writeGroup_at_l2_4_0 (x2 : Int) (x4 : Int) (x5 : Int) (x6 : Int) (x7 : Int) (x9 : Int) (x10 : Int) (x11 : Int) (x12 : Int) (all_0 : Int → Int) (r_0 : Int) (texts_0 : Int) (gx : Int) (k2 : 0 ≤ x2 ∧ x2 ≤ 99712161) (k4 : 2 ≤ x4 ∧ x4 ≤ 7) (k5 : 0 ≤ x5 ∧ x5 ≤ 23) (k6 : 1 ≤ x6 ∧ x6 ≤ 24) (k7 : 2 ≤ x7 ∧ x7 ≤ 7) (k9 : 0 ≤ x9 ∧ x9 ≤ 99999995) (k10 : 0 ≤ x10 ∧ x10 ≤ 99999992) (k11 : 0 ≤ x11 ∧ x11 ≤ 1) (k12 : 1 ≤ x12 ∧ x12 ≤ 1) (d0 : x4 + 0 ≤ x7 ∧ x7 ≤ x4 + 0) (d1 : x6 + (-4294967296) ≤ x5 ∧ x5 ≤ x6 + (-1)) (f0 : x11 ≤ x12) (f1 : x11 = all_0 (((r_0 + 219) + x5))) (f2 : 1 * x10 + ((-1) * x2 + ((-36) * x5 + 0)) ≤ 5) (f3 : 1 * x9 + ((-1) * x2 + ((-36) * x5 + 0)) ≤ 0) (f4 : x7 = all_0 (((r_0 + 243) + x5))) (f5 : 1 * x6 + ((-1) * all_0 (r_0 + 0) + 0) ≤ 0) (f6 : (-1) * x6 + (1 * all_0 (r_0 + 0) + 0) ≤ 0) (f8 : 1 * texts_0 + ((-1) * x10 + 0) ≤ 8) (f10 : 1 * x10 + ((-1) * x2 + ((-36) * x5 + 0)) ≤ 5) (f11 : 1 * x9 + ((-1) * x2 + ((-36) * x5 + 0)) ≤ 0) (f13 : 1 * x9 + ((-1) * x2 + ((-36) * x5 + 0)) ≤ 0) (f14 : x7 = x4) (f15 : x5 < x6) (kz_0_170 : 0 ≤ texts_0 ∧ texts_0 ≤ 100000000) (ex2 : gx = texts_0) (ex3 : 0 ≤ gx ∧ gx ≤ 99999998) : 1 * texts_0 + ((-1) * gx + 0) ≤ 0 := by
  first | assumption | omega | grind
set_option maxHeartbeats 4000000 in
theorem vc_Mo_writeGroup_at_l2_4_1 (x2 : Int) (x4 : Int) (x5 : Int) (x6 : Int) (x7 : Int) (x9 : Int) (x10 : Int) (x11 : Int) (x12 : Int) (all_0 : Int → Int) (r_0 : Int) (texts_0 : Int) (gx : Int) (k2 : 0 ≤ x2 ∧ x2 ≤ 99712161) (k4 : 2 ≤ x4 ∧ x4 ≤ 7) (k5 : 0 ≤ x5 ∧ x5 ≤ 23) (k6 : 1 ≤ x6 ∧ x6 ≤ 24) (k7 : 2 ≤ x7 ∧ x7 ≤ 7) (k9 : 0 ≤ x9 ∧ x9 ≤ 99999995) (k10 : 0 ≤ x10 ∧ x10 ≤ 99999992) (k11 : 0 ≤ x11 ∧ x11 ≤ 1) (k12 : 1 ≤ x12 ∧ x12 ≤ 1) (d0 : x4 + 0 ≤ x7 ∧ x7 ≤ x4 + 0) (d1 : x6 + (-4294967296) ≤ x5 ∧ x5 ≤ x6 + (-1)) (f0 : x11 ≤ x12) (f1 : x11 = all_0 (((r_0 + 219) + x5))) (f2 : 1 * x10 + ((-1) * x2 + ((-36) * x5 + 0)) ≤ 5) (f3 : 1 * x9 + ((-1) * x2 + ((-36) * x5 + 0)) ≤ 0) (f4 : x7 = all_0 (((r_0 + 243) + x5))) (f5 : 1 * x6 + ((-1) * all_0 (r_0 + 0) + 0) ≤ 0) (f6 : (-1) * x6 + (1 * all_0 (r_0 + 0) + 0) ≤ 0) (f8 : 1 * texts_0 + ((-1) * x10 + 0) ≤ 8) (f10 : 1 * x10 + ((-1) * x2 + ((-36) * x5 + 0)) ≤ 5) (f11 : 1 * x9 + ((-1) * x2 + ((-36) * x5 + 0)) ≤ 0) (f13 : 1 * x9 + ((-1) * x2 + ((-36) * x5 + 0)) ≤ 0) (f14 : x7 = x4) (f15 : x5 < x6) (kz_0_170 : 0 ≤ texts_0 ∧ texts_0 ≤ 100000000) (ex2 : gx = texts_0) (ex3 : 0 ≤ gx ∧ gx ≤ 99999998) : 1 * gx + ((-1) * x2 + ((-36) * x5 + 0)) ≤ 34 := by
  first | assumption | omega | grind
def o_Mo_writeGroup_at_l2_4 : or_T := (70, 14, [(0, (2, 0, 0, [165])), (2, (0, 0, 99712161, [])), (3, (2, 0, 0, [165])), (4, (0, 2, 7, [])), (5, (0, 0, 23, [])), (6, (0, 1, 24, [])), (7, (0, 2, 7, [])), (9, (0, 0, 99999995, [])), (10, (0, 0, 99999992, [])), (11, (0, 0, 1, [])), (12, (0, 1, 1, []))], [(7, [11, 12], [5]), (20, [11, 3, 5], [50, 1, 1, 1005, 1002, 1, 2, 1, 0, 3, 1, 2, 4, 7, 4, 3, 2, 1, 5, 0, 219, 1, 2]), (23, [10, 2, 5], [5, 1, -1, -36]), (23, [9, 2, 5], [0, 1, -1, -36]), (20, [7, 3, 5], [50, 1, 1, 1005, 1002, 1, 2, 1, 0, 3, 1, 2, 4, 7, 4, 3, 2, 1, 5, 0, 243, 1, 2]), (20, [6, 3], [30, 0, 1, 0, 0, -1, 3, 2005000]), (20, [6, 3], [30, 0, -1, 0, 0, 1, 3, 2005000]), (24, [0, 3], []), (20, [3, 10], [30, 8, 1, 1, 170, -1, 0, 0]), (102, [10], [7770675568902916283677847627294075626569627356208558085007249638955617140820833992704, 165170]), (23, [10, 2, 5], [5, 1, -1, -36]), (23, [9, 2, 5], [0, 1, -1, -36]), (102, [9], [7770675568902916283677847627294075626569627356208558085007249638955617140820833992704, 165170]), (23, [9, 2, 5], [0, 1, -1, -36]), (7, [7, 4], [0]), (7, [5, 6], [2])], [], [(0, 0, 99999998, [])], [(20, [3, 14], [30, 0, 1, 1, 170, -1, 0, 0]), (23, [14, 2, 5], [34, 1, -1, -36])], [], [(7, 4, 0, 0), (5, 6, -4294967296, -1)])
theorem oo_Mo_writeGroup_at_l2_4 {kA : Nat → ClassId} : or_ok PRD kA GG o_Mo_writeGroup_at_l2_4 := by
  refine or_mk fun A ta ws vs hD hth hl => ?_
  intro t0 r0 t2 k2 t3 r3 t4 k4 t5 k5 t6 k6 t7 k7 t9 k9 t10 k10 t11 k11 t12 k12 d0 d1 f0 f1 f2 f3 f4 f5 f6 f7 f8 ta1 w1 le1 s1 f10 f11 ta2 w2 le2 s2 f13 f14 f15
  replace f0 := shm_24 f0
  replace f1 := shm_718 f1
  replace f2 := shm_1909 f2
  replace f3 := shm_1908 f3
  replace f4 := shm_585 f4
  replace f5 := shm_135 f5
  replace f6 := shm_136 f6
  replace f7 := shm_5 f7
  replace f8 := shm_172 f8
  replace f10 := shm_1909 f10
  replace f11 := shm_1908 f11
  replace f13 := shm_1908 f13
  replace f14 := shm_37 f14
  replace f15 := shm_6 f15
  have q3 : n_v vs 3 = n_v vs 0 := f7.symm
  simp only [q3] at f1 f4 f5 f6 f8
  have cr_0_2 := fdq_12 hD hth r0
  have br_0_2_F5_0_0 : w_ei ws (w_ar ws (n_v vs 0) 2) (w_fi ws (n_v vs 0) 5 + 0) = w_el ws (w_ar ws (n_v vs 0) 2) (w_fi ws (n_v vs 0) 5 + 0).toNat := rfl
  have kz_0_170 := fdq_13 hD hth r0
  have kv0 := fdq_13 hD hth r0
  obtain ⟨x, ex, hx⟩ := iv_ex (ta := ta) (lo := 0) (hi := 99999998) (z := w_fi ws (n_v vs 0) 170) (by omega) (by omega) (by omega) (by omega)
  have ex2 : v_iv (Value.int x) = w_fi ws (n_v vs 0) 170 := ex
  have ex3 : 0 ≤ v_iv (Value.int x) ∧ v_iv (Value.int x) ≤ 99999998 := tv_rng hx
  have e_2 : n_v (vs ++ [Value.int x]) 2 = n_v vs 2 := n_v_old (by rw [hl]; decide)
  have e_3 : n_v (vs ++ [Value.int x]) 3 = n_v vs 3 := n_v_old (by rw [hl]; decide)
  have e_5 : n_v (vs ++ [Value.int x]) 5 = n_v vs 5 := n_v_old (by rw [hl]; decide)
  have e_14 : n_v (vs ++ [Value.int x]) 14 = Value.int x := n_v_new hl
  have nf0 : fc_1 PRD (20, [3, 14], [30, 0, 1, 1, 170, -1, 0, 0]) ws (vs ++ [Value.int x]) := by
    refine ⟨nf_inA hl rfl, sgq_140 ?_⟩
    · show 1 * w_fi ws (n_v (vs ++ [Value.int x]) 3) 170 + ((-1) * v_iv (n_v (vs ++ [Value.int x]) 14) + 0) ≤ 0
      simp only [e_3, e_14, q3]
      exact vc_Mo_writeGroup_at_l2_4_0 (v_iv (n_v vs 2)) (v_iv (n_v vs 4)) (v_iv (n_v vs 5)) (v_iv (n_v vs 6)) (v_iv (n_v vs 7)) (v_iv (n_v vs 9)) (v_iv (n_v vs 10)) (v_iv (n_v vs 11)) (v_iv (n_v vs 12)) (w_ei ws (w_ar ws (n_v vs 0) 2)) (w_fi ws (n_v vs 0) 5) (w_fi ws (n_v vs 0) 170) (v_iv (Value.int x)) k2 k4 k5 k6 k7 k9 k10 k11 k12 d0 d1 f0 f1 f2 f3 f4 f5 f6 f8 f10 f11 f13 f14 f15 kz_0_170 ex2 ex3
  have nf1 : fc_1 PRD (23, [14, 2, 5], [34, 1, -1, -36]) ws (vs ++ [Value.int x]) := by
    refine ⟨nf_inA hl rfl, sgq_1910 ?_⟩
    · show 1 * v_iv (n_v (vs ++ [Value.int x]) 14) + ((-1) * v_iv (n_v (vs ++ [Value.int x]) 2) + ((-36) * v_iv (n_v (vs ++ [Value.int x]) 5) + 0)) ≤ 34
      simp only [e_2, e_5, e_14]
      exact vc_Mo_writeGroup_at_l2_4_1 (v_iv (n_v vs 2)) (v_iv (n_v vs 4)) (v_iv (n_v vs 5)) (v_iv (n_v vs 6)) (v_iv (n_v vs 7)) (v_iv (n_v vs 9)) (v_iv (n_v vs 10)) (v_iv (n_v vs 11)) (v_iv (n_v vs 12)) (w_ei ws (w_ar ws (n_v vs 0) 2)) (w_fi ws (n_v vs 0) 5) (w_fi ws (n_v vs 0) 170) (v_iv (Value.int x)) k2 k4 k5 k6 k7 k9 k10 k11 k12 d0 d1 f0 f1 f2 f3 f4 f5 f6 f8 f10 f11 f13 f14 f15 kz_0_170 ex2 ex3
  exact ⟨(fun _ h => (by cases h)), [Value.int x], ag_one hx, List.forall_mem_cons.mpr ⟨⟨show (20 : Nat) < 100 from by decide, nf0⟩, List.forall_mem_cons.mpr ⟨⟨show (23 : Nat) < 100 from by decide, nf1⟩, (fun _ h => (by cases h))⟩⟩, (fun _ h => (by cases h))⟩
set_option maxHeartbeats 4000000 in
theorem vc_Mo_writeGroup_at_l2_5_0 (x2 : Int) (x4 : Int) (x5 : Int) (x6 : Int) (x7 : Int) (x9 : Int) (x10 : Int) (x11 : Int) (x12 : Int) (x14 : Int) (x15 : Int) (all_0 : Int → Int) (r_0 : Int) (texts_0 : Int) (k2 : 0 ≤ x2 ∧ x2 ≤ 99712161) (k4 : 2 ≤ x4 ∧ x4 ≤ 7) (k5 : 0 ≤ x5 ∧ x5 ≤ 23) (k6 : 1 ≤ x6 ∧ x6 ≤ 24) (k7 : 2 ≤ x7 ∧ x7 ≤ 7) (k9 : 0 ≤ x9 ∧ x9 ≤ 99999995) (k10 : 0 ≤ x10 ∧ x10 ≤ 99999992) (k11 : 0 ≤ x11 ∧ x11 ≤ 1) (k12 : 1 ≤ x12 ∧ x12 ≤ 1) (k14 : 0 ≤ x14 ∧ x14 ≤ 99999998) (k15 : 1 ≤ x15 ∧ x15 ≤ 24) (d0 : x5 + 1 ≤ x15 ∧ x15 ≤ x5 + 1) (d1 : x6 + (-4294967296) ≤ x15 ∧ x15 ≤ x6 + 0) (d2 : x4 + 0 ≤ x7 ∧ x7 ≤ x4 + 0) (d3 : x6 + (-4294967296) ≤ x5 ∧ x5 ≤ x6 + (-1)) (f0 : x15 = x5 + 1) (f1 : 1 * x14 + ((-1) * x2 + ((-36) * x5 + 0)) ≤ 34) (f2 : x11 = all_0 (((r_0 + 219) + x5))) (f3 : 1 * x10 + ((-1) * x2 + ((-36) * x5 + 0)) ≤ 5) (f4 : 1 * x9 + ((-1) * x2 + ((-36) * x5 + 0)) ≤ 0) (f5 : x7 = all_0 (((r_0 + 243) + x5))) (f6 : 1 * x6 + ((-1) * all_0 (r_0 + 0) + 0) ≤ 0) (f7 : (-1) * x6 + (1 * all_0 (r_0 + 0) + 0) ≤ 0) (f9 : 1 * texts_0 + ((-1) * x14 + 0) ≤ 2) (f11 : 1 * x14 + ((-1) * x2 + ((-36) * x5 + 0)) ≤ 34) (f12 : x11 ≤ x12) (f13 : 1 * x10 + ((-1) * x2 + ((-36) * x5 + 0)) ≤ 5) (f14 : 1 * x9 + ((-1) * x2 + ((-36) * x5 + 0)) ≤ 0) (f16 : 1 * x10 + ((-1) * x2 + ((-36) * x5 + 0)) ≤ 5) (f17 : 1 * x9 + ((-1) * x2 + ((-36) * x5 + 0)) ≤ 0) (f19 : 1 * x9 + ((-1) * x2 + ((-36) * x5 + 0)) ≤ 0) (f20 : x7 = x4) (f21 : x5 < x6) (kz_0_170 : 0 ≤ texts_0 ∧ texts_0 ≤ 100000000) : 1 * texts_0 + ((-1) * x2 + ((-36) * x15 + 0)) ≤ 0 := by
  first | assumption | omega | grind
def o_Mo_writeGroup_at_l2_5 : or_T := (2, 16, [(0, (2, 0, 0, [165])), (2, (0, 0, 99712161, [])), (4, (0, 2, 7, [])), (5, (0, 0, 23, [])), (6, (0, 1, 24, [])), (7, (0, 2, 7, [])), (9, (0, 0, 99999995, [])), (10, (0, 0, 99999992, [])), (11, (0, 0, 1, [])), (12, (0, 1, 1, [])), (14, (0, 0, 99999998, [])), (15, (0, 1, 24, []))], [(6, [15, 5], [1]), (23, [14, 2, 5], [34, 1, -1, -36]), (20, [11, 3, 5], [50, 1, 1, 1005, 1002, 1, 2, 1, 0, 3, 1, 2, 4, 7, 4, 3, 2, 1, 5, 0, 219, 1, 2]), (23, [10, 2, 5], [5, 1, -1, -36]), (23, [9, 2, 5], [0, 1, -1, -36]), (20, [7, 3, 5], [50, 1, 1, 1005, 1002, 1, 2, 1, 0, 3, 1, 2, 4, 7, 4, 3, 2, 1, 5, 0, 243, 1, 2]), (20, [6, 3], [30, 0, 1, 0, 0, -1, 3, 2005000]), (20, [6, 3], [30, 0, -1, 0, 0, 1, 3, 2005000]), (24, [0, 3], []), (20, [3, 14], [30, 2, 1, 1, 170, -1, 0, 0]), (102, [14], [7770675568902916283677847627294075626569627356208558085007249638955617140820833992704, 165170]), (23, [14, 2, 5], [34, 1, -1, -36]), (7, [11, 12], [5]), (23, [10, 2, 5], [5, 1, -1, -36]), (23, [9, 2, 5], [0, 1, -1, -36]), (102, [10], [7770675568902916283677847627294075626569627356208558085007249638955617140820833992704, 165170]), (23, [10, 2, 5], [5, 1, -1, -36]), (23, [9, 2, 5], [0, 1, -1, -36]), (102, [9], [7770675568902916283677847627294075626569627356208558085007249638955617140820833992704, 165170]), (23, [9, 2, 5], [0, 1, -1, -36]), (7, [7, 4], [0]), (7, [5, 6], [2])], [], [], [(20, [3, 2, 15], [30, 0, 1, 1, 170, -1, 0, 0, -36, 0, 0])], [], [(15, 5, 1, 1), (15, 6, -4294967296, 0), (7, 4, 0, 0), (5, 6, -4294967296, -1)])
theorem oo_Mo_writeGroup_at_l2_5 {kA : Nat → ClassId} : or_ok PRD kA GG o_Mo_writeGroup_at_l2_5 := by
  refine or_mk fun A ta ws vs hD hth hl => ?_
  intro t0 r0 t2 k2 t4 k4 t5 k5 t6 k6 t7 k7 t9 k9 t10 k10 t11 k11 t12 k12 t14 k14 t15 k15 d0 d1 d2 d3 f0 f1 f2 f3 f4 f5 f6 f7 f8 f9 ta1 w1 le1 s1 f11 f12 f13 f14 ta2 w2 le2 s2 f16 f17 ta3 w3 le3 s3 f19 f20 f21
  replace f0 := shm_4 f0
  replace f1 := shm_1910 f1
  replace f2 := shm_718 f2
  replace f3 := shm_1909 f3
  replace f4 := shm_1908 f4
  replace f5 := shm_585 f5
  replace f6 := shm_135 f6
  replace f7 := shm_136 f7
  replace f8 := shm_5 f8
  replace f9 := shm_234 f9
  replace f11 := shm_1910 f11
  replace f12 := shm_24 f12
  replace f13 := shm_1909 f13
  replace f14 := shm_1908 f14
  replace f16 := shm_1909 f16
  replace f17 := shm_1908 f17
  replace f19 := shm_1908 f19
  replace f20 := shm_37 f20
  replace f21 := shm_6 f21
  have q3 : n_v vs 3 = n_v vs 0 := f8.symm
  simp only [q3] at f2 f5 f6 f7 f9
  have kz_0_170 := fdq_13 hD hth r0
  have nf0 : fc_1 PRD (20, [3, 2, 15], [30, 0, 1, 1, 170, -1, 0, 0, -36, 0, 0]) ws (vs) := by
    refine ⟨nf_in hl rfl, sgq_1906 ?_⟩
    · show 1 * w_fi ws (n_v vs 3) 170 + ((-1) * v_iv (n_v vs 2) + ((-36) * v_iv (n_v vs 15) + 0)) ≤ 0
      rw [q3]
      exact vc_Mo_writeGroup_at_l2_5_0 (v_iv (n_v vs 2)) (v_iv (n_v vs 4)) (v_iv (n_v vs 5)) (v_iv (n_v vs 6)) (v_iv (n_v vs 7)) (v_iv (n_v vs 9)) (v_iv (n_v vs 10)) (v_iv (n_v vs 11)) (v_iv (n_v vs 12)) (v_iv (n_v vs 14)) (v_iv (n_v vs 15)) (w_ei ws (w_ar ws (n_v vs 0) 2)) (w_fi ws (n_v vs 0) 5) (w_fi ws (n_v vs 0) 170) k2 k4 k5 k6 k7 k9 k10 k11 k12 k14 k15 d0 d1 d2 d3 f0 f1 f2 f3 f4 f5 f6 f7 f9 f11 f12 f13 f14 f16 f17 f19 f20 f21 kz_0_170
  refine ⟨(fun _ h => (by cases h)), [], trivial, ?_, (fun _ h => (by cases h))⟩
  rw [List.append_nil]
  exact List.forall_mem_cons.mpr ⟨⟨show (20 : Nat) < 100 from by decide, nf0⟩, (fun _ h => (by cases h))⟩
set_option maxHeartbeats 4000000 in
theorem vc_Mo_writeGroup_at_l2_6_0 (x2 : Int) (x4 : Int) (x5 : Int) (x6 : Int) (x7 : Int) (x9 : Int) (x10 : Int) (x11 : Int) (x12 : Int) (all_0 : Int → Int) (r_0 : Int) (texts_0 : Int) (gx : Int) (k2 : 0 ≤ x2 ∧ x2 ≤ 99712161) (k4 : 2 ≤ x4 ∧ x4 ≤ 7) (k5 : 0 ≤ x5 ∧ x5 ≤ 23) (k6 : 1 ≤ x6 ∧ x6 ≤ 24) (k7 : 2 ≤ x7 ∧ x7 ≤ 7) (k9 : 0 ≤ x9 ∧ x9 ≤ 99999995) (k10 : 0 ≤ x10 ∧ x10 ≤ 99999992) (k11 : 2 ≤ x11 ∧ x11 ≤ 99) (k12 : 1 ≤ x12 ∧ x12 ≤ 1) (d0 : x4 + 0 ≤ x7 ∧ x7 ≤ x4 + 0) (d1 : x6 + (-4294967296) ≤ x5 ∧ x5 ≤ x6 + (-1)) (f0 : x12 < x11) (f1 : x11 = all_0 (((r_0 + 219) + x5))) (f2 : 1 * x10 + ((-1) * x2 + ((-36) * x5 + 0)) ≤ 5) (f3 : 1 * x9 + ((-1) * x2 + ((-36) * x5 + 0)) ≤ 0) (f4 : x7 = all_0 (((r_0 + 243) + x5))) (f5 : 1 * x6 + ((-1) * all_0 (r_0 + 0) + 0) ≤ 0) (f6 : (-1) * x6 + (1 * all_0 (r_0 + 0) + 0) ≤ 0) (f8 : 1 * texts_0 + ((-1) * x10 + 0) ≤ 8) (f10 : 1 * x10 + ((-1) * x2 + ((-36) * x5 + 0)) ≤ 5) (f11 : 1 * x9 + ((-1) * x2 + ((-36) * x5 + 0)) ≤ 0) (f13 : 1 * x9 + ((-1) * x2 + ((-36) * x5 + 0)) ≤ 0) (f14 : x7 = x4) (f15 : x5 < x6) (kz_0_170 : 0 ≤ texts_0 ∧ texts_0 ≤ 100000000) (ex2 : gx = texts_0) (ex3 : 0 ≤ gx ∧ gx ≤ 99999993) : 1 * texts_0 + ((-1) * gx + 0) ≤ 0 := by
  first | assumption | omega | grind
set_option maxHeartbeats 4000000 in
theorem vc_Mo_writeGroup_at_l2_6_1 (x2 : Int) (x4 : Int) (x5 : Int) (x6 : Int) (x7 : Int) (x9 : Int) (x10 : Int) (x11 : Int) (x12 : Int) (all_0 : Int → Int) (r_0 : Int) (texts_0 : Int) (gx : Int) (k2 : 0 ≤ x2 ∧ x2 ≤ 99712161) (k4 : 2 ≤ x4 ∧ x4 ≤ 7) (k5 : 0 ≤ x5 ∧ x5 ≤ 23) (k6 : 1 ≤ x6 ∧ x6 ≤ 24) (k7 : 2 ≤ x7 ∧ x7 ≤ 7) (k9 : 0 ≤ x9 ∧ x9 ≤ 99999995) (k10 : 0 ≤ x10 ∧ x10 ≤ 99999992) (k11 : 2 ≤ x11 ∧ x11 ≤ 99) (k12 : 1 ≤ x12 ∧ x12 ≤ 1) (d0 : x4 + 0 ≤ x7 ∧ x7 ≤ x4 + 0) (d1 : x6 + (-4294967296) ≤ x5 ∧ x5 ≤ x6 + (-1)) (f0 : x12 < x11) (f1 : x11 = all_0 (((r_0 + 219) + x5))) (f2 : 1 * x10 + ((-1) * x2 + ((-36) * x5 + 0)) ≤ 5) (f3 : 1 * x9 + ((-1) * x2 + ((-36) * x5 + 0)) ≤ 0) (f4 : x7 = all_0 (((r_0 + 243) + x5))) (f5 : 1 * x6 + ((-1) * all_0 (r_0 + 0) + 0) ≤ 0) (f6 : (-1) * x6 + (1 * all_0 (r_0 + 0) + 0) ≤ 0) (f8 : 1 * texts_0 + ((-1) * x10 + 0) ≤ 8) (f10 : 1 * x10 + ((-1) * x2 + ((-36) * x5 + 0)) ≤ 5) (f11 : 1 * x9 + ((-1) * x2 + ((-36) * x5 + 0)) ≤ 0) (f13 : 1 * x9 + ((-1) * x2 + ((-36) * x5 + 0)) ≤ 0) (f14 : x7 = x4) (f15 : x5 < x6) (kz_0_170 : 0 ≤ texts_0 ∧ texts_0 ≤ 100000000) (ex2 : gx = texts_0) (ex3 : 0 ≤ gx ∧ gx ≤ 99999993) : 1 * gx + ((-1) * x2 + ((-36) * x5 + 0)) ≤ 13 := by
  first | assumption | omega | grind
def o_Mo_writeGroup_at_l2_6 : or_T := (47, 14, [(0, (2, 0, 0, [165])), (2, (0, 0, 99712161, [])), (3, (2, 0, 0, [165])), (4, (0, 2, 7, [])), (5, (0, 0, 23, [])), (6, (0, 1, 24, [])), (7, (0, 2, 7, [])), (9, (0, 0, 99999995, [])), (10, (0, 0, 99999992, [])), (11, (0, 2, 99, [])), (12, (0, 1, 1, []))], [(7, [11, 12], [4]), (20, [11, 3, 5], [50, 1, 1, 1005, 1002, 1, 2, 1, 0, 3, 1, 2, 4, 7, 4, 3, 2, 1, 5, 0, 219, 1, 2]), (23, [10, 2, 5], [5, 1, -1, -36]), (23, [9, 2, 5], [0, 1, -1, -36]), (20, [7, 3, 5], [50, 1, 1, 1005, 1002, 1, 2, 1, 0, 3, 1, 2, 4, 7, 4, 3, 2, 1, 5, 0, 243, 1, 2]), (20, [6, 3], [30, 0, 1, 0, 0, -1, 3, 2005000]), (20, [6, 3], [30, 0, -1, 0, 0, 1, 3, 2005000]), (24, [0, 3], []), (20, [3, 10], [30, 8, 1, 1, 170, -1, 0, 0]), (102, [10], [7770675568902916283677847627294075626569627356208558085007249638955617140820833992704, 165170]), (23, [10, 2, 5], [5, 1, -1, -36]), (23, [9, 2, 5], [0, 1, -1, -36]), (102, [9], [7770675568902916283677847627294075626569627356208558085007249638955617140820833992704, 165170]), (23, [9, 2, 5], [0, 1, -1, -36]), (7, [7, 4], [0]), (7, [5, 6], [2])], [], [(0, 0, 99999993, [])], [(20, [3, 14], [30, 0, 1, 1, 170, -1, 0, 0]), (23, [14, 2, 5], [13, 1, -1, -36])], [], [(7, 4, 0, 0), (5, 6, -4294967296, -1)])
theorem oo_Mo_writeGroup_at_l2_6 {kA : Nat → ClassId} : or_ok PRD kA GG o_Mo_writeGroup_at_l2_6 := by
  refine or_mk fun A ta ws vs hD hth hl => ?_
  intro t0 r0 t2 k2 t3 r3 t4 k4 t5 k5 t6 k6 t7 k7 t9 k9 t10 k10 t11 k11 t12 k12 d0 d1 f0 f1 f2 f3 f4 f5 f6 f7 f8 ta1 w1 le1 s1 f10 f11 ta2 w2 le2 s2 f13 f14 f15
  replace f0 := shm_21 f0
  replace f1 := shm_718 f1
  replace f2 := shm_1909 f2
  replace f3 := shm_1908 f3
  replace f4 := shm_585 f4
  replace f5 := shm_135 f5
  replace f6 := shm_136 f6
  replace f7 := shm_5 f7
  replace f8 := shm_172 f8
  replace f10 := shm_1909 f10
  replace f11 := shm_1908 f11
  replace f13 := shm_1908 f13
  replace f14 := shm_37 f14
  replace f15 := shm_6 f15
  have q3 : n_v vs 3 = n_v vs 0 := f7.symm
  simp only [q3] at f1 f4 f5 f6 f8
  have cr_0_2 := fdq_12 hD hth r0
  have br_0_2_F5_0_0 : w_ei ws (w_ar ws (n_v vs 0) 2) (w_fi ws (n_v vs 0) 5 + 0) = w_el ws (w_ar ws (n_v vs 0) 2) (w_fi ws (n_v vs 0) 5 + 0).toNat := rfl
  have kz_0_170 := fdq_13 hD hth r0
  have kv0 := fdq_13 hD hth r0
  obtain ⟨x, ex, hx⟩ := iv_ex (ta := ta) (lo := 0) (hi := 99999993) (z := w_fi ws (n_v vs 0) 170) (by omega) (by omega) (by omega) (by omega)
  have ex2 : v_iv (Value.int x) = w_fi ws (n_v vs 0) 170 := ex
  have ex3 : 0 ≤ v_iv (Value.int x) ∧ v_iv (Value.int x) ≤ 99999993 := tv_rng hx
  have e_2 : n_v (vs ++ [Value.int x]) 2 = n_v vs 2 := n_v_old (by rw [hl]; decide)
  have e_3 : n_v (vs ++ [Value.int x]) 3 = n_v vs 3 := n_v_old (by rw [hl]; decide)
  have e_5 : n_v (vs ++ [Value.int x]) 5 = n_v vs 5 := n_v_old (by rw [hl]; decide)
  have e_14 : n_v (vs ++ [Value.int x]) 14 = Value.int x := n_v_new hl
  have nf0 : fc_1 PRD (20, [3, 14], [30, 0, 1, 1, 170, -1, 0, 0]) ws (vs ++ [Value.int x]) := by
    refine ⟨nf_inA hl rfl, sgq_140 ?_⟩
    · show 1 * w_fi ws (n_v (vs ++ [Value.int x]) 3) 170 + ((-1) * v_iv (n_v (vs ++ [Value.int x]) 14) + 0) ≤ 0
      simp only [e_3, e_14, q3]
      exact vc_Mo_writeGroup_at_l2_6_0 (v_iv (n_v vs 2)) (v_iv (n_v vs 4)) (v_iv (n_v vs 5)) (v_iv (n_v vs 6)) (v_iv (n_v vs 7)) (v_iv (n_v vs 9)) (v_iv (n_v vs 10)) (v_iv (n_v vs 11)) (v_iv (n_v vs 12)) (w_ei ws (w_ar ws (n_v vs 0) 2)) (w_fi ws (n_v vs 0) 5) (w_fi ws (n_v vs 0) 170) (v_iv (Value.int x)) k2 k4 k5 k6 k7 k9 k10 k11 k12 d0 d1 f0 f1 f2 f3 f4 f5 f6 f8 f10 f11 f13 f14 f15 kz_0_170 ex2 ex3
  have nf1 : fc_1 PRD (23, [14, 2, 5], [13, 1, -1, -36]) ws (vs ++ [Value.int x]) := by
    refine ⟨nf_inA hl rfl, sgq_1911 ?_⟩
    · show 1 * v_iv (n_v (vs ++ [Value.int x]) 14) + ((-1) * v_iv (n_v (vs ++ [Value.int x]) 2) + ((-36) * v_iv (n_v (vs ++ [Value.int x]) 5) + 0)) ≤ 13
      simp only [e_2, e_5, e_14]
      exact vc_Mo_writeGroup_at_l2_6_1 (v_iv (n_v vs 2)) (v_iv (n_v vs 4)) (v_iv (n_v vs 5)) (v_iv (n_v vs 6)) (v_iv (n_v vs 7)) (v_iv (n_v vs 9)) (v_iv (n_v vs 10)) (v_iv (n_v vs 11)) (v_iv (n_v vs 12)) (w_ei ws (w_ar ws (n_v vs 0) 2)) (w_fi ws (n_v vs 0) 5) (w_fi ws (n_v vs 0) 170) (v_iv (Value.int x)) k2 k4 k5 k6 k7 k9 k10 k11 k12 d0 d1 f0 f1 f2 f3 f4 f5 f6 f8 f10 f11 f13 f14 f15 kz_0_170 ex2 ex3
  exact ⟨(fun _ h => (by cases h)), [Value.int x], ag_one hx, List.forall_mem_cons.mpr ⟨⟨show (20 : Nat) < 100 from by decide, nf0⟩, List.forall_mem_cons.mpr ⟨⟨show (23 : Nat) < 100 from by decide, nf1⟩, (fun _ h => (by cases h))⟩⟩, (fun _ h => (by cases h))⟩
set_option maxHeartbeats 4000000 in
theorem vc_Mo_writeGroup_at_l2_7_0 (x2 : Int) (x4 : Int) (x5 : Int) (x6 : Int) (x7 : Int) (x9 : Int) (x10 : Int) (x11 : Int) (x12 : Int) (x14 : Int) (x15 : Int) (all_0 : Int → Int) (r_0 : Int) (texts_0 : Int) (gx : Int) (k2 : 0 ≤ x2 ∧ x2 ≤ 99712161) (k4 : 2 ≤ x4 ∧ x4 ≤ 7) (k5 : 0 ≤ x5 ∧ x5 ≤ 23) (k6 : 1 ≤ x6 ∧ x6 ≤ 24) (k7 : 2 ≤ x7 ∧ x7 ≤ 7) (k9 : 0 ≤ x9 ∧ x9 ≤ 99999995) (k10 : 0 ≤ x10 ∧ x10 ≤ 99999992) (k11 : 2 ≤ x11 ∧ x11 ≤ 99) (k12 : 1 ≤ x12 ∧ x12 ≤ 1) (k14 : 0 ≤ x14 ∧ x14 ≤ 99999993) (k15 : 0 ≤ x15 ∧ x15 ≤ 99) (d0 : x4 + 0 ≤ x7 ∧ x7 ≤ x4 + 0) (d1 : x6 + (-4294967296) ≤ x5 ∧ x5 ≤ x6 + (-1)) (f0 : x15 = all_0 (((r_0 + 219) + x5))) (f1 : 1 * x14 + ((-1) * x2 + ((-36) * x5 + 0)) ≤ 13) (f2 : x11 = all_0 (((r_0 + 219) + x5))) (f3 : 1 * x10 + ((-1) * x2 + ((-36) * x5 + 0)) ≤ 5) (f4 : 1 * x9 + ((-1) * x2 + ((-36) * x5 + 0)) ≤ 0) (f5 : x7 = all_0 (((r_0 + 243) + x5))) (f6 : 1 * x6 + ((-1) * all_0 (r_0 + 0) + 0) ≤ 0) (f7 : (-1) * x6 + (1 * all_0 (r_0 + 0) + 0) ≤ 0) (f9 : 1 * texts_0 + ((-1) * x14 + 0) ≤ 7) (f11 : 1 * x14 + ((-1) * x2 + ((-36) * x5 + 0)) ≤ 13) (f12 : x12 < x11) (f13 : 1 * x10 + ((-1) * x2 + ((-36) * x5 + 0)) ≤ 5) (f14 : 1 * x9 + ((-1) * x2 + ((-36) * x5 + 0)) ≤ 0) (f16 : 1 * x10 + ((-1) * x2 + ((-36) * x5 + 0)) ≤ 5) (f17 : 1 * x9 + ((-1) * x2 + ((-36) * x5 + 0)) ≤ 0) (f19 : 1 * x9 + ((-1) * x2 + ((-36) * x5 + 0)) ≤ 0) (f20 : x7 = x4) (f21 : x5 < x6) (kz_0_170 : 0 ≤ texts_0 ∧ texts_0 ≤ 100000000) (ex2 : gx = texts_0) (ex3 : 0 ≤ gx ∧ gx ≤ 99999987) : 1 * texts_0 + ((-1) * gx + 0) ≤ 0 := by
  first | assumption | omega | grind
set_option maxHeartbeats 4000000 in
theorem vc_Mo_writeGroup_at_l2_7_1 (x2 : Int) (x4 : Int) (x5 : Int) (x6 : Int) (x7 : Int) (x9 : Int) (x10 : Int) (x11 : Int) (x12 : Int) (x14 : Int) (x15 : Int) (all_0 : Int → Int) (r_0 : Int) (texts_0 : Int) (gx : Int) (k2 : 0 ≤ x2 ∧ x2 ≤ 99712161) (k4 : 2 ≤ x4 ∧ x4 ≤ 7) (k5 : 0 ≤ x5 ∧ x5 ≤ 23) (k6 : 1 ≤ x6 ∧ x6 ≤ 24) (k7 : 2 ≤ x7 ∧ x7 ≤ 7) (k9 : 0 ≤ x9 ∧ x9 ≤ 99999995) (k10 : 0 ≤ x10 ∧ x10 ≤ 99999992) (k11 : 2 ≤ x11 ∧ x11 ≤ 99) (k12 : 1 ≤ x12 ∧ x12 ≤ 1) (k14 : 0 ≤ x14 ∧ x14 ≤ 99999993) (k15 : 0 ≤ x15 ∧ x15 ≤ 99) (d0 : x4 + 0 ≤ x7 ∧ x7 ≤ x4 + 0) (d1 : x6 + (-4294967296) ≤ x5 ∧ x5 ≤ x6 + (-1)) (f0 : x15 = all_0 (((r_0 + 219) + x5))) (f1 : 1 * x14 + ((-1) * x2 + ((-36) * x5 + 0)) ≤ 13) (f2 : x11 = all_0 (((r_0 + 219) + x5))) (f3 : 1 * x10 + ((-1) * x2 + ((-36) * x5 + 0)) ≤ 5) (f4 : 1 * x9 + ((-1) * x2 + ((-36) * x5 + 0)) ≤ 0) (f5 : x7 = all_0 (((r_0 + 243) + x5))) (f6 : 1 * x6 + ((-1) * all_0 (r_0 + 0) + 0) ≤ 0) (f7 : (-1) * x6 + (1 * all_0 (r_0 + 0) + 0) ≤ 0) (f9 : 1 * texts_0 + ((-1) * x14 + 0) ≤ 7) (f11 : 1 * x14 + ((-1) * x2 + ((-36) * x5 + 0)) ≤ 13) (f12 : x12 < x11) (f13 : 1 * x10 + ((-1) * x2 + ((-36) * x5 + 0)) ≤ 5) (f14 : 1 * x9 + ((-1) * x2 + ((-36) * x5 + 0)) ≤ 0) (f16 : 1 * x10 + ((-1) * x2 + ((-36) * x5 + 0)) ≤ 5) (f17 : 1 * x9 + ((-1) * x2 + ((-36) * x5 + 0)) ≤ 0) (f19 : 1 * x9 + ((-1) * x2 + ((-36) * x5 + 0)) ≤ 0) (f20 : x7 = x4) (f21 : x5 < x6) (kz_0_170 : 0 ≤ texts_0 ∧ texts_0 ≤ 100000000) (ex2 : gx = texts_0) (ex3 : 0 ≤ gx ∧ gx ≤ 99999987) : 1 * gx + ((-1) * x2 + ((-36) * x5 + 0)) ≤ 20 := by
  first | assumption | omega | grind
def o_Mo_writeGroup_at_l2_7 : or_T := (56, 16, [(0, (2, 0, 0, [165])), (2, (0, 0, 99712161, [])), (3, (2, 0, 0, [165])), (4, (0, 2, 7, [])), (5, (0, 0, 23, [])), (6, (0, 1, 24, [])), (7, (0, 2, 7, [])), (9, (0, 0, 99999995, [])), (10, (0, 0, 99999992, [])), (11, (0, 2, 99, [])), (12, (0, 1, 1, [])), (14, (0, 0, 99999993, [])), (15, (0, 0, 99, []))], [(20, [15, 3, 5], [50, 1, 1, 1005, 1002, 1, 2, 1, 0, 3, 1, 2, 4, 7, 4, 3, 2, 1, 5, 0, 219, 1, 2]), (23, [14, 2, 5], [13, 1, -1, -36]), (20, [11, 3, 5], [50, 1, 1, 1005, 1002, 1, 2, 1, 0, 3, 1, 2, 4, 7, 4, 3, 2, 1, 5, 0, 219, 1, 2]), (23, [10, 2, 5], [5, 1, -1, -36]), (23, [9, 2, 5], [0, 1, -1, -36]), (20, [7, 3, 5], [50, 1, 1, 1005, 1002, 1, 2, 1, 0, 3, 1, 2, 4, 7, 4, 3, 2, 1, 5, 0, 243, 1, 2]), (20, [6, 3], [30, 0, 1, 0, 0, -1, 3, 2005000]), (20, [6, 3], [30, 0, -1, 0, 0, 1, 3, 2005000]), (24, [0, 3], []), (20, [3, 14], [30, 7, 1, 1, 170, -1, 0, 0]), (102, [14], [7770675568902916283677847627294075626569627356208558085007249638955617140820833992704, 165170]), (23, [14, 2, 5], [13, 1, -1, -36]), (7, [11, 12], [4]), (23, [10, 2, 5], [5, 1, -1, -36]), (23, [9, 2, 5], [0, 1, -1, -36]), (102, [10], [7770675568902916283677847627294075626569627356208558085007249638955617140820833992704, 165170]), (23, [10, 2, 5], [5, 1, -1, -36]), (23, [9, 2, 5], [0, 1, -1, -36]), (102, [9], [7770675568902916283677847627294075626569627356208558085007249638955617140820833992704, 165170]), (23, [9, 2, 5], [0, 1, -1, -36]), (7, [7, 4], [0]), (7, [5, 6], [2])], [], [(0, 0, 99999987, [])], [(20, [3, 16], [30, 0, 1, 1, 170, -1, 0, 0]), (23, [16, 2, 5], [20, 1, -1, -36])], [], [(7, 4, 0, 0), (5, 6, -4294967296, -1)])
theorem oo_Mo_writeGroup_at_l2_7 {kA : Nat → ClassId} : or_ok PRD kA GG o_Mo_writeGroup_at_l2_7 := by
  refine or_mk fun A ta ws vs hD hth hl => ?_
  intro t0 r0 t2 k2 t3 r3 t4 k4 t5 k5 t6 k6 t7 k7 t9 k9 t10 k10 t11 k11 t12 k12 t14 k14 t15 k15 d0 d1 f0 f1 f2 f3 f4 f5 f6 f7 f8 f9 ta1 w1 le1 s1 f11 f12 f13 f14 ta2 w2 le2 s2 f16 f17 ta3 w3 le3 s3 f19 f20 f21
  replace f0 := shm_718 f0
  replace f1 := shm_1911 f1
  replace f2 := shm_718 f2
  replace f3 := shm_1909 f3
  replace f4 := shm_1908 f4
  replace f5 := shm_585 f5
  replace f6 := shm_135 f6
  replace f7 := shm_136 f7
  replace f8 := shm_5 f8
  replace f9 := shm_233 f9
  replace f11 := shm_1911 f11
  replace f12 := shm_21 f12
  replace f13 := shm_1909 f13
  replace f14 := shm_1908 f14
  replace f16 := shm_1909 f16
  replace f17 := shm_1908 f17
  replace f19 := shm_1908 f19
  replace f20 := shm_37 f20
  replace f21 := shm_6 f21
  have q3 : n_v vs 3 = n_v vs 0 := f8.symm
  simp only [q3] at f0 f2 f5 f6 f7 f9
  have cr_0_2 := fdq_12 hD hth r0
  have br_0_2_F5_0_0 : w_ei ws (w_ar ws (n_v vs 0) 2) (w_fi ws (n_v vs 0) 5 + 0) = w_el ws (w_ar ws (n_v vs 0) 2) (w_fi ws (n_v vs 0) 5 + 0).toNat := rfl
  have kz_0_170 := fdq_13 hD hth r0
  have kv0 := fdq_13 hD hth r0
  obtain ⟨x, ex, hx⟩ := iv_ex (ta := ta) (lo := 0) (hi := 99999987) (z := w_fi ws (n_v vs 0) 170) (by omega) (by omega) (by omega) (by omega)
  have ex2 : v_iv (Value.int x) = w_fi ws (n_v vs 0) 170 := ex
  have ex3 : 0 ≤ v_iv (Value.int x) ∧ v_iv (Value.int x) ≤ 99999987 := tv_rng hx
  have e_2 : n_v (vs ++ [Value.int x]) 2 = n_v vs 2 := n_v_old (by rw [hl]; decide)
  have e_3 : n_v (vs ++ [Value.int x]) 3 = n_v vs 3 := n_v_old (by rw [hl]; decide)
  have e_5 : n_v (vs ++ [Value.int x]) 5 = n_v vs 5 := n_v_old (by rw [hl]; decide)
  have e_16 : n_v (vs ++ [Value.int x]) 16 = Value.int x := n_v_new hl
  have nf0 : fc_1 PRD (20, [3, 16], [30, 0, 1, 1, 170, -1, 0, 0]) ws (vs ++ [Value.int x]) := by
    refine ⟨nf_inA hl rfl, sgq_140 ?_⟩
    · show 1 * w_fi ws (n_v (vs ++ [Value.int x]) 3) 170 + ((-1) * v_iv (n_v (vs ++ [Value.int x]) 16) + 0) ≤ 0
      simp only [e_3, e_16, q3]
      exact vc_Mo_writeGroup_at_l2_7_0 (v_iv (n_v vs 2)) (v_iv (n_v vs 4)) (v_iv (n_v vs 5)) (v_iv (n_v vs 6)) (v_iv (n_v vs 7)) (v_iv (n_v vs 9)) (v_iv (n_v vs 10)) (v_iv (n_v vs 11)) (v_iv (n_v vs 12)) (v_iv (n_v vs 14)) (v_iv (n_v vs 15)) (w_ei ws (w_ar ws (n_v vs 0) 2)) (w_fi ws (n_v vs 0) 5) (w_fi ws (n_v vs 0) 170) (v_iv (Value.int x)) k2 k4 k5 k6 k7 k9 k10 k11 k12 k14 k15 d0 d1 f0 f1 f2 f3 f4 f5 f6 f7 f9 f11 f12 f13 f14 f16 f17 f19 f20 f21 kz_0_170 ex2 ex3
  have nf1 : fc_1 PRD (23, [16, 2, 5], [20, 1, -1, -36]) ws (vs ++ [Value.int x]) := by
    refine ⟨nf_inA hl rfl, sgq_1912 ?_⟩
    · show 1 * v_iv (n_v (vs ++ [Value.int x]) 16) + ((-1) * v_iv (n_v (vs ++ [Value.int x]) 2) + ((-36) * v_iv (n_v (vs ++ [Value.int x]) 5) + 0)) ≤ 20
      simp only [e_2, e_5, e_16]
      exact vc_Mo_writeGroup_at_l2_7_1 (v_iv (n_v vs 2)) (v_iv (n_v vs 4)) (v_iv (n_v vs 5)) (v_iv (n_v vs 6)) (v_iv (n_v vs 7)) (v_iv (n_v vs 9)) (v_iv (n_v vs 10)) (v_iv (n_v vs 11)) (v_iv (n_v vs 12)) (v_iv (n_v vs 14)) (v_iv (n_v vs 15)) (w_ei ws (w_ar ws (n_v vs 0) 2)) (w_fi ws (n_v vs 0) 5) (w_fi ws (n_v vs 0) 170) (v_iv (Value.int x)) k2 k4 k5 k6 k7 k9 k10 k11 k12 k14 k15 d0 d1 f0 f1 f2 f3 f4 f5 f6 f7 f9 f11 f12 f13 f14 f16 f17 f19 f20 f21 kz_0_170 ex2 ex3
  exact ⟨(fun _ h => (by cases h)), [Value.int x], ag_one hx, List.forall_mem_cons.mpr ⟨⟨show (20 : Nat) < 100 from by decide, nf0⟩, List.forall_mem_cons.mpr ⟨⟨show (23 : Nat) < 100 from by decide, nf1⟩, (fun _ h => (by cases h))⟩⟩, (fun _ h => (by cases h))⟩
set_option maxHeartbeats 4000000 in
theorem vc_Mo_writeGroup_at_l2_8_0 (x2 : Int) (x4 : Int) (x5 : Int) (x6 : Int) (x7 : Int) (x9 : Int) (x10 : Int) (x11 : Int) (x12 : Int) (x14 : Int) (x15 : Int) (x16 : Int) (all_0 : Int → Int) (r_0 : Int) (texts_0 : Int) (gx : Int) (k2 : 0 ≤ x2 ∧ x2 ≤ 99712161) (k4 : 2 ≤ x4 ∧ x4 ≤ 7) (k5 : 0 ≤ x5 ∧ x5 ≤ 23) (k6 : 1 ≤ x6 ∧ x6 ≤ 24) (k7 : 2 ≤ x7 ∧ x7 ≤ 7) (k9 : 0 ≤ x9 ∧ x9 ≤ 99999995) (k10 : 0 ≤ x10 ∧ x10 ≤ 99999992) (k11 : 2 ≤ x11 ∧ x11 ≤ 99) (k12 : 1 ≤ x12 ∧ x12 ≤ 1) (k14 : 0 ≤ x14 ∧ x14 ≤ 99999993) (k15 : 0 ≤ x15 ∧ x15 ≤ 99) (k16 : 0 ≤ x16 ∧ x16 ≤ 99999987) (d0 : x4 + 0 ≤ x7 ∧ x7 ≤ x4 + 0) (d1 : x6 + (-4294967296) ≤ x5 ∧ x5 ≤ x6 + (-1)) (f0 : 1 * x16 + ((-1) * x2 + ((-36) * x5 + 0)) ≤ 20) (f1 : x15 = all_0 (((r_0 + 219) + x5))) (f2 : 1 * x14 + ((-1) * x2 + ((-36) * x5 + 0)) ≤ 13) (f3 : x11 = all_0 (((r_0 + 219) + x5))) (f4 : 1 * x10 + ((-1) * x2 + ((-36) * x5 + 0)) ≤ 5) (f5 : 1 * x9 + ((-1) * x2 + ((-36) * x5 + 0)) ≤ 0) (f6 : x7 = all_0 (((r_0 + 243) + x5))) (f7 : 1 * x6 + ((-1) * all_0 (r_0 + 0) + 0) ≤ 0) (f8 : (-1) * x6 + (1 * all_0 (r_0 + 0) + 0) ≤ 0) (f10 : 1 * texts_0 + ((-1) * x16 + 0) ≤ 13) (f12 : 1 * x16 + ((-1) * x2 + ((-36) * x5 + 0)) ≤ 20) (f13 : 1 * x14 + ((-1) * x2 + ((-36) * x5 + 0)) ≤ 13) (f14 : 1 * x10 + ((-1) * x2 + ((-36) * x5 + 0)) ≤ 5) (f15 : 1 * x9 + ((-1) * x2 + ((-36) * x5 + 0)) ≤ 0) (f17 : 1 * x14 + ((-1) * x2 + ((-36) * x5 + 0)) ≤ 13) (f18 : x12 < x11) (f19 : 1 * x10 + ((-1) * x2 + ((-36) * x5 + 0)) ≤ 5) (f20 : 1 * x9 + ((-1) * x2 + ((-36) * x5 + 0)) ≤ 0) (f22 : 1 * x10 + ((-1) * x2 + ((-36) * x5 + 0)) ≤ 5) (f23 : 1 * x9 + ((-1) * x2 + ((-36) * x5 + 0)) ≤ 0) (f25 : 1 * x9 + ((-1) * x2 + ((-36) * x5 + 0)) ≤ 0) (f26 : x7 = x4) (f27 : x5 < x6) (kz_0_170 : 0 ≤ texts_0 ∧ texts_0 ≤ 100000000) (ex2 : gx = texts_0) (ex3 : 0 ≤ gx ∧ gx ≤ 99999999) : 1 * texts_0 + ((-1) * gx + 0) ≤ 0 := by
  first | assumption | omega | grind
set_option maxHeartbeats 4000000 in
theorem vc_Mo_writeGroup_at_l2_8_1 (x2 : Int) (x4 : Int) (x5 : Int) (x6 : Int) (x7 : Int) (x9 : Int) (x10 : Int) (x11 : Int) (x12 : Int) (x14 : Int) (x15 : Int) (x16 : Int) (all_0 : Int → Int) (r_0 : Int) (texts_0 : Int) (gx : Int) (k2 : 0 ≤ x2 ∧ x2 ≤ 99712161) (k4 : 2 ≤ x4 ∧ x4 ≤ 7) (k5 : 0 ≤ x5 ∧ x5 ≤ 23) (k6 : 1 ≤ x6 ∧ x6 ≤ 24) (k7 : 2 ≤ x7 ∧ x7 ≤ 7) (k9 : 0 ≤ x9 ∧ x9 ≤ 99999995) (k10 : 0 ≤ x10 ∧ x10 ≤ 99999992) (k11 : 2 ≤ x11 ∧ x11 ≤ 99) (k12 : 1 ≤ x12 ∧ x12 ≤ 1) (k14 : 0 ≤ x14 ∧ x14 ≤ 99999993) (k15 : 0 ≤ x15 ∧ x15 ≤ 99) (k16 : 0 ≤ x16 ∧ x16 ≤ 99999987) (d0 : x4 + 0 ≤ x7 ∧ x7 ≤ x4 + 0) (d1 : x6 + (-4294967296) ≤ x5 ∧ x5 ≤ x6 + (-1)) (f0 : 1 * x16 + ((-1) * x2 + ((-36) * x5 + 0)) ≤ 20) (f1 : x15 = all_0 (((r_0 + 219) + x5))) (f2 : 1 * x14 + ((-1) * x2 + ((-36) * x5 + 0)) ≤ 13) (f3 : x11 = all_0 (((r_0 + 219) + x5))) (f4 : 1 * x10 + ((-1) * x2 + ((-36) * x5 + 0)) ≤ 5) (f5 : 1 * x9 + ((-1) * x2 + ((-36) * x5 + 0)) ≤ 0) (f6 : x7 = all_0 (((r_0 + 243) + x5))) (f7 : 1 * x6 + ((-1) * all_0 (r_0 + 0) + 0) ≤ 0) (f8 : (-1) * x6 + (1 * all_0 (r_0 + 0) + 0) ≤ 0) (f10 : 1 * texts_0 + ((-1) * x16 + 0) ≤ 13) (f12 : 1 * x16 + ((-1) * x2 + ((-36) * x5 + 0)) ≤ 20) (f13 : 1 * x14 + ((-1) * x2 + ((-36) * x5 + 0)) ≤ 13) (f14 : 1 * x10 + ((-1) * x2 + ((-36) * x5 + 0)) ≤ 5) (f15 : 1 * x9 + ((-1) * x2 + ((-36) * x5 + 0)) ≤ 0) (f17 : 1 * x14 + ((-1) * x2 + ((-36) * x5 + 0)) ≤ 13) (f18 : x12 < x11) (f19 : 1 * x10 + ((-1) * x2 + ((-36) * x5 + 0)) ≤ 5) (f20 : 1 * x9 + ((-1) * x2 + ((-36) * x5 + 0)) ≤ 0) (f22 : 1 * x10 + ((-1) * x2 + ((-36) * x5 + 0)) ≤ 5) (f23 : 1 * x9 + ((-1) * x2 + ((-36) * x5 + 0)) ≤ 0) (f25 : 1 * x9 + ((-1) * x2 + ((-36) * x5 + 0)) ≤ 0) (f26 : x7 = x4) (f27 : x5 < x6) (kz_0_170 : 0 ≤ texts_0 ∧ texts_0 ≤ 100000000) (ex2 : gx = texts_0) (ex3 : 0 ≤ gx ∧ gx ≤ 99999999) : 1 * gx + ((-1) * x2 + ((-36) * x5 + 0)) ≤ 33 := by
  first | assumption | omega | grind
def o_Mo_writeGroup_at_l2_8 : or_T := (63, 18, [(0, (2, 0, 0, [165])), (2, (0, 0, 99712161, [])), (3, (2, 0, 0, [165])), (4, (0, 2, 7, [])), (5, (0, 0, 23, [])), (6, (0, 1, 24, [])), (7, (0, 2, 7, [])), (9, (0, 0, 99999995, [])), (10, (0, 0, 99999992, [])), (11, (0, 2, 99, [])), (12, (0, 1, 1, [])), (14, (0, 0, 99999993, [])), (15, (0, 0, 99, [])), (16, (0, 0, 99999987, []))], [(23, [16, 2, 5], [20, 1, -1, -36]), (20, [15, 3, 5], [50, 1, 1, 1005, 1002, 1, 2, 1, 0, 3, 1, 2, 4, 7, 4, 3, 2, 1, 5, 0, 219, 1, 2]), (23, [14, 2, 5], [13, 1, -1, -36]), (20, [11, 3, 5], [50, 1, 1, 1005, 1002, 1, 2, 1, 0, 3, 1, 2, 4, 7, 4, 3, 2, 1, 5, 0, 219, 1, 2]), (23, [10, 2, 5], [5, 1, -1, -36]), (23, [9, 2, 5], [0, 1, -1, -36]), (20, [7, 3, 5], [50, 1, 1, 1005, 1002, 1, 2, 1, 0, 3, 1, 2, 4, 7, 4, 3, 2, 1, 5, 0, 243, 1, 2]), (20, [6, 3], [30, 0, 1, 0, 0, -1, 3, 2005000]), (20, [6, 3], [30, 0, -1, 0, 0, 1, 3, 2005000]), (24, [0, 3], []), (20, [3, 16], [30, 13, 1, 1, 170, -1, 0, 0]), (102, [16], [7770675568902916283677847627294075626569627356208558085007249638955617140820833992704, 165170]), (23, [16, 2, 5], [20, 1, -1, -36]), (23, [14, 2, 5], [13, 1, -1, -36]), (23, [10, 2, 5], [5, 1, -1, -36]), (23, [9, 2, 5], [0, 1, -1, -36]), (102, [14], [7770675568902916283677847627294075626569627356208558085007249638955617140820833992704, 165170]), (23, [14, 2, 5], [13, 1, -1, -36]), (7, [11, 12], [4]), (23, [10, 2, 5], [5, 1, -1, -36]), (23, [9, 2, 5], [0, 1, -1, -36]), (102, [10], [7770675568902916283677847627294075626569627356208558085007249638955617140820833992704, 165170]), (23, [10, 2, 5], [5, 1, -1, -36]), (23, [9, 2, 5], [0, 1, -1, -36]), (102, [9], [7770675568902916283677847627294075626569627356208558085007249638955617140820833992704, 165170]), (23, [9, 2, 5], [0, 1, -1, -36]), (7, [7, 4], [0]), (7, [5, 6], [2])], [], [(0, 0, 99999999, [])], [(20, [3, 18], [30, 0, 1, 1, 170, -1, 0, 0]), (23, [18, 2, 5], [33, 1, -1, -36])], [], [(7, 4, 0, 0), (5, 6, -4294967296, -1)])
theorem oo_Mo_writeGroup_at_l2_8 {kA : Nat → ClassId} : or_ok PRD kA GG o_Mo_writeGroup_at_l2_8 := by
  refine or_mk fun A ta ws vs hD hth hl => ?_
  intro t0 r0 t2 k2 t3 r3 t4 k4 t5 k5 t6 k6 t7 k7 t9 k9 t10 k10 t11 k11 t12 k12 t14 k14 t15 k15 t16 k16 d0 d1 f0 f1 f2 f3 f4 f5 f6 f7 f8 f9 f10 ta1 w1 le1 s1 f12 f13 f14 f15 ta2 w2 le2 s2 f17 f18 f19 f20 ta3 w3 le3 s3 f22 f23 ta4 w4 le4 s4 f25 f26 f27
  replace f0 := shm_1912 f0
  replace f1 := shm_718 f1
  replace f2 := shm_1911 f2
  replace f3 := shm_718 f3
  replace f4 := shm_1909 f4
  replace f5 := shm_1908 f5
  replace f6 := shm_585 f6
  replace f7 := shm_135 f7
  replace f8 := shm_136 f8
  replace f9 := shm_5 f9
  replace f10 := shm_1026 f10
  replace f12 := shm_1912 f12
  replace f13 := shm_1911 f13
  replace f14 := shm_1909 f14
  replace f15 := shm_1908 f15
  replace f17 := shm_1911 f17
  replace f18 := shm_21 f18
  replace f19 := shm_1909 f19
  replace f20 := shm_1908 f20
  replace f22 := shm_1909 f22
  replace f23 := shm_1908 f23
  replace f25 := shm_1908 f25
  replace f26 := shm_37 f26
  replace f27 := shm_6 f27
  have q3 : n_v vs 3 = n_v vs 0 := f9.symm
  simp only [q3] at f1 f3 f6 f7 f8 f10
  have cr_0_2 := fdq_12 hD hth r0
  have br_0_2_F5_0_0 : w_ei ws (w_ar ws (n_v vs 0) 2) (w_fi ws (n_v vs 0) 5 + 0) = w_el ws (w_ar ws (n_v vs 0) 2) (w_fi ws (n_v vs 0) 5 + 0).toNat := rfl
  have kz_0_170 := fdq_13 hD hth r0
  have kv0 := fdq_13 hD hth r0
  obtain ⟨x, ex, hx⟩ := iv_ex (ta := ta) (lo := 0) (hi := 99999999) (z := w_fi ws (n_v vs 0) 170) (by omega) (by omega) (by omega) (by omega)
  have ex2 : v_iv (Value.int x) = w_fi ws (n_v vs 0) 170 := ex
  have ex3 : 0 ≤ v_iv (Value.int x) ∧ v_iv (Value.int x) ≤ 99999999 := tv_rng hx
  have e_2 : n_v (vs ++ [Value.int x]) 2 = n_v vs 2 := n_v_old (by rw [hl]; decide)
  have e_3 : n_v (vs ++ [Value.int x]) 3 = n_v vs 3 := n_v_old (by rw [hl]; decide)
  have e_5 : n_v (vs ++ [Value.int x]) 5 = n_v vs 5 := n_v_old (by rw [hl]; decide)
  have e_18 : n_v (vs ++ [Value.int x]) 18 = Value.int x := n_v_new hl
  have nf0 : fc_1 PRD (20, [3, 18], [30, 0, 1, 1, 170, -1, 0, 0]) ws (vs ++ [Value.int x]) := by
    refine ⟨nf_inA hl rfl, sgq_140 ?_⟩
    · show 1 * w_fi ws (n_v (vs ++ [Value.int x]) 3) 170 + ((-1) * v_iv (n_v (vs ++ [Value.int x]) 18) + 0) ≤ 0
      simp only [e_3, e_18, q3]
      exact vc_Mo_writeGroup_at_l2_8_0 (v_iv (n_v vs 2)) (v_iv (n_v vs 4)) (v_iv (n_v vs 5)) (v_iv (n_v vs 6)) (v_iv (n_v vs 7)) (v_iv (n_v vs 9)) (v_iv (n_v vs 10)) (v_iv (n_v vs 11)) (v_iv (n_v vs 12)) (v_iv (n_v vs 14)) (v_iv (n_v vs 15)) (v_iv (n_v vs 16)) (w_ei ws (w_ar ws (n_v vs 0) 2)) (w_fi ws (n_v vs 0) 5) (w_fi ws (n_v vs 0) 170) (v_iv (Value.int x)) k2 k4 k5 k6 k7 k9 k10 k11 k12 k14 k15 k16 d0 d1 f0 f1 f2 f3 f4 f5 f6 f7 f8 f10 f12 f13 f14 f15 f17 f18 f19 f20 f22 f23 f25 f26 f27 kz_0_170 ex2 ex3
  have nf1 : fc_1 PRD (23, [18, 2, 5], [33, 1, -1, -36]) ws (vs ++ [Value.int x]) := by
    refine ⟨nf_inA hl rfl, sgq_1913 ?_⟩
    · show 1 * v_iv (n_v (vs ++ [Value.int x]) 18) + ((-1) * v_iv (n_v (vs ++ [Value.int x]) 2) + ((-36) * v_iv (n_v (vs ++ [Value.int x]) 5) + 0)) ≤ 33
      simp only [e_2, e_5, e_18]
      exact vc_Mo_writeGroup_at_l2_8_1 (v_iv (n_v vs 2)) (v_iv (n_v vs 4)) (v_iv (n_v vs 5)) (v_iv (n_v vs 6)) (v_iv (n_v vs 7)) (v_iv (n_v vs 9)) (v_iv (n_v vs 10)) (v_iv (n_v vs 11)) (v_iv (n_v vs 12)) (v_iv (n_v vs 14)) (v_iv (n_v vs 15)) (v_iv (n_v vs 16)) (w_ei ws (w_ar ws (n_v vs 0) 2)) (w_fi ws (n_v vs 0) 5) (w_fi ws (n_v vs 0) 170) (v_iv (Value.int x)) k2 k4 k5 k6 k7 k9 k10 k11 k12 k14 k15 k16 d0 d1 f0 f1 f2 f3 f4 f5 f6 f7 f8 f10 f12 f13 f14 f15 f17 f18 f19 f20 f22 f23 f25 f26 f27 kz_0_170 ex2 ex3
  exact ⟨(fun _ h => (by cases h)), [Value.int x], ag_one hx, List.forall_mem_cons.mpr ⟨⟨show (20 : Nat) < 100 from by decide, nf0⟩, List.forall_mem_cons.mpr ⟨⟨show (23 : Nat) < 100 from by decide, nf1⟩, (fun _ h => (by cases h))⟩⟩, (fun _ h => (by cases h))⟩
set_option maxHeartbeats 4000000 in
theorem vc_Mo_writeGroup_at_l2_9_0 (x2 : Int) (x4 : Int) (x5 : Int) (x6 : Int) (x7 : Int) (x9 : Int) (x10 : Int) (x11 : Int) (x12 : Int) (x14 : Int) (x15 : Int) (x16 : Int) (x18 : Int) (all_0 : Int → Int) (r_0 : Int) (texts_0 : Int) (gx : Int) (k2 : 0 ≤ x2 ∧ x2 ≤ 99712161) (k4 : 2 ≤ x4 ∧ x4 ≤ 7) (k5 : 0 ≤ x5 ∧ x5 ≤ 23) (k6 : 1 ≤ x6 ∧ x6 ≤ 24) (k7 : 2 ≤ x7 ∧ x7 ≤ 7) (k9 : 0 ≤ x9 ∧ x9 ≤ 99999995) (k10 : 0 ≤ x10 ∧ x10 ≤ 99999992) (k11 : 2 ≤ x11 ∧ x11 ≤ 99) (k12 : 1 ≤ x12 ∧ x12 ≤ 1) (k14 : 0 ≤ x14 ∧ x14 ≤ 99999993) (k15 : 0 ≤ x15 ∧ x15 ≤ 99) (k16 : 0 ≤ x16 ∧ x16 ≤ 99999987) (k18 : 0 ≤ x18 ∧ x18 ≤ 99999999) (d0 : x4 + 0 ≤ x7 ∧ x7 ≤ x4 + 0) (d1 : x6 + (-4294967296) ≤ x5 ∧ x5 ≤ x6 + (-1)) (f0 : 1 * x18 + ((-1) * x2 + ((-36) * x5 + 0)) ≤ 33) (f1 : 1 * x16 + ((-1) * x2 + ((-36) * x5 + 0)) ≤ 20) (f2 : x15 = all_0 (((r_0 + 219) + x5))) (f3 : 1 * x14 + ((-1) * x2 + ((-36) * x5 + 0)) ≤ 13) (f4 : x11 = all_0 (((r_0 + 219) + x5))) (f5 : 1 * x10 + ((-1) * x2 + ((-36) * x5 + 0)) ≤ 5) (f6 : 1 * x9 + ((-1) * x2 + ((-36) * x5 + 0)) ≤ 0) (f7 : x7 = all_0 (((r_0 + 243) + x5))) (f8 : 1 * x6 + ((-1) * all_0 (r_0 + 0) + 0) ≤ 0) (f9 : (-1) * x6 + (1 * all_0 (r_0 + 0) + 0) ≤ 0) (f11 : 1 * texts_0 + ((-1) * x18 + 0) ≤ 1) (f13 : 1 * x18 + ((-1) * x2 + ((-36) * x5 + 0)) ≤ 33) (f14 : 1 * x16 + ((-1) * x2 + ((-36) * x5 + 0)) ≤ 20) (f15 : 1 * x14 + ((-1) * x2 + ((-36) * x5 + 0)) ≤ 13) (f16 : 1 * x10 + ((-1) * x2 + ((-36) * x5 + 0)) ≤ 5) (f17 : 1 * x9 + ((-1) * x2 + ((-36) * x5 + 0)) ≤ 0) (f19 : 1 * x16 + ((-1) * x2 + ((-36) * x5 + 0)) ≤ 20) (f20 : 1 * x14 + ((-1) * x2 + ((-36) * x5 + 0)) ≤ 13) (f21 : 1 * x10 + ((-1) * x2 + ((-36) * x5 + 0)) ≤ 5) (f22 : 1 * x9 + ((-1) * x2 + ((-36) * x5 + 0)) ≤ 0) (f24 : 1 * x14 + ((-1) * x2 + ((-36) * x5 + 0)) ≤ 13) (f25 : x12 < x11) (f26 : 1 * x10 + ((-1) * x2 + ((-36) * x5 + 0)) ≤ 5) (f27 : 1 * x9 + ((-1) * x2 + ((-36) * x5 + 0)) ≤ 0) (f29 : 1 * x10 + ((-1) * x2 + ((-36) * x5 + 0)) ≤ 5) (f30 : 1 * x9 + ((-1) * x2 + ((-36) * x5 + 0)) ≤ 0) (f32 : 1 * x9 + ((-1) * x2 + ((-36) * x5 + 0)) ≤ 0) (f33 : x7 = x4) (f34 : x5 < x6) (kz_0_170 : 0 ≤ texts_0 ∧ texts_0 ≤ 100000000) (ex2 : gx = texts_0) (ex3 : 0 ≤ gx ∧ gx ≤ 99999998) : 1 * texts_0 + ((-1) * gx + 0) ≤ 0 := by
  first | assumption | omega | grind
set_option maxHeartbeats 4000000 in
theorem vc_Mo_writeGroup_at_l2_9_1 (x2 : Int) (x4 : Int) (x5 : Int) (x6 : Int) (x7 : Int) (x9 : Int) (x10 : Int) (x11 : Int) (x12 : Int) (x14 : Int) (x15 : Int) (x16 : Int) (x18 : Int) (all_0 : Int → Int) (r_0 : Int) (texts_0 : Int) (gx : Int) (k2 : 0 ≤ x2 ∧ x2 ≤ 99712161) (k4 : 2 ≤ x4 ∧ x4 ≤ 7) (k5 : 0 ≤ x5 ∧ x5 ≤ 23) (k6 : 1 ≤ x6 ∧ x6 ≤ 24) (k7 : 2 ≤ x7 ∧ x7 ≤ 7) (k9 : 0 ≤ x9 ∧ x9 ≤ 99999995) (k10 : 0 ≤ x10 ∧ x10 ≤ 99999992) (k11 : 2 ≤ x11 ∧ x11 ≤ 99) (k12 : 1 ≤ x12 ∧ x12 ≤ 1) (k14 : 0 ≤ x14 ∧ x14 ≤ 99999993) (k15 : 0 ≤ x15 ∧ x15 ≤ 99) (k16 : 0 ≤ x16 ∧ x16 ≤ 99999987) (k18 : 0 ≤ x18 ∧ x18 ≤ 99999999) (d0 : x4 + 0 ≤ x7 ∧ x7 ≤ x4 + 0) (d1 : x6 + (-4294967296) ≤ x5 ∧ x5 ≤ x6 + (-1)) (f0 : 1 * x18 + ((-1) * x2 + ((-36) * x5 + 0)) ≤ 33) (f1 : 1 * x16 + ((-1) * x2 + ((-36) * x5 + 0)) ≤ 20) (f2 : x15 = all_0 (((r_0 + 219) + x5))) (f3 : 1 * x14 + ((-1) * x2 + ((-36) * x5 + 0)) ≤ 13) (f4 : x11 = all_0 (((r_0 + 219) + x5))) (f5 : 1 * x10 + ((-1) * x2 + ((-36) * x5 + 0)) ≤ 5) (f6 : 1 * x9 + ((-1) * x2 + ((-36) * x5 + 0)) ≤ 0) (f7 : x7 = all_0 (((r_0 + 243) + x5))) (f8 : 1 * x6 + ((-1) * all_0 (r_0 + 0) + 0) ≤ 0) (f9 : (-1) * x6 + (1 * all_0 (r_0 + 0) + 0) ≤ 0) (f11 : 1 * texts_0 + ((-1) * x18 + 0) ≤ 1) (f13 : 1 * x18 + ((-1) * x2 + ((-36) * x5 + 0)) ≤ 33) (f14 : 1 * x16 + ((-1) * x2 + ((-36) * x5 + 0)) ≤ 20) (f15 : 1 * x14 + ((-1) * x2 + ((-36) * x5 + 0)) ≤ 13) (f16 : 1 * x10 + ((-1) * x2 + ((-36) * x5 + 0)) ≤ 5) (f17 : 1 * x9 + ((-1) * x2 + ((-36) * x5 + 0)) ≤ 0) (f19 : 1 * x16 + ((-1) * x2 + ((-36) * x5 + 0)) ≤ 20) (f20 : 1 * x14 + ((-1) * x2 + ((-36) * x5 + 0)) ≤ 13) (f21 : 1 * x10 + ((-1) * x2 + ((-36) * x5 + 0)) ≤ 5) (f22 : 1 * x9 + ((-1) * x2 + ((-36) * x5 + 0)) ≤ 0) (f24 : 1 * x14 + ((-1) * x2 + ((-36) * x5 + 0)) ≤ 13) (f25 : x12 < x11) (f26 : 1 * x10 + ((-1) * x2 + ((-36) * x5 + 0)) ≤ 5) (f27 : 1 * x9 + ((-1) * x2 + ((-36) * x5 + 0)) ≤ 0) (f29 : 1 * x10 + ((-1) * x2 + ((-36) * x5 + 0)) ≤ 5) (f30 : 1 * x9 + ((-1) * x2 + ((-36) * x5 + 0)) ≤ 0) (f32 : 1 * x9 + ((-1) * x2 + ((-36) * x5 + 0)) ≤ 0) (f33 : x7 = x4) (f34 : x5 < x6) (kz_0_170 : 0 ≤ texts_0 ∧ texts_0 ≤ 100000000) (ex2 : gx = texts_0) (ex3 : 0 ≤ gx ∧ gx ≤ 99999998) : 1 * gx + ((-1) * x2 + ((-36) * x5 + 0)) ≤ 34 := by
  first | assumption | omega | grind
def o_Mo_writeGroup_at_l2_9 : or_T := (70, 20, [(0, (2, 0, 0, [165])), (2, (0, 0, 99712161, [])), (3, (2, 0, 0, [165])), (4, (0, 2, 7, [])), (5, (0, 0, 23, [])), (6, (0, 1, 24, [])), (7, (0, 2, 7, [])), (9, (0, 0, 99999995, [])), (10, (0, 0, 99999992, [])), (11, (0, 2, 99, [])), (12, (0, 1, 1, [])), (14, (0, 0, 99999993, [])), (15, (0, 0, 99, [])), (16, (0, 0, 99999987, [])), (18, (0, 0, 99999999, []))], [(23, [18, 2, 5], [33, 1, -1, -36]), (23, [16, 2, 5], [20, 1, -1, -36]), (20, [15, 3, 5], [50, 1, 1, 1005, 1002, 1, 2, 1, 0, 3, 1, 2, 4, 7, 4, 3, 2, 1, 5, 0, 219, 1, 2]), (23, [14, 2, 5], [13, 1, -1, -36]), (20, [11, 3, 5], [50, 1, 1, 1005, 1002, 1, 2, 1, 0, 3, 1, 2, 4, 7, 4, 3, 2, 1, 5, 0, 219, 1, 2]), (23, [10, 2, 5], [5, 1, -1, -36]), (23, [9, 2, 5], [0, 1, -1, -36]), (20, [7, 3, 5], [50, 1, 1, 1005, 1002, 1, 2, 1, 0, 3, 1, 2, 4, 7, 4, 3, 2, 1, 5, 0, 243, 1, 2]), (20, [6, 3], [30, 0, 1, 0, 0, -1, 3, 2005000]), (20, [6, 3], [30, 0, -1, 0, 0, 1, 3, 2005000]), (24, [0, 3], []), (20, [3, 18], [30, 1, 1, 1, 170, -1, 0, 0]), (102, [18], [7770675568902916283677847627294075626569627356208558085007249638955617140820833992704, 165170]), (23, [18, 2, 5], [33, 1, -1, -36]), (23, [16, 2, 5], [20, 1, -1, -36]), (23, [14, 2, 5], [13, 1, -1, -36]), (23, [10, 2, 5], [5, 1, -1, -36]), (23, [9, 2, 5], [0, 1, -1, -36]), (102, [16], [7770675568902916283677847627294075626569627356208558085007249638955617140820833992704, 165170]), (23, [16, 2, 5], [20, 1, -1, -36]), (23, [14, 2, 5], [13, 1, -1, -36]), (23, [10, 2, 5], [5, 1, -1, -36]), (23, [9, 2, 5], [0, 1, -1, -36]), (102, [14], [7770675568902916283677847627294075626569627356208558085007249638955617140820833992704, 165170]), (23, [14, 2, 5], [13, 1, -1, -36]), (7, [11, 12], [4]), (23, [10, 2, 5], [5, 1, -1, -36]), (23, [9, 2, 5], [0, 1, -1, -36]), (102, [10], [7770675568902916283677847627294075626569627356208558085007249638955617140820833992704, 165170]), (23, [10, 2, 5], [5, 1, -1, -36]), (23, [9, 2, 5], [0, 1, -1, -36]), (102, [9], [7770675568902916283677847627294075626569627356208558085007249638955617140820833992704, 165170]), (23, [9, 2, 5], [0, 1, -1, -36]), (7, [7, 4], [0]), (7, [5, 6], [2])], [], [(0, 0, 99999998, [])], [(20, [3, 20], [30, 0, 1, 1, 170, -1, 0, 0]), (23, [20, 2, 5], [34, 1, -1, -36])], [], [(7, 4, 0, 0), (5, 6, -4294967296, -1)])
theorem oo_Mo_writeGroup_at_l2_9 {kA : Nat → ClassId} : or_ok PRD kA GG o_Mo_writeGroup_at_l2_9 := by
  refine or_mk fun A ta ws vs hD hth hl => ?_
  intro t0 r0 t2 k2 t3 r3 t4 k4 t5 k5 t6 k6 t7 k7 t9 k9 t10 k10 t11 k11 t12 k12 t14 k14 t15 k15 t16 k16 t18 k18 d0 d1 f0 f1 f2 f3 f4 f5 f6 f7 f8 f9 f10 f11 ta1 w1 le1 s1 f13 f14 f15 f16 f17 ta2 w2 le2 s2 f19 f20 f21 f22 ta3 w3 le3 s3 f24 f25 f26 f27 ta4 w4 le4 s4 f29 f30 ta5 w5 le5 s5 f32 f33 f34
  replace f0 := shm_1913 f0
  replace f1 := shm_1912 f1
  replace f2 := shm_718 f2
  replace f3 := shm_1911 f3
  replace f4 := shm_718 f4
  replace f5 := shm_1909 f5
  replace f6 := shm_1908 f6
  replace f7 := shm_585 f7
  replace f8 := shm_135 f8
  replace f9 := shm_136 f9
  replace f10 := shm_5 f10
  replace f11 := shm_141 f11
  replace f13 := shm_1913 f13
  replace f14 := shm_1912 f14
  replace f15 := shm_1911 f15
  replace f16 := shm_1909 f16
  replace f17 := shm_1908 f17
  replace f19 := shm_1912 f19
  replace f20 := shm_1911 f20
  replace f21 := shm_1909 f21
  replace f22 := shm_1908 f22
  replace f24 := shm_1911 f24
  replace f25 := shm_21 f25
  replace f26 := shm_1909 f26
  replace f27 := shm_1908 f27
  replace f29 := shm_1909 f29
  replace f30 := shm_1908 f30
  replace f32 := shm_1908 f32
  replace f33 := shm_37 f33
  replace f34 := shm_6 f34
  have q3 : n_v vs 3 = n_v vs 0 := f10.symm
  simp only [q3] at f2 f4 f7 f8 f9 f11
  have cr_0_2 := fdq_12 hD hth r0
  have br_0_2_F5_0_0 : w_ei ws (w_ar ws (n_v vs 0) 2) (w_fi ws (n_v vs 0) 5 + 0) = w_el ws (w_ar ws (n_v vs 0) 2) (w_fi ws (n_v vs 0) 5 + 0).toNat := rfl
  have kz_0_170 := fdq_13 hD hth r0
  have kv0 := fdq_13 hD hth r0
  obtain ⟨x, ex, hx⟩ := iv_ex (ta := ta) (lo := 0) (hi := 99999998) (z := w_fi ws (n_v vs 0) 170) (by omega) (by omega) (by omega) (by omega)
  have ex2 : v_iv (Value.int x) = w_fi ws (n_v vs 0) 170 := ex
  have ex3 : 0 ≤ v_iv (Value.int x) ∧ v_iv (Value.int x) ≤ 99999998 := tv_rng hx
  have e_2 : n_v (vs ++ [Value.int x]) 2 = n_v vs 2 := n_v_old (by rw [hl]; decide)
  have e_3 : n_v (vs ++ [Value.int x]) 3 = n_v vs 3 := n_v_old (by rw [hl]; decide)
  have e_5 : n_v (vs ++ [Value.int x]) 5 = n_v vs 5 := n_v_old (by rw [hl]; decide)
  have e_20 : n_v (vs ++ [Value.int x]) 20 = Value.int x := n_v_new hl
  have nf0 : fc_1 PRD (20, [3, 20], [30, 0, 1, 1, 170, -1, 0, 0]) ws (vs ++ [Value.int x]) := by
    refine ⟨nf_inA hl rfl, sgq_140 ?_⟩
    · show 1 * w_fi ws (n_v (vs ++ [Value.int x]) 3) 170 + ((-1) * v_iv (n_v (vs ++ [Value.int x]) 20) + 0) ≤ 0
      simp only [e_3, e_20, q3]
      exact vc_Mo_writeGroup_at_l2_9_0 (v_iv (n_v vs 2)) (v_iv (n_v vs 4)) (v_iv (n_v vs 5)) (v_iv (n_v vs 6)) (v_iv (n_v vs 7)) (v_iv (n_v vs 9)) (v_iv (n_v vs 10)) (v_iv (n_v vs 11)) (v_iv (n_v vs 12)) (v_iv (n_v vs 14)) (v_iv (n_v vs 15)) (v_iv (n_v vs 16)) (v_iv (n_v vs 18)) (w_ei ws (w_ar ws (n_v vs 0) 2)) (w_fi ws (n_v vs 0) 5) (w_fi ws (n_v vs 0) 170) (v_iv (Value.int x)) k2 k4 k5 k6 k7 k9 k10 k11 k12 k14 k15 k16 k18 d0 d1 f0 f1 f2 f3 f4 f5 f6 f7 f8 f9 f11 f13 f14 f15 f16 f17 f19 f20 f21 f22 f24 f25 f26 f27 f29 f30 f32 f33 f34 kz_0_170 ex2 ex3
  have nf1 : fc_1 PRD (23, [20, 2, 5], [34, 1, -1, -36]) ws (vs ++ [Value.int x]) := by
    refine ⟨nf_inA hl rfl, sgq_1910 ?_⟩
    · show 1 * v_iv (n_v (vs ++ [Value.int x]) 20) + ((-1) * v_iv (n_v (vs ++ [Value.int x]) 2) + ((-36) * v_iv (n_v (vs ++ [Value.int x]) 5) + 0)) ≤ 34
      simp only [e_2, e_5, e_20]
      exact vc_Mo_writeGroup_at_l2_9_1 (v_iv (n_v vs 2)) (v_iv (n_v vs 4)) (v_iv (n_v vs 5)) (v_iv (n_v vs 6)) (v_iv (n_v vs 7)) (v_iv (n_v vs 9)) (v_iv (n_v vs 10)) (v_iv (n_v vs 11)) (v_iv (n_v vs 12)) (v_iv (n_v vs 14)) (v_iv (n_v vs 15)) (v_iv (n_v vs 16)) (v_iv (n_v vs 18)) (w_ei ws (w_ar ws (n_v vs 0) 2)) (w_fi ws (n_v vs 0) 5) (w_fi ws (n_v vs 0) 170) (v_iv (Value.int x)) k2 k4 k5 k6 k7 k9 k10 k11 k12 k14 k15 k16 k18 d0 d1 f0 f1 f2 f3 f4 f5 f6 f7 f8 f9 f11 f13 f14 f15 f16 f17 f19 f20 f21 f22 f24 f25 f26 f27 f29 f30 f32 f33 f34 kz_0_170 ex2 ex3
  exact ⟨(fun _ h => (by cases h)), [Value.int x], ag_one hx, List.forall_mem_cons.mpr ⟨⟨show (20 : Nat) < 100 from by decide, nf0⟩, List.forall_mem_cons.mpr ⟨⟨show (23 : Nat) < 100 from by decide, nf1⟩, (fun _ h => (by cases h))⟩⟩, (fun _ h => (by cases h))⟩
set_option maxHeartbeats 4000000 in
theorem vc_Mo_writeGroup_at_l2_10_0 (x2 : Int) (x4 : Int) (x5 : Int) (x6 : Int) (x7 : Int) (x9 : Int) (x10 : Int) (x11 : Int) (x12 : Int) (x14 : Int) (x15 : Int) (x16 : Int) (x18 : Int) (x20 : Int) (x21 : Int) (all_0 : Int → Int) (r_0 : Int) (texts_0 : Int) (k2 : 0 ≤ x2 ∧ x2 ≤ 99712161) (k4 : 2 ≤ x4 ∧ x4 ≤ 7) (k5 : 0 ≤ x5 ∧ x5 ≤ 23) (k6 : 1 ≤ x6 ∧ x6 ≤ 24) (k7 : 2 ≤ x7 ∧ x7 ≤ 7) (k9 : 0 ≤ x9 ∧ x9 ≤ 99999995) (k10 : 0 ≤ x10 ∧ x10 ≤ 99999992) (k11 : 2 ≤ x11 ∧ x11 ≤ 99) (k12 : 1 ≤ x12 ∧ x12 ≤ 1) (k14 : 0 ≤ x14 ∧ x14 ≤ 99999993) (k15 : 0 ≤ x15 ∧ x15 ≤ 99) (k16 : 0 ≤ x16 ∧ x16 ≤ 99999987) (k18 : 0 ≤ x18 ∧ x18 ≤ 99999999) (k20 : 0 ≤ x20 ∧ x20 ≤ 99999998) (k21 : 1 ≤ x21 ∧ x21 ≤ 24) (d0 : x5 + 1 ≤ x21 ∧ x21 ≤ x5 + 1) (d1 : x6 + (-4294967296) ≤ x21 ∧ x21 ≤ x6 + 0) (d2 : x4 + 0 ≤ x7 ∧ x7 ≤ x4 + 0) (d3 : x6 + (-4294967296) ≤ x5 ∧ x5 ≤ x6 + (-1)) (f0 : x21 = x5 + 1) (f1 : 1 * x20 + ((-1) * x2 + ((-36) * x5 + 0)) ≤ 34) (f2 : 1 * x18 + ((-1) * x2 + ((-36) * x5 + 0)) ≤ 33) (f3 : 1 * x16 + ((-1) * x2 + ((-36) * x5 + 0)) ≤ 20) (f4 : x15 = all_0 (((r_0 + 219) + x5))) (f5 : 1 * x14 + ((-1) * x2 + ((-36) * x5 + 0)) ≤ 13) (f6 : x11 = all_0 (((r_0 + 219) + x5))) (f7 : 1 * x10 + ((-1) * x2 + ((-36) * x5 + 0)) ≤ 5) (f8 : 1 * x9 + ((-1) * x2 + ((-36) * x5 + 0)) ≤ 0) (f9 : x7 = all_0 (((r_0 + 243) + x5))) (f10 : 1 * x6 + ((-1) * all_0 (r_0 + 0) + 0) ≤ 0) (f11 : (-1) * x6 + (1 * all_0 (r_0 + 0) + 0) ≤ 0) (f13 : 1 * texts_0 + ((-1) * x20 + 0) ≤ 2) (f15 : 1 * x20 + ((-1) * x2 + ((-36) * x5 + 0)) ≤ 34) (f16 : 1 * x18 + ((-1) * x2 + ((-36) * x5 + 0)) ≤ 33) (f17 : 1 * x16 + ((-1) * x2 + ((-36) * x5 + 0)) ≤ 20) (f18 : 1 * x14 + ((-1) * x2 + ((-36) * x5 + 0)) ≤ 13) (f19 : 1 * x10 + ((-1) * x2 + ((-36) * x5 + 0)) ≤ 5) (f20 : 1 * x9 + ((-1) * x2 + ((-36) * x5 + 0)) ≤ 0) (f22 : 1 * x18 + ((-1) * x2 + ((-36) * x5 + 0)) ≤ 33) (f23 : 1 * x16 + ((-1) * x2 + ((-36) * x5 + 0)) ≤ 20) (f24 : 1 * x14 + ((-1) * x2 + ((-36) * x5 + 0)) ≤ 13) (f25 : 1 * x10 + ((-1) * x2 + ((-36) * x5 + 0)) ≤ 5) (f26 : 1 * x9 + ((-1) * x2 + ((-36) * x5 + 0)) ≤ 0) (f28 : 1 * x16 + ((-1) * x2 + ((-36) * x5 + 0)) ≤ 20) (f29 : 1 * x14 + ((-1) * x2 + ((-36) * x5 + 0)) ≤ 13) (f30 : 1 * x10 + ((-1) * x2 + ((-36) * x5 + 0)) ≤ 5) (f31 : 1 * x9 + ((-1) * x2 + ((-36) * x5 + 0)) ≤ 0) (f33 : 1 * x14 + ((-1) * x2 + ((-36) * x5 + 0)) ≤ 13) (f34 : x12 < x11) (f35 : 1 * x10 + ((-1) * x2 + ((-36) * x5 + 0)) ≤ 5) (f36 : 1 * x9 + ((-1) * x2 + ((-36) * x5 + 0)) ≤ 0) (f38 : 1 * x10 + ((-1) * x2 + ((-36) * x5 + 0)) ≤ 5) (f39 : 1 * x9 + ((-1) * x2 + ((-36) * x5 + 0)) ≤ 0) (f41 : 1 * x9 + ((-1) * x2 + ((-36) * x5 + 0)) ≤ 0) (f42 : x7 = x4) (f43 : x5 < x6) (kz_0_170 : 0 ≤ texts_0 ∧ texts_0 ≤ 100000000) : 1 * texts_0 + ((-1) * x2 + ((-36) * x21 + 0)) ≤ 0 := by
  first | assumption | omega | grind
def o_Mo_writeGroup_at_l2_10 : or_T := (2, 22, [(0, (2, 0, 0, [165])), (2, (0, 0, 99712161, [])), (4, (0, 2, 7, [])), (5, (0, 0, 23, [])), (6, (0, 1, 24, [])), (7, (0, 2, 7, [])), (9, (0, 0, 99999995, [])), (10, (0, 0, 99999992, [])), (11, (0, 2, 99, [])), (12, (0, 1, 1, [])), (14, (0, 0, 99999993, [])), (15, (0, 0, 99, [])), (16, (0, 0, 99999987, [])), (18, (0, 0, 99999999, [])), (20, (0, 0, 99999998, [])), (21, (0, 1, 24, []))], [(6, [21, 5], [1]), (23, [20, 2, 5], [34, 1, -1, -36]), (23, [18, 2, 5], [33, 1, -1, -36]), (23, [16, 2, 5], [20, 1, -1, -36]), (20, [15, 3, 5], [50, 1, 1, 1005, 1002, 1, 2, 1, 0, 3, 1, 2, 4, 7, 4, 3, 2, 1, 5, 0, 219, 1, 2]), (23, [14, 2, 5], [13, 1, -1, -36]), (20, [11, 3, 5], [50, 1, 1, 1005, 1002, 1, 2, 1, 0, 3, 1, 2, 4, 7, 4, 3, 2, 1, 5, 0, 219, 1, 2]), (23, [10, 2, 5], [5, 1, -1, -36]), (23, [9, 2, 5], [0, 1, -1, -36]), (20, [7, 3, 5], [50, 1, 1, 1005, 1002, 1, 2, 1, 0, 3, 1, 2, 4, 7, 4, 3, 2, 1, 5, 0, 243, 1, 2]), (20, [6, 3], [30, 0, 1, 0, 0, -1, 3, 2005000]), (20, [6, 3], [30, 0, -1, 0, 0, 1, 3, 2005000]), (24, [0, 3], []), (20, [3, 20], [30, 2, 1, 1, 170, -1, 0, 0]), (102, [20], [7770675568902916283677847627294075626569627356208558085007249638955617140820833992704, 165170]), (23, [20, 2, 5], [34, 1, -1, -36]), (23, [18, 2, 5], [33, 1, -1, -36]), (23, [16, 2, 5], [20, 1, -1, -36]), (23, [14, 2, 5], [13, 1, -1, -36]), (23, [10, 2, 5], [5, 1, -1, -36]), (23, [9, 2, 5], [0, 1, -1, -36]), (102, [18], [7770675568902916283677847627294075626569627356208558085007249638955617140820833992704, 165170]), (23, [18, 2, 5], [33, 1, -1, -36]), (23, [16, 2, 5], [20, 1, -1, -36]), (23, [14, 2, 5], [13, 1, -1, -36]), (23, [10, 2, 5], [5, 1, -1, -36]), (23, [9, 2, 5], [0, 1, -1, -36]), (102, [16], [7770675568902916283677847627294075626569627356208558085007249638955617140820833992704, 165170]), (23, [16, 2, 5], [20, 1, -1, -36]), (23, [14, 2, 5], [13, 1, -1, -36]), (23, [10, 2, 5], [5, 1, -1, -36]), (23, [9, 2, 5], [0, 1, -1, -36]), (102, [14], [7770675568902916283677847627294075626569627356208558085007249638955617140820833992704, 165170]), (23, [14, 2, 5], [13, 1, -1, -36]), (7, [11, 12], [4]), (23, [10, 2, 5], [5, 1, -1, -36]), (23, [9, 2, 5], [0, 1, -1, -36]), (102, [10], [7770675568902916283677847627294075626569627356208558085007249638955617140820833992704, 165170]), (23, [10, 2, 5], [5, 1, -1, -36]), (23, [9, 2, 5], [0, 1, -1, -36]), (102, [9], [7770675568902916283677847627294075626569627356208558085007249638955617140820833992704, 165170]), (23, [9, 2, 5], [0, 1, -1, -36]), (7, [7, 4], [0]), (7, [5, 6], [2])], [], [], [(20, [3, 2, 21], [30, 0, 1, 1, 170, -1, 0, 0, -36, 0, 0])], [], [(21, 5, 1, 1), (21, 6, -4294967296, 0), (7, 4, 0, 0), (5, 6, -4294967296, -1)])
theorem oo_Mo_writeGroup_at_l2_10 {kA : Nat → ClassId} : or_ok PRD kA GG o_Mo_writeGroup_at_l2_10 := by
  refine or_mk fun A ta ws vs hD hth hl => ?_
  intro t0 r0 t2 k2 t4 k4 t5 k5 t6 k6 t7 k7 t9 k9 t10 k10 t11 k11 t12 k12 t14 k14 t15 k15 t16 k16 t18 k18 t20 k20 t21 k21 d0 d1 d2 d3 f0 f1 f2 f3 f4 f5 f6 f7 f8 f9 f10 f11 f12 f13 ta1 w1 le1 s1 f15 f16 f17 f18 f19 f20 ta2 w2 le2 s2 f22 f23 f24 f25 f26 ta3 w3 le3 s3 f28 f29 f30 f31 ta4 w4 le4 s4 f33 f34 f35 f36 ta5 w5 le5 s5 f38 f39 ta6 w6 le6 s6 f41 f42 f43
  replace f0 := shm_4 f0
  replace f1 := shm_1910 f1
  replace f2 := shm_1913 f2
  replace f3 := shm_1912 f3
  replace f4 := shm_718 f4
  replace f5 := shm_1911 f5
  replace f6 := shm_718 f6
  replace f7 := shm_1909 f7
  replace f8 := shm_1908 f8
  replace f9 := shm_585 f9
  replace f10 := shm_135 f10
  replace f11 := shm_136 f11
  replace f12 := shm_5 f12
  replace f13 := shm_234 f13
  replace f15 := shm_1910 f15
  replace f16 := shm_1913 f16
  replace f17 := shm_1912 f17
  replace f18 := shm_1911 f18
  replace f19 := shm_1909 f19
  replace f20 := shm_1908 f20
  replace f22 := shm_1913 f22
  replace f23 := shm_1912 f23
  replace f24 := shm_1911 f24
  replace f25 := shm_1909 f25
  replace f26 := shm_1908 f26
  replace f28 := shm_1912 f28
  replace f29 := shm_1911 f29
  replace f30 := shm_1909 f30
  replace f31 := shm_1908 f31
  replace f33 := shm_1911 f33
  replace f34 := shm_21 f34
  replace f35 := shm_1909 f35
  replace f36 := shm_1908 f36
  replace f38 := shm_1909 f38
  replace f39 := shm_1908 f39
  replace f41 := shm_1908 f41
  replace f42 := shm_37 f42
  replace f43 := shm_6 f43
  have q3 : n_v vs 3 = n_v vs 0 := f12.symm
  simp only [q3] at f4 f6 f9 f10 f11 f13
  have kz_0_170 := fdq_13 hD hth r0
  have nf0 : fc_1 PRD (20, [3, 2, 21], [30, 0, 1, 1, 170, -1, 0, 0, -36, 0, 0]) ws (vs) := by
    refine ⟨nf_in hl rfl, sgq_1906 ?_⟩
    · show 1 * w_fi ws (n_v vs 3) 170 + ((-1) * v_iv (n_v vs 2) + ((-36) * v_iv (n_v vs 21) + 0)) ≤ 0
      rw [q3]
      exact vc_Mo_writeGroup_at_l2_10_0 (v_iv (n_v vs 2)) (v_iv (n_v vs 4)) (v_iv (n_v vs 5)) (v_iv (n_v vs 6)) (v_iv (n_v vs 7)) (v_iv (n_v vs 9)) (v_iv (n_v vs 10)) (v_iv (n_v vs 11)) (v_iv (n_v vs 12)) (v_iv (n_v vs 14)) (v_iv (n_v vs 15)) (v_iv (n_v vs 16)) (v_iv (n_v vs 18)) (v_iv (n_v vs 20)) (v_iv (n_v vs 21)) (w_ei ws (w_ar ws (n_v vs 0) 2)) (w_fi ws (n_v vs 0) 5) (w_fi ws (n_v vs 0) 170) k2 k4 k5 k6 k7 k9 k10 k11 k12 k14 k15 k16 k18 k20 k21 d0 d1 d2 d3 f0 f1 f2 f3 f4 f5 f6 f7 f8 f9 f10 f11 f13 f15 f16 f17 f18 f19 f20 f22 f23 f24 f25 f26 f28 f29 f30 f31 f33 f34 f35 f36 f38 f39 f41 f42 f43 kz_0_170
  refine ⟨(fun _ h => (by cases h)), [], trivial, ?_, (fun _ h => (by cases h))⟩
  rw [List.append_nil]
  exact List.forall_mem_cons.mpr ⟨⟨show (20 : Nat) < 100 from by decide, nf0⟩, (fun _ h => (by cases h))⟩
set_option maxHeartbeats 4000000 in
theorem vc_Mo_writeGroup_at_l2_11_0 (x2 : Int) (x4 : Int) (x5 : Int) (x6 : Int) (x7 : Int) (x8 : Int) (all_0 : Int → Int) (r_0 : Int) (texts_0 : Int) (k2 : 0 ≤ x2 ∧ x2 ≤ 99712161) (k4 : 2 ≤ x4 ∧ x4 ≤ 7) (k5 : 0 ≤ x5 ∧ x5 ≤ 23) (k6 : 1 ≤ x6 ∧ x6 ≤ 24) (k7 : 0 ≤ x7 ∧ x7 ≤ 7) (k8 : 1 ≤ x8 ∧ x8 ≤ 24) (d0 : x5 + 1 ≤ x8 ∧ x8 ≤ x5 + 1) (d1 : x6 + (-4294967296) ≤ x8 ∧ x8 ≤ x6 + 0) (d2 : x6 + (-4294967296) ≤ x5 ∧ x5 ≤ x6 + (-1)) (f0 : x8 = x5 + 1) (f1 : x7 ≠ x4) (f2 : x7 = all_0 (((r_0 + 243) + x5))) (f3 : x5 < x6) (f4 : 1 * x6 + ((-1) * all_0 (r_0 + 0) + 0) ≤ 0) (f5 : (-1) * x6 + (1 * all_0 (r_0 + 0) + 0) ≤ 0) (f6 : 1 * texts_0 + ((-1) * x2 + ((-36) * x5 + 0)) ≤ 0) (kz_0_170 : 0 ≤ texts_0 ∧ texts_0 ≤ 100000000) : 1 * texts_0 + ((-1) * x2 + ((-36) * x8 + 0)) ≤ 0 := by
  first | assumption | omega | grind
def o_Mo_writeGroup_at_l2_11 : or_T := (2, 9, [(0, (2, 0, 0, [165])), (2, (0, 0, 99712161, [])), (4, (0, 2, 7, [])), (5, (0, 0, 23, [])), (6, (0, 1, 24, [])), (7, (0, 0, 7, [])), (8, (0, 1, 24, []))], [(6, [8, 5], [1]), (7, [7, 4], [1]), (20, [7, 3, 5], [50, 1, 1, 1005, 1002, 1, 2, 1, 0, 3, 1, 2, 4, 7, 4, 3, 2, 1, 5, 0, 243, 1, 2]), (7, [5, 6], [2]), (20, [6, 3], [30, 0, 1, 0, 0, -1, 3, 2005000]), (20, [6, 3], [30, 0, -1, 0, 0, 1, 3, 2005000]), (20, [3, 2, 5], [30, 0, 1, 1, 170, -1, 0, 0, -36, 0, 0]), (24, [0, 3], [])], [], [], [(20, [3, 2, 8], [30, 0, 1, 1, 170, -1, 0, 0, -36, 0, 0])], [], [(8, 5, 1, 1), (8, 6, -4294967296, 0), (5, 6, -4294967296, -1)])
theorem oo_Mo_writeGroup_at_l2_11 {kA : Nat → ClassId} : or_ok PRD kA GG o_Mo_writeGroup_at_l2_11 := by
  refine or_mk fun A ta ws vs hD hth hl => ?_
  intro t0 r0 t2 k2 t4 k4 t5 k5 t6 k6 t7 k7 t8 k8 d0 d1 d2 f0 f1 f2 f3 f4 f5 f6 f7
  replace f0 := shm_4 f0
  replace f1 := shm_40 f1
  replace f2 := shm_585 f2
  replace f3 := shm_6 f3
  replace f4 := shm_135 f4
  replace f5 := shm_136 f5
  replace f6 := shm_1906 f6
  replace f7 := shm_5 f7
  have q3 : n_v vs 3 = n_v vs 0 := f7.symm
  simp only [q3] at f2 f4 f5 f6
  have kz_0_170 := fdq_13 hD hth r0
  have nf0 : fc_1 PRD (20, [3, 2, 8], [30, 0, 1, 1, 170, -1, 0, 0, -36, 0, 0]) ws (vs) := by
    refine ⟨nf_in hl rfl, sgq_1906 ?_⟩
    · show 1 * w_fi ws (n_v vs 3) 170 + ((-1) * v_iv (n_v vs 2) + ((-36) * v_iv (n_v vs 8) + 0)) ≤ 0
      rw [q3]
      exact vc_Mo_writeGroup_at_l2_11_0 (v_iv (n_v vs 2)) (v_iv (n_v vs 4)) (v_iv (n_v vs 5)) (v_iv (n_v vs 6)) (v_iv (n_v vs 7)) (v_iv (n_v vs 8)) (w_ei ws (w_ar ws (n_v vs 0) 2)) (w_fi ws (n_v vs 0) 5) (w_fi ws (n_v vs 0) 170) k2 k4 k5 k6 k7 k8 d0 d1 d2 f0 f1 f2 f3 f4 f5 f6 kz_0_170
  refine ⟨(fun _ h => (by cases h)), [], trivial, ?_, (fun _ h => (by cases h))⟩
  rw [List.append_nil]
  exact List.forall_mem_cons.mpr ⟨⟨show (20 : Nat) < 100 from by decide, nf0⟩, (fun _ h => (by cases h))⟩
set_option maxHeartbeats 4000000 in
theorem vc_Mo_writeGroup_at_l2_12_0 (x2 : Int) (x4 : Int) (x5 : Int) (x6 : Int) (all_0 : Int → Int) (r_0 : Int) (texts_0 : Int) (k2 : 0 ≤ x2 ∧ x2 ≤ 99712161) (k4 : 2 ≤ x4 ∧ x4 ≤ 7) (k5 : 3 ≤ x5 ∧ x5 ≤ 8) (k6 : 0 ≤ x6 ∧ x6 ≤ 8) (d0 : x6 + 0 ≤ x5 ∧ x5 ≤ x6 + 4294967296) (d1 : x5 + (-4294967296) ≤ x4 ∧ x4 ≤ x5 + (-1)) (f0 : x6 ≤ x5) (f1 : 1 * x6 + ((-1) * all_0 (r_0 + 2) + 0) ≤ 0) (f2 : (-1) * x6 + (1 * all_0 (r_0 + 2) + 0) ≤ 0) (f3 : 1 * texts_0 + ((-1) * x2 + ((-57395) * x5 + (57395 * x4 + 0))) ≤ (-56531)) (kz_0_170 : 0 ≤ texts_0 ∧ texts_0 ≤ 100000000) : 1 * texts_0 + ((-1) * x2 + 0) ≤ 287839 := by
  first | assumption | omega | grind
def o_Mo_writeGroup_at_l2_12 : or_T := (177, 7, [(0, (2, 0, 0, [165])), (2, (0, 0, 99712161, [])), (4, (0, 2, 7, [])), (5, (0, 3, 8, [])), (6, (0, 0, 8, []))], [(7, [5, 6], [3]), (20, [6, 3], [30, 0, 1, 0, 0, -1, 3, 2005002]), (20, [6, 3], [30, 0, -1, 0, 0, 1, 3, 2005002]), (20, [3, 2, 5, 4], [30, -56531, 1, 1, 170, -1, 0, 0, -57395, 0, 0, 57395, 0, 0]), (24, [0, 3], [])], [], [], [(20, [0, 2], [30, 287839, 1, 1, 170, -1, 0, 0])], [], [(5, 6, 0, 4294967296), (4, 5, -4294967296, -1)])
theorem oo_Mo_writeGroup_at_l2_12 {kA : Nat → ClassId} : or_ok PRD kA GG o_Mo_writeGroup_at_l2_12 := by
  refine or_mk fun A ta ws vs hD hth hl => ?_
  intro t0 r0 t2 k2 t4 k4 t5 k5 t6 k6 d0 d1 f0 f1 f2 f3 f4
  replace f1 := shm_132 f1
  replace f2 := shm_133 f2
  replace f3 := shm_1928 f3
  replace f4 := shm_5 f4
  have q3 : n_v vs 3 = n_v vs 0 := f4.symm
  simp only [q3] at f1 f2 f3
  have kz_0_170 := fdq_13 hD hth r0
  have nf0 : fc_1 PRD (20, [0, 2], [30, 287839, 1, 1, 170, -1, 0, 0]) ws (vs) := ⟨nf_in hl rfl, sgq_1926 (vc_Mo_writeGroup_at_l2_12_0 (v_iv (n_v vs 2)) (v_iv (n_v vs 4)) (v_iv (n_v vs 5)) (v_iv (n_v vs 6)) (w_ei ws (w_ar ws (n_v vs 0) 2)) (w_fi ws (n_v vs 0) 5) (w_fi ws (n_v vs 0) 170) k2 k4 k5 k6 d0 d1 (shm_2 f0) f1 f2 f3 kz_0_170)⟩
  refine ⟨(fun _ h => (by cases h)), [], trivial, ?_, (fun _ h => (by cases h))⟩
  rw [List.append_nil]
  exact List.forall_mem_cons.mpr ⟨⟨show (20 : Nat) < 100 from by decide, nf0⟩, (fun _ h => (by cases h))⟩
def o_Mo_writeGroup_at_l2_13 : or_T := (117, 14, [(0, (2, 0, 0, [165])), (2, (0, 0, 99712161, [])), (3, (2, 0, 0, [165])), (4, (0, 2, 6, [])), (5, (0, 3, 7, [])), (6, (0, 4, 8, [])), (7, (2, 0, 0, [167])), (8, (0, 0, 66297, [])), (9, (0, 531, 531, [])), (10, (0, 531, 66828, [])), (11, (0, 534, 66835, [])), (12, (0, 2, 6, []))], [(7, [12, 4], [0]), (10, [12, 7, 11], []), (1, [11, 10, 5], []), (1, [10, 8, 9], []), (9, [8, 3], [5]), (9, [7, 3], [2]), (7, [5, 6], [2]), (20, [6, 3], [30, 0, 1, 0, 0, -1, 3, 2005002]), (20, [6, 3], [30, 0, -1, 0, 0, 1, 3, 2005002]), (20, [3, 2, 5, 4], [30, -56531, 1, 1, 170, -1, 0, 0, -57395, 0, 0, 57395, 0, 0]), (24, [0, 3], [])], [], [(0, 0, 99999994, [])], [(20, [3, 14], [30, 0, 1, 1, 170, -1, 0, 0]), (23, [14, 2, 5, 4], [-56531, 1, -1, -57395, 57395])], [], [(12, 4, 0, 0), (11, 5, 531, 66828), (11, 6, -4294967296, 66827), (11, 10, 3, 7), (11, 8, 534, 538), (10, 8, 531, 531), (5, 6, -4294967296, -1), (4, 5, -4294967296, -1)])
theorem oo_Mo_writeGroup_at_l2_13 {kA : Nat → ClassId} : or_ok PRD kA GG o_Mo_writeGroup_at_l2_13 := by
  refine or_mk fun A ta ws vs hD hth hl => ?_
  intro t0 r0 t2 k2 t3 r3 t4 k4 t5 k5 t6 k6 t7 r7 t8 k8 t9 k9 t10 k10 t11 k11 t12 k12 d0 d1 d2 d3 d4 d5 d6 d7 f0 f1 f2 f3 f4 f5 f6 f7 f8 f9 f10
  replace f0 := shm_37 f0
  replace f1 := shm_106 f1
  replace f2 := shm_12 f2
  replace f3 := shm_12 f3
  replace f4 := shm_109 f4
  replace f5 := shm_129 f5
  replace f6 := shm_6 f6
  replace f7 := shm_132 f7
  replace f8 := shm_133 f8
  replace f9 := shm_1928 f9
  replace f10 := shm_5 f10
  have q3 : n_v vs 3 = n_v vs 0 := f10.symm
  simp only [q3] at f4 f5 f7 f8 f9
  have cr_0_2 := fdq_12 hD hth r0
  have ad_7 : v_ad (n_v vs 7) = w_ar ws (n_v vs 0) 2 := congrArg v_ad f5
  simp only [ad_7] at f1
  have h1 : v_iv (n_v vs 12) = w_ei ws (w_ar ws (n_v vs 0) 2) (v_iv (n_v vs 11)) := f1
  have g4 : v_iv (n_v vs 8) = w_fi ws (n_v vs 0) 5 := congrArg v_iv f4
  have cg1_F5_2 : v_iv (n_v vs 11) = w_fi ws (n_v vs 0) 5 + 2 → w_el ws (w_ar ws (n_v vs 0) 2) (v_iv (n_v vs 11)).toNat = w_el ws (w_ar ws (n_v vs 0) 2) (w_fi ws (n_v vs 0) 5 + 2).toNat := fun h => by rw [h]
  have kz_0_170 := fdq_13 hD hth r0
  have kv0 := fdq_13 hD hth r0
  obtain ⟨x, ex, hx⟩ := iv_ex (ta := ta) (lo := 0) (hi := 99999994) (z := w_fi ws (n_v vs 0) 170) (by omega) (by omega) (by omega) (by omega)
  have ex2 : v_iv (Value.int x) = w_fi ws (n_v vs 0) 170 := ex
  have ex3 : 0 ≤ v_iv (Value.int x) ∧ v_iv (Value.int x) ≤ 99999994 := tv_rng hx
  have e_2 : n_v (vs ++ [Value.int x]) 2 = n_v vs 2 := n_v_old (by rw [hl]; decide)
  have e_3 : n_v (vs ++ [Value.int x]) 3 = n_v vs 3 := n_v_old (by rw [hl]; decide)
  have e_4 : n_v (vs ++ [Value.int x]) 4 = n_v vs 4 := n_v_old (by rw [hl]; decide)
  have e_5 : n_v (vs ++ [Value.int x]) 5 = n_v vs 5 := n_v_old (by rw [hl]; decide)
  have e_14 : n_v (vs ++ [Value.int x]) 14 = Value.int x := n_v_new hl
  have nf0 : fc_1 PRD (20, [3, 14], [30, 0, 1, 1, 170, -1, 0, 0]) ws (vs ++ [Value.int x]) := by
    refine ⟨nf_inA hl rfl, sgq_140 ?_⟩
    · show 1 * w_fi ws (n_v (vs ++ [Value.int x]) 3) 170 + ((-1) * v_iv (n_v (vs ++ [Value.int x]) 14) + 0) ≤ 0
      simp only [e_3, e_14, q3]
      omega
  have nf1 : fc_1 PRD (23, [14, 2, 5, 4], [-56531, 1, -1, -57395, 57395]) ws (vs ++ [Value.int x]) := by
    refine ⟨nf_inA hl rfl, sgq_1929 ?_⟩
    · show 1 * v_iv (n_v (vs ++ [Value.int x]) 14) + ((-1) * v_iv (n_v (vs ++ [Value.int x]) 2) + ((-57395) * v_iv (n_v (vs ++ [Value.int x]) 5) + (57395 * v_iv (n_v (vs ++ [Value.int x]) 4) + 0))) ≤ (-56531)
      simp only [e_2, e_4, e_5, e_14]
      omega
  exact ⟨(fun _ h => (by cases h)), [Value.int x], ag_one hx, List.forall_mem_cons.mpr ⟨⟨show (20 : Nat) < 100 from by decide, nf0⟩, List.forall_mem_cons.mpr ⟨⟨show (23 : Nat) < 100 from by decide, nf1⟩, (fun _ h => (by cases h))⟩⟩, (fun _ h => (by cases h))⟩
set_option maxHeartbeats 4000000 in
theorem vc_Mo_writeGroup_at_l2_14_0 (x2 : Int) (x4 : Int) (x5 : Int) (x6 : Int) (x8 : Int) (x12 : Int) (x14 : Int) (r_0 : Int) (all_0 : Int → Int) (texts_0 : Int) (gx : Int) (k2 : 0 ≤ x2 ∧ x2 ≤ 99712161) (k4 : 2 ≤ x4 ∧ x4 ≤ 6) (k5 : 3 ≤ x5 ∧ x5 ≤ 7) (k6 : 4 ≤ x6 ∧ x6 ≤ 8) (k8 : 0 ≤ x8 ∧ x8 ≤ 66297) (k12 : 2 ≤ x12 ∧ x12 ≤ 6) (k14 : 0 ≤ x14 ∧ x14 ≤ 99999994) (d0 : x4 + 0 ≤ x12 ∧ x12 ≤ x4 + 0) (d1 : x6 + (-4294967296) ≤ x5 ∧ x5 ≤ x6 + (-1)) (d2 : x5 + (-4294967296) ≤ x4 ∧ x4 ≤ x5 + (-1)) (g0 : x8 = r_0) (f2 : 1 * x14 + ((-1) * x2 + ((-57395) * x5 + (57395 * x4 + 0))) ≤ (-56531)) (f3 : 1 * x6 + ((-1) * all_0 (r_0 + 2) + 0) ≤ 0) (f4 : (-1) * x6 + (1 * all_0 (r_0 + 2) + 0) ≤ 0) (f6 : 1 * texts_0 + ((-1) * x14 + 0) ≤ 6) (f8 : 1 * x14 + ((-1) * x2 + ((-57395) * x5 + (57395 * x4 + 0))) ≤ (-56531)) (f9 : x12 = x4) (f10 : x5 < x6) (kz_0_170 : 0 ≤ texts_0 ∧ texts_0 ≤ 100000000) (ex2 : gx = texts_0) (ex3 : 0 ≤ gx ∧ gx ≤ 99999992) : 1 * texts_0 + ((-1) * gx + 0) ≤ 0 := by
  first | assumption | omega | grind
set_option maxHeartbeats 4000000 in
theorem vc_Mo_writeGroup_at_l2_14_1 (x2 : Int) (x4 : Int) (x5 : Int) (x6 : Int) (x8 : Int) (x12 : Int) (x14 : Int) (r_0 : Int) (all_0 : Int → Int) (texts_0 : Int) (gx : Int) (k2 : 0 ≤ x2 ∧ x2 ≤ 99712161) (k4 : 2 ≤ x4 ∧ x4 ≤ 6) (k5 : 3 ≤ x5 ∧ x5 ≤ 7) (k6 : 4 ≤ x6 ∧ x6 ≤ 8) (k8 : 0 ≤ x8 ∧ x8 ≤ 66297) (k12 : 2 ≤ x12 ∧ x12 ≤ 6) (k14 : 0 ≤ x14 ∧ x14 ≤ 99999994) (d0 : x4 + 0 ≤ x12 ∧ x12 ≤ x4 + 0) (d1 : x6 + (-4294967296) ≤ x5 ∧ x5 ≤ x6 + (-1)) (d2 : x5 + (-4294967296) ≤ x4 ∧ x4 ≤ x5 + (-1)) (g0 : x8 = r_0) (f2 : 1 * x14 + ((-1) * x2 + ((-57395) * x5 + (57395 * x4 + 0))) ≤ (-56531)) (f3 : 1 * x6 + ((-1) * all_0 (r_0 + 2) + 0) ≤ 0) (f4 : (-1) * x6 + (1 * all_0 (r_0 + 2) + 0) ≤ 0) (f6 : 1 * texts_0 + ((-1) * x14 + 0) ≤ 6) (f8 : 1 * x14 + ((-1) * x2 + ((-57395) * x5 + (57395 * x4 + 0))) ≤ (-56531)) (f9 : x12 = x4) (f10 : x5 < x6) (kz_0_170 : 0 ≤ texts_0 ∧ texts_0 ≤ 100000000) (ex2 : gx = texts_0) (ex3 : 0 ≤ gx ∧ gx ≤ 99999992) : 1 * gx + ((-1) * x2 + ((-57395) * x5 + (57395 * x4 + 0))) ≤ (-56525) := by
  first | assumption | omega | grind
def o_Mo_writeGroup_at_l2_14 : or_T := (149, 24, [(0, (2, 0, 0, [165])), (2, (0, 0, 99712161, [])), (3, (2, 0, 0, [165])), (4, (0, 2, 6, [])), (5, (0, 3, 7, [])), (6, (0, 4, 8, [])), (7, (2, 0, 0, [167])), (8, (0, 0, 66297, [])), (12, (0, 2, 6, [])), (14, (0, 0, 99999994, []))], [(9, [8, 3], [5]), (9, [7, 3], [2]), (23, [14, 2, 5, 4], [-56531, 1, -1, -57395, 57395]), (20, [6, 3], [30, 0, 1, 0, 0, -1, 3, 2005002]), (20, [6, 3], [30, 0, -1, 0, 0, 1, 3, 2005002]), (24, [0, 3], []), (20, [3, 14], [30, 6, 1, 1, 170, -1, 0, 0]), (102, [14], [7770675568902916283677847627294075626569627356208558085007249638955617140820833992704, 165170]), (23, [14, 2, 5, 4], [-56531, 1, -1, -57395, 57395]), (7, [12, 4], [0]), (7, [5, 6], [2])], [], [(0, 0, 99999992, [])], [(20, [3, 24], [30, 0, 1, 1, 170, -1, 0, 0]), (23, [24, 2, 5, 4], [-56525, 1, -1, -57395, 57395])], [], [(12, 4, 0, 0), (5, 6, -4294967296, -1), (4, 5, -4294967296, -1)])
theorem oo_Mo_writeGroup_at_l2_14 {kA : Nat → ClassId} : or_ok PRD kA GG o_Mo_writeGroup_at_l2_14 := by
  refine or_mk fun A ta ws vs hD hth hl => ?_
  intro t0 r0 t2 k2 t3 r3 t4 k4 t5 k5 t6 k6 t7 r7 t8 k8 t12 k12 t14 k14 d0 d1 d2 f0 f1 f2 f3 f4 f5 f6 ta1 w1 le1 s1 f8 f9 f10
  replace f0 := shm_109 f0
  replace f1 := shm_129 f1
  replace f2 := shm_1929 f2
  replace f3 := shm_132 f3
  replace f4 := shm_133 f4
  replace f5 := shm_5 f5
  replace f6 := shm_235 f6
  replace f8 := shm_1929 f8
  replace f9 := shm_37 f9
  replace f10 := shm_6 f10
  have q3 : n_v vs 3 = n_v vs 0 := f5.symm
  simp only [q3] at f0 f1 f3 f4 f6
  have cr_0_2 := fdq_12 hD hth r0
  have ad_7 : v_ad (n_v vs 7) = w_ar ws (n_v vs 0) 2 := congrArg v_ad f1
  have g0 : v_iv (n_v vs 8) = w_fi ws (n_v vs 0) 5 := congrArg v_iv f0
  have kz_0_170 := fdq_13 hD hth r0
  have kv0 := fdq_13 hD hth r0
  obtain ⟨x, ex, hx⟩ := iv_ex (ta := ta) (lo := 0) (hi := 99999992) (z := w_fi ws (n_v vs 0) 170) (by omega) (by omega) (by omega) (by omega)
  have ex2 : v_iv (Value.int x) = w_fi ws (n_v vs 0) 170 := ex
  have ex3 : 0 ≤ v_iv (Value.int x) ∧ v_iv (Value.int x) ≤ 99999992 := tv_rng hx
  have e_2 : n_v (vs ++ [Value.int x]) 2 = n_v vs 2 := n_v_old (by rw [hl]; decide)
  have e_3 : n_v (vs ++ [Value.int x]) 3 = n_v vs 3 := n_v_old (by rw [hl]; decide)
  have e_4 : n_v (vs ++ [Value.int x]) 4 = n_v vs 4 := n_v_old (by rw [hl]; decide)
  have e_5 : n_v (vs ++ [Value.int x]) 5 = n_v vs 5 := n_v_old (by rw [hl]; decide)
  have e_24 : n_v (vs ++ [Value.int x]) 24 = Value.int x := n_v_new hl
  have nf0 : fc_1 PRD (20, [3, 24], [30, 0, 1, 1, 170, -1, 0, 0]) ws (vs ++ [Value.int x]) := by
    refine ⟨nf_inA hl rfl, sgq_140 ?_⟩
    · show 1 * w_fi ws (n_v (vs ++ [Value.int x]) 3) 170 + ((-1) * v_iv (n_v (vs ++ [Value.int x]) 24) + 0) ≤ 0
      simp only [e_3, e_24, q3]
      exact vc_Mo_writeGroup_at_l2_14_0 (v_iv (n_v vs 2)) (v_iv (n_v vs 4)) (v_iv (n_v vs 5)) (v_iv (n_v vs 6)) (v_iv (n_v vs 8)) (v_iv (n_v vs 12)) (v_iv (n_v vs 14)) (w_fi ws (n_v vs 0) 5) (w_ei ws (w_ar ws (n_v vs 0) 2)) (w_fi ws (n_v vs 0) 170) (v_iv (Value.int x)) k2 k4 k5 k6 k8 k12 k14 d0 d1 d2 g0 f2 f3 f4 f6 f8 f9 f10 kz_0_170 ex2 ex3
  have nf1 : fc_1 PRD (23, [24, 2, 5, 4], [-56525, 1, -1, -57395, 57395]) ws (vs ++ [Value.int x]) := by
    refine ⟨nf_inA hl rfl, sgq_1930 ?_⟩
    · show 1 * v_iv (n_v (vs ++ [Value.int x]) 24) + ((-1) * v_iv (n_v (vs ++ [Value.int x]) 2) + ((-57395) * v_iv (n_v (vs ++ [Value.int x]) 5) + (57395 * v_iv (n_v (vs ++ [Value.int x]) 4) + 0))) ≤ (-56525)
      simp only [e_2, e_4, e_5, e_24]
      exact vc_Mo_writeGroup_at_l2_14_1 (v_iv (n_v vs 2)) (v_iv (n_v vs 4)) (v_iv (n_v vs 5)) (v_iv (n_v vs 6)) (v_iv (n_v vs 8)) (v_iv (n_v vs 12)) (v_iv (n_v vs 14)) (w_fi ws (n_v vs 0) 5) (w_ei ws (w_ar ws (n_v vs 0) 2)) (w_fi ws (n_v vs 0) 170) (v_iv (Value.int x)) k2 k4 k5 k6 k8 k12 k14 d0 d1 d2 g0 f2 f3 f4 f6 f8 f9 f10 kz_0_170 ex2 ex3
  exact ⟨(fun _ h => (by cases h)), [Value.int x], ag_one hx, List.forall_mem_cons.mpr ⟨⟨show (20 : Nat) < 100 from by decide, nf0⟩, List.forall_mem_cons.mpr ⟨⟨show (23 : Nat) < 100 from by decide, nf1⟩, (fun _ h => (by cases h))⟩⟩, (fun _ h => (by cases h))⟩
set_option maxHeartbeats 4000000 in
theorem vc_Mo_writeGroup_at_l2_15_0 (x2 : Int) (x4 : Int) (x5 : Int) (x6 : Int) (x12 : Int) (x14 : Int) (x24 : Int) (all_0 : Int → Int) (r_0 : Int) (texts_0 : Int) (gx : Int) (k2 : 0 ≤ x2 ∧ x2 ≤ 99712161) (k4 : 2 ≤ x4 ∧ x4 ≤ 6) (k5 : 3 ≤ x5 ∧ x5 ≤ 7) (k6 : 4 ≤ x6 ∧ x6 ≤ 8) (k12 : 2 ≤ x12 ∧ x12 ≤ 6) (k14 : 0 ≤ x14 ∧ x14 ≤ 99999994) (k24 : 0 ≤ x24 ∧ x24 ≤ 99999992) (d0 : x4 + 0 ≤ x12 ∧ x12 ≤ x4 + 0) (d1 : x6 + (-4294967296) ≤ x5 ∧ x5 ≤ x6 + (-1)) (d2 : x5 + (-4294967296) ≤ x4 ∧ x4 ≤ x5 + (-1)) (f0 : 1 * x24 + ((-1) * x2 + ((-57395) * x5 + (57395 * x4 + 0))) ≤ (-56525)) (f1 : 1 * x14 + ((-1) * x2 + ((-57395) * x5 + (57395 * x4 + 0))) ≤ (-56531)) (f2 : 1 * x6 + ((-1) * all_0 (r_0 + 2) + 0) ≤ 0) (f3 : (-1) * x6 + (1 * all_0 (r_0 + 2) + 0) ≤ 0) (f5 : 1 * texts_0 + ((-1) * x24 + 0) ≤ 8) (f7 : 1 * x24 + ((-1) * x2 + ((-57395) * x5 + (57395 * x4 + 0))) ≤ (-56525)) (f8 : 1 * x14 + ((-1) * x2 + ((-57395) * x5 + (57395 * x4 + 0))) ≤ (-56531)) (f10 : 1 * x14 + ((-1) * x2 + ((-57395) * x5 + (57395 * x4 + 0))) ≤ (-56531)) (f11 : x12 = x4) (f12 : x5 < x6) (kz_0_170 : 0 ≤ texts_0 ∧ texts_0 ≤ 100000000) (ex2 : gx = texts_0) (ex3 : 0 ≤ gx ∧ gx ≤ 99999997) : 1 * texts_0 + ((-1) * gx + 0) ≤ 0 := by
  first | assumption | omega | grind
set_option maxHeartbeats 4000000 in
theorem vc_Mo_writeGroup_at_l2_15_1 (x2 : Int) (x4 : Int) (x5 : Int) (x6 : Int) (x12 : Int) (x14 : Int) (x24 : Int) (all_0 : Int → Int) (r_0 : Int) (texts_0 : Int) (gx : Int) (k2 : 0 ≤ x2 ∧ x2 ≤ 99712161) (k4 : 2 ≤ x4 ∧ x4 ≤ 6) (k5 : 3 ≤ x5 ∧ x5 ≤ 7) (k6 : 4 ≤ x6 ∧ x6 ≤ 8) (k12 : 2 ≤ x12 ∧ x12 ≤ 6) (k14 : 0 ≤ x14 ∧ x14 ≤ 99999994) (k24 : 0 ≤ x24 ∧ x24 ≤ 99999992) (d0 : x4 + 0 ≤ x12 ∧ x12 ≤ x4 + 0) (d1 : x6 + (-4294967296) ≤ x5 ∧ x5 ≤ x6 + (-1)) (d2 : x5 + (-4294967296) ≤ x4 ∧ x4 ≤ x5 + (-1)) (f0 : 1 * x24 + ((-1) * x2 + ((-57395) * x5 + (57395 * x4 + 0))) ≤ (-56525)) (f1 : 1 * x14 + ((-1) * x2 + ((-57395) * x5 + (57395 * x4 + 0))) ≤ (-56531)) (f2 : 1 * x6 + ((-1) * all_0 (r_0 + 2) + 0) ≤ 0) (f3 : (-1) * x6 + (1 * all_0 (r_0 + 2) + 0) ≤ 0) (f5 : 1 * texts_0 + ((-1) * x24 + 0) ≤ 8) (f7 : 1 * x24 + ((-1) * x2 + ((-57395) * x5 + (57395 * x4 + 0))) ≤ (-56525)) (f8 : 1 * x14 + ((-1) * x2 + ((-57395) * x5 + (57395 * x4 + 0))) ≤ (-56531)) (f10 : 1 * x14 + ((-1) * x2 + ((-57395) * x5 + (57395 * x4 + 0))) ≤ (-56531)) (f11 : x12 = x4) (f12 : x5 < x6) (kz_0_170 : 0 ≤ texts_0 ∧ texts_0 ≤ 100000000) (ex2 : gx = texts_0) (ex3 : 0 ≤ gx ∧ gx ≤ 99999997) : 1 * gx + ((-1) * x2 + ((-57395) * x5 + (57395 * x4 + 0))) ≤ (-56517) := by
  first | assumption | omega | grind
def o_Mo_writeGroup_at_l2_15 : or_T := (156, 26, [(0, (2, 0, 0, [165])), (2, (0, 0, 99712161, [])), (3, (2, 0, 0, [165])), (4, (0, 2, 6, [])), (5, (0, 3, 7, [])), (6, (0, 4, 8, [])), (12, (0, 2, 6, [])), (14, (0, 0, 99999994, [])), (24, (0, 0, 99999992, []))], [(23, [24, 2, 5, 4], [-56525, 1, -1, -57395, 57395]), (23, [14, 2, 5, 4], [-56531, 1, -1, -57395, 57395]), (20, [6, 3], [30, 0, 1, 0, 0, -1, 3, 2005002]), (20, [6, 3], [30, 0, -1, 0, 0, 1, 3, 2005002]), (24, [0, 3], []), (20, [3, 24], [30, 8, 1, 1, 170, -1, 0, 0]), (102, [24], [7770675568902916283677847627294075626569627356208558085007249638955617140820833992704, 165170]), (23, [24, 2, 5, 4], [-56525, 1, -1, -57395, 57395]), (23, [14, 2, 5, 4], [-56531, 1, -1, -57395, 57395]), (102, [14], [7770675568902916283677847627294075626569627356208558085007249638955617140820833992704, 165170]), (23, [14, 2, 5, 4], [-56531, 1, -1, -57395, 57395]), (7, [12, 4], [0]), (7, [5, 6], [2])], [], [(0, 0, 99999997, [])], [(20, [3, 26], [30, 0, 1, 1, 170, -1, 0, 0]), (23, [26, 2, 5, 4], [-56517, 1, -1, -57395, 57395])], [], [(12, 4, 0, 0), (5, 6, -4294967296, -1), (4, 5, -4294967296, -1)])
theorem oo_Mo_writeGroup_at_l2_15 {kA : Nat → ClassId} : or_ok PRD kA GG o_Mo_writeGroup_at_l2_15 := by
  refine or_mk fun A ta ws vs hD hth hl => ?_
  intro t0 r0 t2 k2 t3 r3 t4 k4 t5 k5 t6 k6 t12 k12 t14 k14 t24 k24 d0 d1 d2 f0 f1 f2 f3 f4 f5 ta1 w1 le1 s1 f7 f8 ta2 w2 le2 s2 f10 f11 f12
  replace f0 := shm_1930 f0
  replace f1 := shm_1929 f1
  replace f2 := shm_132 f2
  replace f3 := shm_133 f3
  replace f4 := shm_5 f4
  replace f5 := shm_172 f5
  replace f7 := shm_1930 f7
  replace f8 := shm_1929 f8
  replace f10 := shm_1929 f10
  replace f11 := shm_37 f11
  replace f12 := shm_6 f12
  have q3 : n_v vs 3 = n_v vs 0 := f4.symm
  simp only [q3] at f2 f3 f5
  have cr_0_2 := fdq_12 hD hth r0
  have kz_0_170 := fdq_13 hD hth r0
  have kv0 := fdq_13 hD hth r0
  obtain ⟨x, ex, hx⟩ := iv_ex (ta := ta) (lo := 0) (hi := 99999997) (z := w_fi ws (n_v vs 0) 170) (by omega) (by omega) (by omega) (by omega)
  have ex2 : v_iv (Value.int x) = w_fi ws (n_v vs 0) 170 := ex
  have ex3 : 0 ≤ v_iv (Value.int x) ∧ v_iv (Value.int x) ≤ 99999997 := tv_rng hx
  have e_2 : n_v (vs ++ [Value.int x]) 2 = n_v vs 2 := n_v_old (by rw [hl]; decide)
  have e_3 : n_v (vs ++ [Value.int x]) 3 = n_v vs 3 := n_v_old (by rw [hl]; decide)
  have e_4 : n_v (vs ++ [Value.int x]) 4 = n_v vs 4 := n_v_old (by rw [hl]; decide)
  have e_5 : n_v (vs ++ [Value.int x]) 5 = n_v vs 5 := n_v_old (by rw [hl]; decide)
  have e_26 : n_v (vs ++ [Value.int x]) 26 = Value.int x := n_v_new hl
  have nf0 : fc_1 PRD (20, [3, 26], [30, 0, 1, 1, 170, -1, 0, 0]) ws (vs ++ [Value.int x]) := by
    refine ⟨nf_inA hl rfl, sgq_140 ?_⟩
    · show 1 * w_fi ws (n_v (vs ++ [Value.int x]) 3) 170 + ((-1) * v_iv (n_v (vs ++ [Value.int x]) 26) + 0) ≤ 0
      simp only [e_3, e_26, q3]
      exact vc_Mo_writeGroup_at_l2_15_0 (v_iv (n_v vs 2)) (v_iv (n_v vs 4)) (v_iv (n_v vs 5)) (v_iv (n_v vs 6)) (v_iv (n_v vs 12)) (v_iv (n_v vs 14)) (v_iv (n_v vs 24)) (w_ei ws (w_ar ws (n_v vs 0) 2)) (w_fi ws (n_v vs 0) 5) (w_fi ws (n_v vs 0) 170) (v_iv (Value.int x)) k2 k4 k5 k6 k12 k14 k24 d0 d1 d2 f0 f1 f2 f3 f5 f7 f8 f10 f11 f12 kz_0_170 ex2 ex3
  have nf1 : fc_1 PRD (23, [26, 2, 5, 4], [-56517, 1, -1, -57395, 57395]) ws (vs ++ [Value.int x]) := by
    refine ⟨nf_inA hl rfl, sgq_1931 ?_⟩
    · show 1 * v_iv (n_v (vs ++ [Value.int x]) 26) + ((-1) * v_iv (n_v (vs ++ [Value.int x]) 2) + ((-57395) * v_iv (n_v (vs ++ [Value.int x]) 5) + (57395 * v_iv (n_v (vs ++ [Value.int x]) 4) + 0))) ≤ (-56517)
      simp only [e_2, e_4, e_5, e_26]
      exact vc_Mo_writeGroup_at_l2_15_1 (v_iv (n_v vs 2)) (v_iv (n_v vs 4)) (v_iv (n_v vs 5)) (v_iv (n_v vs 6)) (v_iv (n_v vs 12)) (v_iv (n_v vs 14)) (v_iv (n_v vs 24)) (w_ei ws (w_ar ws (n_v vs 0) 2)) (w_fi ws (n_v vs 0) 5) (w_fi ws (n_v vs 0) 170) (v_iv (Value.int x)) k2 k4 k5 k6 k12 k14 k24 d0 d1 d2 f0 f1 f2 f3 f5 f7 f8 f10 f11 f12 kz_0_170 ex2 ex3
  exact ⟨(fun _ h => (by cases h)), [Value.int x], ag_one hx, List.forall_mem_cons.mpr ⟨⟨show (20 : Nat) < 100 from by decide, nf0⟩, List.forall_mem_cons.mpr ⟨⟨show (23 : Nat) < 100 from by decide, nf1⟩, (fun _ h => (by cases h))⟩⟩, (fun _ h => (by cases h))⟩
set_option maxHeartbeats 4000000 in
theorem vc_Mo_writeGroup_at_l2_16_0 (x2 : Int) (x4 : Int) (x5 : Int) (x6 : Int) (x12 : Int) (x14 : Int) (x24 : Int) (x26 : Int) (all_0 : Int → Int) (r_0 : Int) (texts_0 : Int) (gx : Int) (k2 : 0 ≤ x2 ∧ x2 ≤ 99712161) (k4 : 2 ≤ x4 ∧ x4 ≤ 6) (k5 : 3 ≤ x5 ∧ x5 ≤ 7) (k6 : 4 ≤ x6 ∧ x6 ≤ 8) (k12 : 2 ≤ x12 ∧ x12 ≤ 6) (k14 : 0 ≤ x14 ∧ x14 ≤ 99999994) (k24 : 0 ≤ x24 ∧ x24 ≤ 99999992) (k26 : 0 ≤ x26 ∧ x26 ≤ 99999997) (d0 : x4 + 0 ≤ x12 ∧ x12 ≤ x4 + 0) (d1 : x6 + (-4294967296) ≤ x5 ∧ x5 ≤ x6 + (-1)) (d2 : x5 + (-4294967296) ≤ x4 ∧ x4 ≤ x5 + (-1)) (f0 : 1 * x26 + ((-1) * x2 + ((-57395) * x5 + (57395 * x4 + 0))) ≤ (-56517)) (f1 : 1 * x24 + ((-1) * x2 + ((-57395) * x5 + (57395 * x4 + 0))) ≤ (-56525)) (f2 : 1 * x14 + ((-1) * x2 + ((-57395) * x5 + (57395 * x4 + 0))) ≤ (-56531)) (f3 : 1 * x6 + ((-1) * all_0 (r_0 + 2) + 0) ≤ 0) (f4 : (-1) * x6 + (1 * all_0 (r_0 + 2) + 0) ≤ 0) (f6 : 1 * texts_0 + ((-1) * x26 + 0) ≤ 3) (f8 : 1 * x26 + ((-1) * x2 + ((-57395) * x5 + (57395 * x4 + 0))) ≤ (-56517)) (f9 : 1 * x24 + ((-1) * x2 + ((-57395) * x5 + (57395 * x4 + 0))) ≤ (-56525)) (f10 : 1 * x14 + ((-1) * x2 + ((-57395) * x5 + (57395 * x4 + 0))) ≤ (-56531)) (f12 : 1 * x24 + ((-1) * x2 + ((-57395) * x5 + (57395 * x4 + 0))) ≤ (-56525)) (f13 : 1 * x14 + ((-1) * x2 + ((-57395) * x5 + (57395 * x4 + 0))) ≤ (-56531)) (f15 : 1 * x14 + ((-1) * x2 + ((-57395) * x5 + (57395 * x4 + 0))) ≤ (-56531)) (f16 : x12 = x4) (f17 : x5 < x6) (kz_0_170 : 0 ≤ texts_0 ∧ texts_0 ≤ 100000000) (ex2 : gx = texts_0) (ex3 : 0 ≤ gx ∧ gx ≤ 99942624) : 1 * texts_0 + ((-1) * gx + 0) ≤ 0 := by
  first | assumption | omega | grind
set_option maxHeartbeats 4000000 in
theorem vc_Mo_writeGroup_at_l2_16_1 (x2 : Int) (x4 : Int) (x5 : Int) (x6 : Int) (x12 : Int) (x14 : Int) (x24 : Int) (x26 : Int) (all_0 : Int → Int) (r_0 : Int) (texts_0 : Int) (gx : Int) (k2 : 0 ≤ x2 ∧ x2 ≤ 99712161) (k4 : 2 ≤ x4 ∧ x4 ≤ 6) (k5 : 3 ≤ x5 ∧ x5 ≤ 7) (k6 : 4 ≤ x6 ∧ x6 ≤ 8) (k12 : 2 ≤ x12 ∧ x12 ≤ 6) (k14 : 0 ≤ x14 ∧ x14 ≤ 99999994) (k24 : 0 ≤ x24 ∧ x24 ≤ 99999992) (k26 : 0 ≤ x26 ∧ x26 ≤ 99999997) (d0 : x4 + 0 ≤ x12 ∧ x12 ≤ x4 + 0) (d1 : x6 + (-4294967296) ≤ x5 ∧ x5 ≤ x6 + (-1)) (d2 : x5 + (-4294967296) ≤ x4 ∧ x4 ≤ x5 + (-1)) (f0 : 1 * x26 + ((-1) * x2 + ((-57395) * x5 + (57395 * x4 + 0))) ≤ (-56517)) (f1 : 1 * x24 + ((-1) * x2 + ((-57395) * x5 + (57395 * x4 + 0))) ≤ (-56525)) (f2 : 1 * x14 + ((-1) * x2 + ((-57395) * x5 + (57395 * x4 + 0))) ≤ (-56531)) (f3 : 1 * x6 + ((-1) * all_0 (r_0 + 2) + 0) ≤ 0) (f4 : (-1) * x6 + (1 * all_0 (r_0 + 2) + 0) ≤ 0) (f6 : 1 * texts_0 + ((-1) * x26 + 0) ≤ 3) (f8 : 1 * x26 + ((-1) * x2 + ((-57395) * x5 + (57395 * x4 + 0))) ≤ (-56517)) (f9 : 1 * x24 + ((-1) * x2 + ((-57395) * x5 + (57395 * x4 + 0))) ≤ (-56525)) (f10 : 1 * x14 + ((-1) * x2 + ((-57395) * x5 + (57395 * x4 + 0))) ≤ (-56531)) (f12 : 1 * x24 + ((-1) * x2 + ((-57395) * x5 + (57395 * x4 + 0))) ≤ (-56525)) (f13 : 1 * x14 + ((-1) * x2 + ((-57395) * x5 + (57395 * x4 + 0))) ≤ (-56531)) (f15 : 1 * x14 + ((-1) * x2 + ((-57395) * x5 + (57395 * x4 + 0))) ≤ (-56531)) (f16 : x12 = x4) (f17 : x5 < x6) (kz_0_170 : 0 ≤ texts_0 ∧ texts_0 ≤ 100000000) (ex2 : gx = texts_0) (ex3 : 0 ≤ gx ∧ gx ≤ 99942624) : 1 * gx + ((-1) * x2 + ((-57395) * x5 + (57395 * x4 + 0))) ≤ (-56514) := by
  first | assumption | omega | grind
def o_Mo_writeGroup_at_l2_16 : or_T := (161, 27, [(0, (2, 0, 0, [165])), (2, (0, 0, 99712161, [])), (3, (2, 0, 0, [165])), (4, (0, 2, 6, [])), (5, (0, 3, 7, [])), (6, (0, 4, 8, [])), (12, (0, 2, 6, [])), (14, (0, 0, 99999994, [])), (24, (0, 0, 99999992, [])), (26, (0, 0, 99999997, []))], [(23, [26, 2, 5, 4], [-56517, 1, -1, -57395, 57395]), (23, [24, 2, 5, 4], [-56525, 1, -1, -57395, 57395]), (23, [14, 2, 5, 4], [-56531, 1, -1, -57395, 57395]), (20, [6, 3], [30, 0, 1, 0, 0, -1, 3, 2005002]), (20, [6, 3], [30, 0, -1, 0, 0, 1, 3, 2005002]), (24, [0, 3], []), (20, [3, 26], [30, 3, 1, 1, 170, -1, 0, 0]), (102, [26], [7770675568902916283677847627294075626569627356208558085007249638955617140820833992704, 165170]), (23, [26, 2, 5, 4], [-56517, 1, -1, -57395, 57395]), (23, [24, 2, 5, 4], [-56525, 1, -1, -57395, 57395]), (23, [14, 2, 5, 4], [-56531, 1, -1, -57395, 57395]), (102, [24], [7770675568902916283677847627294075626569627356208558085007249638955617140820833992704, 165170]), (23, [24, 2, 5, 4], [-56525, 1, -1, -57395, 57395]), (23, [14, 2, 5, 4], [-56531, 1, -1, -57395, 57395]), (102, [14], [7770675568902916283677847627294075626569627356208558085007249638955617140820833992704, 165170]), (23, [14, 2, 5, 4], [-56531, 1, -1, -57395, 57395]), (7, [12, 4], [0]), (7, [5, 6], [2])], [], [(0, 0, 99942624, [])], [(20, [3, 27], [30, 0, 1, 1, 170, -1, 0, 0]), (23, [27, 2, 5, 4], [-56514, 1, -1, -57395, 57395])], [], [(12, 4, 0, 0), (5, 6, -4294967296, -1), (4, 5, -4294967296, -1)])
theorem oo_Mo_writeGroup_at_l2_16 {kA : Nat → ClassId} : or_ok PRD kA GG o_Mo_writeGroup_at_l2_16 := by
  refine or_mk fun A ta ws vs hD hth hl => ?_
  intro t0 r0 t2 k2 t3 r3 t4 k4 t5 k5 t6 k6 t12 k12 t14 k14 t24 k24 t26 k26 d0 d1 d2 f0 f1 f2 f3 f4 f5 f6 ta1 w1 le1 s1 f8 f9 f10 ta2 w2 le2 s2 f12 f13 ta3 w3 le3 s3 f15 f16 f17
  replace f0 := shm_1931 f0
  replace f1 := shm_1930 f1
  replace f2 := shm_1929 f2
  replace f3 := shm_132 f3
  replace f4 := shm_133 f4
  replace f5 := shm_5 f5
  replace f6 := shm_236 f6
  replace f8 := shm_1931 f8
  replace f9 := shm_1930 f9
  replace f10 := shm_1929 f10
  replace f12 := shm_1930 f12
  replace f13 := shm_1929 f13
  replace f15 := shm_1929 f15
  replace f16 := shm_37 f16
  replace f17 := shm_6 f17
  have q3 : n_v vs 3 = n_v vs 0 := f5.symm
  simp only [q3] at f3 f4 f6
  have cr_0_2 := fdq_12 hD hth r0
  have kz_0_170 := fdq_13 hD hth r0
  have kv0 := fdq_13 hD hth r0
  obtain ⟨x, ex, hx⟩ := iv_ex (ta := ta) (lo := 0) (hi := 99942624) (z := w_fi ws (n_v vs 0) 170) (by omega) (by omega) (by omega) (by omega)
  have ex2 : v_iv (Value.int x) = w_fi ws (n_v vs 0) 170 := ex
  have ex3 : 0 ≤ v_iv (Value.int x) ∧ v_iv (Value.int x) ≤ 99942624 := tv_rng hx
  have e_2 : n_v (vs ++ [Value.int x]) 2 = n_v vs 2 := n_v_old (by rw [hl]; decide)
  have e_3 : n_v (vs ++ [Value.int x]) 3 = n_v vs 3 := n_v_old (by rw [hl]; decide)
  have e_4 : n_v (vs ++ [Value.int x]) 4 = n_v vs 4 := n_v_old (by rw [hl]; decide)
  have e_5 : n_v (vs ++ [Value.int x]) 5 = n_v vs 5 := n_v_old (by rw [hl]; decide)
  have e_27 : n_v (vs ++ [Value.int x]) 27 = Value.int x := n_v_new hl
  have nf0 : fc_1 PRD (20, [3, 27], [30, 0, 1, 1, 170, -1, 0, 0]) ws (vs ++ [Value.int x]) := by
    refine ⟨nf_inA hl rfl, sgq_140 ?_⟩
    · show 1 * w_fi ws (n_v (vs ++ [Value.int x]) 3) 170 + ((-1) * v_iv (n_v (vs ++ [Value.int x]) 27) + 0) ≤ 0
      simp only [e_3, e_27, q3]
      exact vc_Mo_writeGroup_at_l2_16_0 (v_iv (n_v vs 2)) (v_iv (n_v vs 4)) (v_iv (n_v vs 5)) (v_iv (n_v vs 6)) (v_iv (n_v vs 12)) (v_iv (n_v vs 14)) (v_iv (n_v vs 24)) (v_iv (n_v vs 26)) (w_ei ws (w_ar ws (n_v vs 0) 2)) (w_fi ws (n_v vs 0) 5) (w_fi ws (n_v vs 0) 170) (v_iv (Value.int x)) k2 k4 k5 k6 k12 k14 k24 k26 d0 d1 d2 f0 f1 f2 f3 f4 f6 f8 f9 f10 f12 f13 f15 f16 f17 kz_0_170 ex2 ex3
  have nf1 : fc_1 PRD (23, [27, 2, 5, 4], [-56514, 1, -1, -57395, 57395]) ws (vs ++ [Value.int x]) := by
    refine ⟨nf_inA hl rfl, sgq_1932 ?_⟩
    · show 1 * v_iv (n_v (vs ++ [Value.int x]) 27) + ((-1) * v_iv (n_v (vs ++ [Value.int x]) 2) + ((-57395) * v_iv (n_v (vs ++ [Value.int x]) 5) + (57395 * v_iv (n_v (vs ++ [Value.int x]) 4) + 0))) ≤ (-56514)
      simp only [e_2, e_4, e_5, e_27]
      exact vc_Mo_writeGroup_at_l2_16_1 (v_iv (n_v vs 2)) (v_iv (n_v vs 4)) (v_iv (n_v vs 5)) (v_iv (n_v vs 6)) (v_iv (n_v vs 12)) (v_iv (n_v vs 14)) (v_iv (n_v vs 24)) (v_iv (n_v vs 26)) (w_ei ws (w_ar ws (n_v vs 0) 2)) (w_fi ws (n_v vs 0) 5) (w_fi ws (n_v vs 0) 170) (v_iv (Value.int x)) k2 k4 k5 k6 k12 k14 k24 k26 d0 d1 d2 f0 f1 f2 f3 f4 f6 f8 f9 f10 f12 f13 f15 f16 f17 kz_0_170 ex2 ex3
  exact ⟨(fun _ h => (by cases h)), [Value.int x], ag_one hx, List.forall_mem_cons.mpr ⟨⟨show (20 : Nat) < 100 from by decide, nf0⟩, List.forall_mem_cons.mpr ⟨⟨show (23 : Nat) < 100 from by decide, nf1⟩, (fun _ h => (by cases h))⟩⟩, (fun _ h => (by cases h))⟩
set_option maxHeartbeats 4000000 in
theorem vc_Mo_writeGroup_at_l2_17_0 (x2 : Int) (x4 : Int) (x5 : Int) (x6 : Int) (x12 : Int) (x14 : Int) (x24 : Int) (x26 : Int) (x27 : Int) (all_0 : Int → Int) (r_0 : Int) (texts_0 : Int) (gx : Int) (k2 : 0 ≤ x2 ∧ x2 ≤ 99712161) (k4 : 2 ≤ x4 ∧ x4 ≤ 6) (k5 : 3 ≤ x5 ∧ x5 ≤ 7) (k6 : 4 ≤ x6 ∧ x6 ≤ 8) (k12 : 2 ≤ x12 ∧ x12 ≤ 6) (k14 : 0 ≤ x14 ∧ x14 ≤ 99999994) (k24 : 0 ≤ x24 ∧ x24 ≤ 99999992) (k26 : 0 ≤ x26 ∧ x26 ≤ 99999997) (k27 : 0 ≤ x27 ∧ x27 ≤ 99942624) (d0 : x4 + 0 ≤ x12 ∧ x12 ≤ x4 + 0) (d1 : x6 + (-4294967296) ≤ x5 ∧ x5 ≤ x6 + (-1)) (d2 : x5 + (-4294967296) ≤ x4 ∧ x4 ≤ x5 + (-1)) (f0 : 1 * x27 + ((-1) * x2 + ((-57395) * x5 + (57395 * x4 + 0))) ≤ (-56514)) (f1 : 1 * x26 + ((-1) * x2 + ((-57395) * x5 + (57395 * x4 + 0))) ≤ (-56517)) (f2 : 1 * x24 + ((-1) * x2 + ((-57395) * x5 + (57395 * x4 + 0))) ≤ (-56525)) (f3 : 1 * x14 + ((-1) * x2 + ((-57395) * x5 + (57395 * x4 + 0))) ≤ (-56531)) (f4 : 1 * x6 + ((-1) * all_0 (r_0 + 2) + 0) ≤ 0) (f5 : (-1) * x6 + (1 * all_0 (r_0 + 2) + 0) ≤ 0) (f7 : 1 * texts_0 + ((-1) * x27 + 0) ≤ 57376) (f9 : 1 * x27 + ((-1) * x2 + ((-57395) * x5 + (57395 * x4 + 0))) ≤ (-56514)) (f10 : 1 * x26 + ((-1) * x2 + ((-57395) * x5 + (57395 * x4 + 0))) ≤ (-56517)) (f11 : 1 * x24 + ((-1) * x2 + ((-57395) * x5 + (57395 * x4 + 0))) ≤ (-56525)) (f12 : 1 * x14 + ((-1) * x2 + ((-57395) * x5 + (57395 * x4 + 0))) ≤ (-56531)) (f14 : 1 * x26 + ((-1) * x2 + ((-57395) * x5 + (57395 * x4 + 0))) ≤ (-56517)) (f15 : 1 * x24 + ((-1) * x2 + ((-57395) * x5 + (57395 * x4 + 0))) ≤ (-56525)) (f16 : 1 * x14 + ((-1) * x2 + ((-57395) * x5 + (57395 * x4 + 0))) ≤ (-56531)) (f18 : 1 * x24 + ((-1) * x2 + ((-57395) * x5 + (57395 * x4 + 0))) ≤ (-56525)) (f19 : 1 * x14 + ((-1) * x2 + ((-57395) * x5 + (57395 * x4 + 0))) ≤ (-56531)) (f21 : 1 * x14 + ((-1) * x2 + ((-57395) * x5 + (57395 * x4 + 0))) ≤ (-56531)) (f22 : x12 = x4) (f23 : x5 < x6) (kz_0_170 : 0 ≤ texts_0 ∧ texts_0 ≤ 100000000) (ex2 : gx = texts_0) (ex3 : 0 ≤ gx ∧ gx ≤ 99999998) : 1 * texts_0 + ((-1) * gx + 0) ≤ 0 := by
  first | assumption | omega | grind
set_option maxHeartbeats 4000000 in
theorem vc_Mo_writeGroup_at_l2_17_1 (x2 : Int) (x4 : Int) (x5 : Int) (x6 : Int) (x12 : Int) (x14 : Int) (x24 : Int) (x26 : Int) (x27 : Int) (all_0 : Int → Int) (r_0 : Int) (texts_0 : Int) (gx : Int) (k2 : 0 ≤ x2 ∧ x2 ≤ 99712161) (k4 : 2 ≤ x4 ∧ x4 ≤ 6) (k5 : 3 ≤ x5 ∧ x5 ≤ 7) (k6 : 4 ≤ x6 ∧ x6 ≤ 8) (k12 : 2 ≤ x12 ∧ x12 ≤ 6) (k14 : 0 ≤ x14 ∧ x14 ≤ 99999994) (k24 : 0 ≤ x24 ∧ x24 ≤ 99999992) (k26 : 0 ≤ x26 ∧ x26 ≤ 99999997) (k27 : 0 ≤ x27 ∧ x27 ≤ 99942624) (d0 : x4 + 0 ≤ x12 ∧ x12 ≤ x4 + 0) (d1 : x6 + (-4294967296) ≤ x5 ∧ x5 ≤ x6 + (-1)) (d2 : x5 + (-4294967296) ≤ x4 ∧ x4 ≤ x5 + (-1)) (f0 : 1 * x27 + ((-1) * x2 + ((-57395) * x5 + (57395 * x4 + 0))) ≤ (-56514)) (f1 : 1 * x26 + ((-1) * x2 + ((-57395) * x5 + (57395 * x4 + 0))) ≤ (-56517)) (f2 : 1 * x24 + ((-1) * x2 + ((-57395) * x5 + (57395 * x4 + 0))) ≤ (-56525)) (f3 : 1 * x14 + ((-1) * x2 + ((-57395) * x5 + (57395 * x4 + 0))) ≤ (-56531)) (f4 : 1 * x6 + ((-1) * all_0 (r_0 + 2) + 0) ≤ 0) (f5 : (-1) * x6 + (1 * all_0 (r_0 + 2) + 0) ≤ 0) (f7 : 1 * texts_0 + ((-1) * x27 + 0) ≤ 57376) (f9 : 1 * x27 + ((-1) * x2 + ((-57395) * x5 + (57395 * x4 + 0))) ≤ (-56514)) (f10 : 1 * x26 + ((-1) * x2 + ((-57395) * x5 + (57395 * x4 + 0))) ≤ (-56517)) (f11 : 1 * x24 + ((-1) * x2 + ((-57395) * x5 + (57395 * x4 + 0))) ≤ (-56525)) (f12 : 1 * x14 + ((-1) * x2 + ((-57395) * x5 + (57395 * x4 + 0))) ≤ (-56531)) (f14 : 1 * x26 + ((-1) * x2 + ((-57395) * x5 + (57395 * x4 + 0))) ≤ (-56517)) (f15 : 1 * x24 + ((-1) * x2 + ((-57395) * x5 + (57395 * x4 + 0))) ≤ (-56525)) (f16 : 1 * x14 + ((-1) * x2 + ((-57395) * x5 + (57395 * x4 + 0))) ≤ (-56531)) (f18 : 1 * x24 + ((-1) * x2 + ((-57395) * x5 + (57395 * x4 + 0))) ≤ (-56525)) (f19 : 1 * x14 + ((-1) * x2 + ((-57395) * x5 + (57395 * x4 + 0))) ≤ (-56531)) (f21 : 1 * x14 + ((-1) * x2 + ((-57395) * x5 + (57395 * x4 + 0))) ≤ (-56531)) (f22 : x12 = x4) (f23 : x5 < x6) (kz_0_170 : 0 ≤ texts_0 ∧ texts_0 ≤ 100000000) (ex2 : gx = texts_0) (ex3 : 0 ≤ gx ∧ gx ≤ 99999998) : 1 * gx + ((-1) * x2 + ((-57395) * x5 + (57395 * x4 + 0))) ≤ 862 := by
  first | assumption | omega | grind
def o_Mo_writeGroup_at_l2_17 : or_T := (168, 29, [(0, (2, 0, 0, [165])), (2, (0, 0, 99712161, [])), (3, (2, 0, 0, [165])), (4, (0, 2, 6, [])), (5, (0, 3, 7, [])), (6, (0, 4, 8, [])), (12, (0, 2, 6, [])), (14, (0, 0, 99999994, [])), (24, (0, 0, 99999992, [])), (26, (0, 0, 99999997, [])), (27, (0, 0, 99942624, []))], [(23, [27, 2, 5, 4], [-56514, 1, -1, -57395, 57395]), (23, [26, 2, 5, 4], [-56517, 1, -1, -57395, 57395]), (23, [24, 2, 5, 4], [-56525, 1, -1, -57395, 57395]), (23, [14, 2, 5, 4], [-56531, 1, -1, -57395, 57395]), (20, [6, 3], [30, 0, 1, 0, 0, -1, 3, 2005002]), (20, [6, 3], [30, 0, -1, 0, 0, 1, 3, 2005002]), (24, [0, 3], []), (20, [3, 27], [30, 57376, 1, 1, 170, -1, 0, 0]), (102, [27], [7770675568902916283677847627294075626569627356208558085007249638955617140820833992704, 165170]), (23, [27, 2, 5, 4], [-56514, 1, -1, -57395, 57395]), (23, [26, 2, 5, 4], [-56517, 1, -1, -57395, 57395]), (23, [24, 2, 5, 4], [-56525, 1, -1, -57395, 57395]), (23, [14, 2, 5, 4], [-56531, 1, -1, -57395, 57395]), (102, [26], [7770675568902916283677847627294075626569627356208558085007249638955617140820833992704, 165170]), (23, [26, 2, 5, 4], [-56517, 1, -1, -57395, 57395]), (23, [24, 2, 5, 4], [-56525, 1, -1, -57395, 57395]), (23, [14, 2, 5, 4], [-56531, 1, -1, -57395, 57395]), (102, [24], [7770675568902916283677847627294075626569627356208558085007249638955617140820833992704, 165170]), (23, [24, 2, 5, 4], [-56525, 1, -1, -57395, 57395]), (23, [14, 2, 5, 4], [-56531, 1, -1, -57395, 57395]), (102, [14], [7770675568902916283677847627294075626569627356208558085007249638955617140820833992704, 165170]), (23, [14, 2, 5, 4], [-56531, 1, -1, -57395, 57395]), (7, [12, 4], [0]), (7, [5, 6], [2])], [], [(0, 0, 99999998, [])], [(20, [3, 29], [30, 0, 1, 1, 170, -1, 0, 0]), (23, [29, 2, 5, 4], [862, 1, -1, -57395, 57395])], [], [(12, 4, 0, 0), (5, 6, -4294967296, -1), (4, 5, -4294967296, -1)])
theorem oo_Mo_writeGroup_at_l2_17 {kA : Nat → ClassId} : or_ok PRD kA GG o_Mo_writeGroup_at_l2_17 := by
  refine or_mk fun A ta ws vs hD hth hl => ?_
  intro t0 r0 t2 k2 t3 r3 t4 k4 t5 k5 t6 k6 t12 k12 t14 k14 t24 k24 t26 k26 t27 k27 d0 d1 d2 f0 f1 f2 f3 f4 f5 f6 f7 ta1 w1 le1 s1 f9 f10 f11 f12 ta2 w2 le2 s2 f14 f15 f16 ta3 w3 le3 s3 f18 f19 ta4 w4 le4 s4 f21 f22 f23
  replace f0 := shm_1932 f0
  replace f1 := shm_1931 f1
  replace f2 := shm_1930 f2
  replace f3 := shm_1929 f3
  replace f4 := shm_132 f4
  replace f5 := shm_133 f5
  replace f6 := shm_5 f6
  replace f7 := shm_1933 f7
  replace f9 := shm_1932 f9
  replace f10 := shm_1931 f10
  replace f11 := shm_1930 f11
  replace f12 := shm_1929 f12
  replace f14 := shm_1931 f14
  replace f15 := shm_1930 f15
  replace f16 := shm_1929 f16
  replace f18 := shm_1930 f18
  replace f19 := shm_1929 f19
  replace f21 := shm_1929 f21
  replace f22 := shm_37 f22
  replace f23 := shm_6 f23
  have q3 : n_v vs 3 = n_v vs 0 := f6.symm
  simp only [q3] at f4 f5 f7
  have cr_0_2 := fdq_12 hD hth r0
  have kz_0_170 := fdq_13 hD hth r0
  have kv0 := fdq_13 hD hth r0
  obtain ⟨x, ex, hx⟩ := iv_ex (ta := ta) (lo := 0) (hi := 99999998) (z := w_fi ws (n_v vs 0) 170) (by omega) (by omega) (by omega) (by omega)
  have ex2 : v_iv (Value.int x) = w_fi ws (n_v vs 0) 170 := ex
  have ex3 : 0 ≤ v_iv (Value.int x) ∧ v_iv (Value.int x) ≤ 99999998 := tv_rng hx
  have e_2 : n_v (vs ++ [Value.int x]) 2 = n_v vs 2 := n_v_old (by rw [hl]; decide)
  have e_3 : n_v (vs ++ [Value.int x]) 3 = n_v vs 3 := n_v_old (by rw [hl]; decide)
  have e_4 : n_v (vs ++ [Value.int x]) 4 = n_v vs 4 := n_v_old (by rw [hl]; decide)
  have e_5 : n_v (vs ++ [Value.int x]) 5 = n_v vs 5 := n_v_old (by rw [hl]; decide)
  have e_29 : n_v (vs ++ [Value.int x]) 29 = Value.int x := n_v_new hl
  have nf0 : fc_1 PRD (20, [3, 29], [30, 0, 1, 1, 170, -1, 0, 0]) ws (vs ++ [Value.int x]) := by
    refine ⟨nf_inA hl rfl, sgq_140 ?_⟩
    · show 1 * w_fi ws (n_v (vs ++ [Value.int x]) 3) 170 + ((-1) * v_iv (n_v (vs ++ [Value.int x]) 29) + 0) ≤ 0
      simp only [e_3, e_29, q3]
      exact vc_Mo_writeGroup_at_l2_17_0 (v_iv (n_v vs 2)) (v_iv (n_v vs 4)) (v_iv (n_v vs 5)) (v_iv (n_v vs 6)) (v_iv (n_v vs 12)) (v_iv (n_v vs 14)) (v_iv (n_v vs 24)) (v_iv (n_v vs 26)) (v_iv (n_v vs 27)) (w_ei ws (w_ar ws (n_v vs 0) 2)) (w_fi ws (n_v vs 0) 5) (w_fi ws (n_v vs 0) 170) (v_iv (Value.int x)) k2 k4 k5 k6 k12 k14 k24 k26 k27 d0 d1 d2 f0 f1 f2 f3 f4 f5 f7 f9 f10 f11 f12 f14 f15 f16 f18 f19 f21 f22 f23 kz_0_170 ex2 ex3
  have nf1 : fc_1 PRD (23, [29, 2, 5, 4], [862, 1, -1, -57395, 57395]) ws (vs ++ [Value.int x]) := by
    refine ⟨nf_inA hl rfl, sgq_1934 ?_⟩
    · show 1 * v_iv (n_v (vs ++ [Value.int x]) 29) + ((-1) * v_iv (n_v (vs ++ [Value.int x]) 2) + ((-57395) * v_iv (n_v (vs ++ [Value.int x]) 5) + (57395 * v_iv (n_v (vs ++ [Value.int x]) 4) + 0))) ≤ 862
      simp only [e_2, e_4, e_5, e_29]
      exact vc_Mo_writeGroup_at_l2_17_1 (v_iv (n_v vs 2)) (v_iv (n_v vs 4)) (v_iv (n_v vs 5)) (v_iv (n_v vs 6)) (v_iv (n_v vs 12)) (v_iv (n_v vs 14)) (v_iv (n_v vs 24)) (v_iv (n_v vs 26)) (v_iv (n_v vs 27)) (w_ei ws (w_ar ws (n_v vs 0) 2)) (w_fi ws (n_v vs 0) 5) (w_fi ws (n_v vs 0) 170) (v_iv (Value.int x)) k2 k4 k5 k6 k12 k14 k24 k26 k27 d0 d1 d2 f0 f1 f2 f3 f4 f5 f7 f9 f10 f11 f12 f14 f15 f16 f18 f19 f21 f22 f23 kz_0_170 ex2 ex3
  exact ⟨(fun _ h => (by cases h)), [Value.int x], ag_one hx, List.forall_mem_cons.mpr ⟨⟨show (20 : Nat) < 100 from by decide, nf0⟩, List.forall_mem_cons.mpr ⟨⟨show (23 : Nat) < 100 from by decide, nf1⟩, (fun _ h => (by cases h))⟩⟩, (fun _ h => (by cases h))⟩
set_option maxHeartbeats 4000000 in
theorem vc_Mo_writeGroup_at_l2_18_0 (x2 : Int) (x4 : Int) (x5 : Int) (x6 : Int) (x12 : Int) (x14 : Int) (x24 : Int) (x26 : Int) (x27 : Int) (x29 : Int) (x30 : Int) (all_0 : Int → Int) (r_0 : Int) (texts_0 : Int) (k2 : 0 ≤ x2 ∧ x2 ≤ 99712161) (k4 : 2 ≤ x4 ∧ x4 ≤ 6) (k5 : 3 ≤ x5 ∧ x5 ≤ 7) (k6 : 4 ≤ x6 ∧ x6 ≤ 8) (k12 : 2 ≤ x12 ∧ x12 ≤ 6) (k14 : 0 ≤ x14 ∧ x14 ≤ 99999994) (k24 : 0 ≤ x24 ∧ x24 ≤ 99999992) (k26 : 0 ≤ x26 ∧ x26 ≤ 99999997) (k27 : 0 ≤ x27 ∧ x27 ≤ 99942624) (k29 : 0 ≤ x29 ∧ x29 ≤ 99999998) (k30 : 4 ≤ x30 ∧ x30 ≤ 8) (d0 : x5 + 1 ≤ x30 ∧ x30 ≤ x5 + 1) (d1 : x6 + (-4294967296) ≤ x30 ∧ x30 ≤ x6 + 0) (d2 : x4 + 0 ≤ x12 ∧ x12 ≤ x4 + 0) (d3 : x6 + (-4294967296) ≤ x5 ∧ x5 ≤ x6 + (-1)) (d4 : x5 + (-4294967296) ≤ x4 ∧ x4 ≤ x5 + (-1)) (f0 : x30 = x5 + 1) (f1 : 1 * x29 + ((-1) * x2 + ((-57395) * x5 + (57395 * x4 + 0))) ≤ 862) (f2 : 1 * x27 + ((-1) * x2 + ((-57395) * x5 + (57395 * x4 + 0))) ≤ (-56514)) (f3 : 1 * x26 + ((-1) * x2 + ((-57395) * x5 + (57395 * x4 + 0))) ≤ (-56517)) (f4 : 1 * x24 + ((-1) * x2 + ((-57395) * x5 + (57395 * x4 + 0))) ≤ (-56525)) (f5 : 1 * x14 + ((-1) * x2 + ((-57395) * x5 + (57395 * x4 + 0))) ≤ (-56531)) (f6 : 1 * x6 + ((-1) * all_0 (r_0 + 2) + 0) ≤ 0) (f7 : (-1) * x6 + (1 * all_0 (r_0 + 2) + 0) ≤ 0) (f9 : 1 * texts_0 + ((-1) * x29 + 0) ≤ 2) (f11 : 1 * x29 + ((-1) * x2 + ((-57395) * x5 + (57395 * x4 + 0))) ≤ 862) (f12 : 1 * x27 + ((-1) * x2 + ((-57395) * x5 + (57395 * x4 + 0))) ≤ (-56514)) (f13 : 1 * x26 + ((-1) * x2 + ((-57395) * x5 + (57395 * x4 + 0))) ≤ (-56517)) (f14 : 1 * x24 + ((-1) * x2 + ((-57395) * x5 + (57395 * x4 + 0))) ≤ (-56525)) (f15 : 1 * x14 + ((-1) * x2 + ((-57395) * x5 + (57395 * x4 + 0))) ≤ (-56531)) (f17 : 1 * x27 + ((-1) * x2 + ((-57395) * x5 + (57395 * x4 + 0))) ≤ (-56514)) (f18 : 1 * x26 + ((-1) * x2 + ((-57395) * x5 + (57395 * x4 + 0))) ≤ (-56517)) (f19 : 1 * x24 + ((-1) * x2 + ((-57395) * x5 + (57395 * x4 + 0))) ≤ (-56525)) (f20 : 1 * x14 + ((-1) * x2 + ((-57395) * x5 + (57395 * x4 + 0))) ≤ (-56531)) (f22 : 1 * x26 + ((-1) * x2 + ((-57395) * x5 + (57395 * x4 + 0))) ≤ (-56517)) (f23 : 1 * x24 + ((-1) * x2 + ((-57395) * x5 + (57395 * x4 + 0))) ≤ (-56525)) (f24 : 1 * x14 + ((-1) * x2 + ((-57395) * x5 + (57395 * x4 + 0))) ≤ (-56531)) (f26 : 1 * x24 + ((-1) * x2 + ((-57395) * x5 + (57395 * x4 + 0))) ≤ (-56525)) (f27 : 1 * x14 + ((-1) * x2 + ((-57395) * x5 + (57395 * x4 + 0))) ≤ (-56531)) (f29 : 1 * x14 + ((-1) * x2 + ((-57395) * x5 + (57395 * x4 + 0))) ≤ (-56531)) (f30 : x12 = x4) (f31 : x5 < x6) (kz_0_170 : 0 ≤ texts_0 ∧ texts_0 ≤ 100000000) : 1 * texts_0 + ((-1) * x2 + ((-57395) * x30 + (57395 * x4 + 0))) ≤ (-56531) := by
  first | assumption | omega | grind
def o_Mo_writeGroup_at_l2_18 : or_T := (83, 31, [(0, (2, 0, 0, [165])), (2, (0, 0, 99712161, [])), (4, (0, 2, 6, [])), (5, (0, 3, 7, [])), (6, (0, 4, 8, [])), (12, (0, 2, 6, [])), (14, (0, 0, 99999994, [])), (24, (0, 0, 99999992, [])), (26, (0, 0, 99999997, [])), (27, (0, 0, 99942624, [])), (29, (0, 0, 99999998, [])), (30, (0, 4, 8, []))], [(6, [30, 5], [1]), (23, [29, 2, 5, 4], [862, 1, -1, -57395, 57395]), (23, [27, 2, 5, 4], [-56514, 1, -1, -57395, 57395]), (23, [26, 2, 5, 4], [-56517, 1, -1, -57395, 57395]), (23, [24, 2, 5, 4], [-56525, 1, -1, -57395, 57395]), (23, [14, 2, 5, 4], [-56531, 1, -1, -57395, 57395]), (20, [6, 3], [30, 0, 1, 0, 0, -1, 3, 2005002]), (20, [6, 3], [30, 0, -1, 0, 0, 1, 3, 2005002]), (24, [0, 3], []), (20, [3, 29], [30, 2, 1, 1, 170, -1, 0, 0]), (102, [29], [7770675568902916283677847627294075626569627356208558085007249638955617140820833992704, 165170]), (23, [29, 2, 5, 4], [862, 1, -1, -57395, 57395]), (23, [27, 2, 5, 4], [-56514, 1, -1, -57395, 57395]), (23, [26, 2, 5, 4], [-56517, 1, -1, -57395, 57395]), (23, [24, 2, 5, 4], [-56525, 1, -1, -57395, 57395]), (23, [14, 2, 5, 4], [-56531, 1, -1, -57395, 57395]), (102, [27], [7770675568902916283677847627294075626569627356208558085007249638955617140820833992704, 165170]), (23, [27, 2, 5, 4], [-56514, 1, -1, -57395, 57395]), (23, [26, 2, 5, 4], [-56517, 1, -1, -57395, 57395]), (23, [24, 2, 5, 4], [-56525, 1, -1, -57395, 57395]), (23, [14, 2, 5, 4], [-56531, 1, -1, -57395, 57395]), (102, [26], [7770675568902916283677847627294075626569627356208558085007249638955617140820833992704, 165170]), (23, [26, 2, 5, 4], [-56517, 1, -1, -57395, 57395]), (23, [24, 2, 5, 4], [-56525, 1, -1, -57395, 57395]), (23, [14, 2, 5, 4], [-56531, 1, -1, -57395, 57395]), (102, [24], [7770675568902916283677847627294075626569627356208558085007249638955617140820833992704, 165170]), (23, [24, 2, 5, 4], [-56525, 1, -1, -57395, 57395]), (23, [14, 2, 5, 4], [-56531, 1, -1, -57395, 57395]), (102, [14], [7770675568902916283677847627294075626569627356208558085007249638955617140820833992704, 165170]), (23, [14, 2, 5, 4], [-56531, 1, -1, -57395, 57395]), (7, [12, 4], [0]), (7, [5, 6], [2])], [], [], [(20, [3, 2, 30, 4], [30, -56531, 1, 1, 170, -1, 0, 0, -57395, 0, 0, 57395, 0, 0])], [], [(30, 5, 1, 1), (30, 6, -4294967296, 0), (12, 4, 0, 0), (5, 6, -4294967296, -1), (4, 5, -4294967296, -1)])
theorem oo_Mo_writeGroup_at_l2_18 {kA : Nat → ClassId} : or_ok PRD kA GG o_Mo_writeGroup_at_l2_18 := by
  refine or_mk fun A ta ws vs hD hth hl => ?_
  intro t0 r0 t2 k2 t4 k4 t5 k5 t6 k6 t12 k12 t14 k14 t24 k24 t26 k26 t27 k27 t29 k29 t30 k30 d0 d1 d2 d3 d4 f0 f1 f2 f3 f4 f5 f6 f7 f8 f9 ta1 w1 le1 s1 f11 f12 f13 f14 f15 ta2 w2 le2 s2 f17 f18 f19 f20 ta3 w3 le3 s3 f22 f23 f24 ta4 w4 le4 s4 f26 f27 ta5 w5 le5 s5 f29 f30 f31
  replace f0 := shm_4 f0
  replace f1 := shm_1934 f1
  replace f2 := shm_1932 f2
  replace f3 := shm_1931 f3
  replace f4 := shm_1930 f4
  replace f5 := shm_1929 f5
  replace f6 := shm_132 f6
  replace f7 := shm_133 f7
  replace f8 := shm_5 f8
  replace f9 := shm_234 f9
  replace f11 := shm_1934 f11
  replace f12 := shm_1932 f12
  replace f13 := shm_1931 f13
  replace f14 := shm_1930 f14
  replace f15 := shm_1929 f15
  replace f17 := shm_1932 f17
  replace f18 := shm_1931 f18
  replace f19 := shm_1930 f19
  replace f20 := shm_1929 f20
  replace f22 := shm_1931 f22
  replace f23 := shm_1930 f23
  replace f24 := shm_1929 f24
  replace f26 := shm_1930 f26
  replace f27 := shm_1929 f27
  replace f29 := shm_1929 f29
  replace f30 := shm_37 f30
  replace f31 := shm_6 f31
  have q3 : n_v vs 3 = n_v vs 0 := f8.symm
  simp only [q3] at f6 f7 f9
  have kz_0_170 := fdq_13 hD hth r0
  have nf0 : fc_1 PRD (20, [3, 2, 30, 4], [30, -56531, 1, 1, 170, -1, 0, 0, -57395, 0, 0, 57395, 0, 0]) ws (vs) := by
    refine ⟨nf_in hl rfl, sgq_1928 ?_⟩
    · show 1 * w_fi ws (n_v vs 3) 170 + ((-1) * v_iv (n_v vs 2) + ((-57395) * v_iv (n_v vs 30) + (57395 * v_iv (n_v vs 4) + 0))) ≤ (-56531)
      rw [q3]
      exact vc_Mo_writeGroup_at_l2_18_0 (v_iv (n_v vs 2)) (v_iv (n_v vs 4)) (v_iv (n_v vs 5)) (v_iv (n_v vs 6)) (v_iv (n_v vs 12)) (v_iv (n_v vs 14)) (v_iv (n_v vs 24)) (v_iv (n_v vs 26)) (v_iv (n_v vs 27)) (v_iv (n_v vs 29)) (v_iv (n_v vs 30)) (w_ei ws (w_ar ws (n_v vs 0) 2)) (w_fi ws (n_v vs 0) 5) (w_fi ws (n_v vs 0) 170) k2 k4 k5 k6 k12 k14 k24 k26 k27 k29 k30 d0 d1 d2 d3 d4 f0 f1 f2 f3 f4 f5 f6 f7 f9 f11 f12 f13 f14 f15 f17 f18 f19 f20 f22 f23 f24 f26 f27 f29 f30 f31 kz_0_170
  refine ⟨(fun _ h => (by cases h)), [], trivial, ?_, (fun _ h => (by cases h))⟩
  rw [List.append_nil]
  exact List.forall_mem_cons.mpr ⟨⟨show (20 : Nat) < 100 from by decide, nf0⟩, (fun _ h => (by cases h))⟩
def o_Mo_writeGroup_at_l2_19 : or_T := (83, 14, [(0, (2, 0, 0, [165])), (2, (0, 0, 99712161, [])), (3, (2, 0, 0, [165])), (4, (0, 2, 6, [])), (5, (0, 3, 7, [])), (6, (0, 4, 8, [])), (7, (2, 0, 0, [167])), (8, (0, 0, 66297, [])), (9, (0, 531, 531, [])), (10, (0, 531, 66828, [])), (11, (0, 534, 66835, [])), (12, (0, -1, 6, [])), (13, (0, 4, 8, []))], [(6, [13, 5], [1]), (7, [12, 4], [1]), (10, [12, 7, 11], []), (1, [11, 10, 5], []), (1, [10, 8, 9], []), (9, [8, 3], [5]), (9, [7, 3], [2]), (7, [5, 6], [2]), (20, [6, 3], [30, 0, 1, 0, 0, -1, 3, 2005002]), (20, [6, 3], [30, 0, -1, 0, 0, 1, 3, 2005002]), (20, [3, 2, 5, 4], [30, -56531, 1, 1, 170, -1, 0, 0, -57395, 0, 0, 57395, 0, 0]), (24, [0, 3], [])], [], [], [(20, [3, 2, 13, 4], [30, -56531, 1, 1, 170, -1, 0, 0, -57395, 0, 0, 57395, 0, 0])], [], [(13, 5, 1, 1), (13, 6, -4294967296, 0), (11, 5, 531, 66828), (11, 6, -4294967296, 66827), (11, 10, 3, 7), (11, 8, 534, 538), (10, 8, 531, 531), (5, 6, -4294967296, -1), (4, 5, -4294967296, -1)])
theorem oo_Mo_writeGroup_at_l2_19 {kA : Nat → ClassId} : or_ok PRD kA GG o_Mo_writeGroup_at_l2_19 := by
  refine or_mk fun A ta ws vs hD hth hl => ?_
  intro t0 r0 t2 k2 t3 r3 t4 k4 t5 k5 t6 k6 t7 r7 t8 k8 t9 k9 t10 k10 t11 k11 t12 k12 t13 k13 d0 d1 d2 d3 d4 d5 d6 d7 d8 f0 f1 f2 f3 f4 f5 f6 f7 f8 f9 f10 f11
  replace f0 := shm_4 f0
  replace f1 := shm_40 f1
  replace f2 := shm_106 f2
  replace f3 := shm_12 f3
  replace f4 := shm_12 f4
  replace f5 := shm_109 f5
  replace f6 := shm_129 f6
  replace f7 := shm_6 f7
  replace f8 := shm_132 f8
  replace f9 := shm_133 f9
  replace f10 := shm_1928 f10
  replace f11 := shm_5 f11
  have q3 : n_v vs 3 = n_v vs 0 := f11.symm
  simp only [q3] at f5 f6 f8 f9 f10
  have cr_0_2 := fdq_12 hD hth r0
  have ad_7 : v_ad (n_v vs 7) = w_ar ws (n_v vs 0) 2 := congrArg v_ad f6
  simp only [ad_7] at f2
  have h2 : v_iv (n_v vs 12) = w_ei ws (w_ar ws (n_v vs 0) 2) (v_iv (n_v vs 11)) := f2
  have g5 : v_iv (n_v vs 8) = w_fi ws (n_v vs 0) 5 := congrArg v_iv f5
  have cg2_F5_2 : v_iv (n_v vs 11) = w_fi ws (n_v vs 0) 5 + 2 → w_el ws (w_ar ws (n_v vs 0) 2) (v_iv (n_v vs 11)).toNat = w_el ws (w_ar ws (n_v vs 0) 2) (w_fi ws (n_v vs 0) 5 + 2).toNat := fun h => by rw [h]
  have kz_0_170 := fdq_13 hD hth r0
  have nf0 : fc_1 PRD (20, [3, 2, 13, 4], [30, -56531, 1, 1, 170, -1, 0, 0, -57395, 0, 0, 57395, 0, 0]) ws (vs) := by
    refine ⟨nf_in hl rfl, sgq_1928 ?_⟩
    · show 1 * w_fi ws (n_v vs 3) 170 + ((-1) * v_iv (n_v vs 2) + ((-57395) * v_iv (n_v vs 13) + (57395 * v_iv (n_v vs 4) + 0))) ≤ (-56531)
      rw [q3]
      omega
  refine ⟨(fun _ h => (by cases h)), [], trivial, ?_, (fun _ h => (by cases h))⟩
  rw [List.append_nil]
  exact List.forall_mem_cons.mpr ⟨⟨show (20 : Nat) < 100 from by decide, nf0⟩, (fun _ h => (by cases h))⟩
def n_Mo_writeGroup_at_l2_an : List an_T := [(2, [(0, (2, 0, 0, [165])), (1, (0, 2, 7, [])), (2, (0, 0, 24, []))], [], (0, 0), [(0, 0, 99998), (1, 5, 24), (0, 0, 100000)], [(1, 4, (Int.negSucc 999999999999), 0), (4, 1, (Int.negSucc 999999999999), 0)], [], [(2, 0, 0, [165]), (0, 2, 7, []), (0, 0, 99712161, [])], 0, [], [(20, [3, 2, 5], [30, 0, 1, 1, 170, (Int.negSucc 0), 0, 0, (Int.negSucc 35), 0, 0]), (24, [0, 3], [])]), (83, [(0, (2, 0, 0, [165])), (1, (0, 2, 7, [])), (2, (0, 3, 8, []))], [], (0, 0), [(0, 0, 99917), (1, 5, 8), (0, 0, 100000)], [(1, 4, (Int.negSucc 999999999999), 0), (1, 5, (Int.negSucc 999999999999), (Int.negSucc 0)), (4, 1, (Int.negSucc 999999999999), 0), (4, 5, (Int.negSucc 999999999999), (Int.negSucc 0))], [], [(2, 0, 0, [165]), (0, 2, 7, []), (0, 0, 99712161, [])], 0, [], [(20, [3, 2, 5, 4], [30, (Int.negSucc 56530), 1, 1, 170, (Int.negSucc 0), 0, 0, (Int.negSucc 57394), 0, 0, 57395, 0, 0]), (24, [0, 3], [])])]
def t_Mo_writeGroup_at_l2_ct : ct_L := [(1, 475, e_Mo_nodes), (1, 509, e_Mo_groups), (1, 723, e_Mo_size), (1, 725, e_Mo_groupOf), (1, 1285, e_Mo_writeName), (1, 1293, e_Mo_writeNode), (1, 1298, e_Mo_writeNumber), (82, 1290, e_Mo_write_at_s5013), (145, 1290, e_Mo_write_at_s5014), (193, 1290, e_Mo_write_at_s5045), (214, 1290, e_Mo_write_at_s5015), (355, 1290, e_Mo_write_at_s5016), (472, 1290, e_Mo_write_at_s5017), (487, 1309, e_Mo_writeGroup_at_l3), (508, 1290, e_Mo_write_at_s5018), (1000001, 1288, en_ro [] (2, 0, 0, [5013])), (1000001, 1296, en_ro [] (2, 0, 0, [5014])), (1000001, 1301, en_ro [] (2, 0, 0, [5045])), (1000001, 1303, en_ro [] (2, 0, 0, [5015])), (1000001, 1305, en_ro [] (2, 0, 0, [5016])), (1000001, 1307, en_ro [] (2, 0, 0, [5017])), (1000001, 1312, en_ro [] (2, 0, 0, [5018]))]
set_option maxRecDepth 100000 in
theorem c_Mo_writeGroup_at_l2 {l : Launch} {D : va_G} {kA : Nat → ClassId} (h_Mo_groupOf : ct_ok PRD l D kA GG y_Mo_groupOf z_Mo_groupOf e_Mo_groupOf) (h_Mo_groups : ct_ok PRD l D kA GG y_Mo_groups z_Mo_groups e_Mo_groups) (h_Mo_nodes : ct_ok PRD l D kA GG y_Mo_nodes z_Mo_nodes e_Mo_nodes) (h_Mo_size : ct_ok PRD l D kA GG y_Mo_size z_Mo_size e_Mo_size) (h_Mo_writeGroup_at_l3 : ct_ok PRD l D kA GG y_Mo_writeGroup_at_l3 z_Mo_writeGroup_at_l3 e_Mo_writeGroup_at_l3) (h_Mo_writeName : ct_ok PRD l D kA GG y_Mo_writeName z_Mo_writeName e_Mo_writeName) (h_Mo_writeNode : ct_ok PRD l D kA GG y_Mo_writeNode z_Mo_writeNode e_Mo_writeNode) (h_Mo_writeNumber : ct_ok PRD l D kA GG y_Mo_writeNumber z_Mo_writeNumber e_Mo_writeNumber) (h_Mo_write_at_s5013 : ct_ok PRD l D kA GG y_Mo_write_at_s5013 z_Mo_write_at_s5013 e_Mo_write_at_s5013) (h_Mo_write_at_s5014 : ct_ok PRD l D kA GG y_Mo_write_at_s5014 z_Mo_write_at_s5014 e_Mo_write_at_s5014) (h_Mo_write_at_s5015 : ct_ok PRD l D kA GG y_Mo_write_at_s5015 z_Mo_write_at_s5015 e_Mo_write_at_s5015) (h_Mo_write_at_s5016 : ct_ok PRD l D kA GG y_Mo_write_at_s5016 z_Mo_write_at_s5016 e_Mo_write_at_s5016) (h_Mo_write_at_s5017 : ct_ok PRD l D kA GG y_Mo_write_at_s5017 z_Mo_write_at_s5017 e_Mo_write_at_s5017) (h_Mo_write_at_s5018 : ct_ok PRD l D kA GG y_Mo_write_at_s5018 z_Mo_write_at_s5018 e_Mo_write_at_s5018) (h_Mo_write_at_s5045 : ct_ok PRD l D kA GG y_Mo_write_at_s5045 z_Mo_write_at_s5045 e_Mo_write_at_s5045) : ct_ok PRD l D kA GG y_Mo_writeGroup_at_l2 z_Mo_writeGroup_at_l2 e_Mo_writeGroup_at_l2 := chk_all_ok (FT := [(16, 13, 2), (391, 13, 5)]) (PT := []) (CT := t_Mo_writeGroup_at_l2_ct) (KT := []) (NT := []) (AN := n_Mo_writeGroup_at_l2_an) (OT := [o_Mo_writeGroup_at_l2_0, o_Mo_writeGroup_at_l2_1, o_Mo_writeGroup_at_l2_2, o_Mo_writeGroup_at_l2_3, o_Mo_writeGroup_at_l2_4, o_Mo_writeGroup_at_l2_5, o_Mo_writeGroup_at_l2_6, o_Mo_writeGroup_at_l2_7, o_Mo_writeGroup_at_l2_8, o_Mo_writeGroup_at_l2_9, o_Mo_writeGroup_at_l2_10, o_Mo_writeGroup_at_l2_11, o_Mo_writeGroup_at_l2_12, o_Mo_writeGroup_at_l2_13, o_Mo_writeGroup_at_l2_14, o_Mo_writeGroup_at_l2_15, o_Mo_writeGroup_at_l2_16, o_Mo_writeGroup_at_l2_17, o_Mo_writeGroup_at_l2_18, o_Mo_writeGroup_at_l2_19]) 3 408 (List.forall_mem_cons.mpr ⟨oo_Mo_writeGroup_at_l2_0, List.forall_mem_cons.mpr ⟨oo_Mo_writeGroup_at_l2_1, List.forall_mem_cons.mpr ⟨oo_Mo_writeGroup_at_l2_2, List.forall_mem_cons.mpr ⟨oo_Mo_writeGroup_at_l2_3, List.forall_mem_cons.mpr ⟨oo_Mo_writeGroup_at_l2_4, List.forall_mem_cons.mpr ⟨oo_Mo_writeGroup_at_l2_5, List.forall_mem_cons.mpr ⟨oo_Mo_writeGroup_at_l2_6, List.forall_mem_cons.mpr ⟨oo_Mo_writeGroup_at_l2_7, List.forall_mem_cons.mpr ⟨oo_Mo_writeGroup_at_l2_8, List.forall_mem_cons.mpr ⟨oo_Mo_writeGroup_at_l2_9, List.forall_mem_cons.mpr ⟨oo_Mo_writeGroup_at_l2_10, List.forall_mem_cons.mpr ⟨oo_Mo_writeGroup_at_l2_11, List.forall_mem_cons.mpr ⟨oo_Mo_writeGroup_at_l2_12, List.forall_mem_cons.mpr ⟨oo_Mo_writeGroup_at_l2_13, List.forall_mem_cons.mpr ⟨oo_Mo_writeGroup_at_l2_14, List.forall_mem_cons.mpr ⟨oo_Mo_writeGroup_at_l2_15, List.forall_mem_cons.mpr ⟨oo_Mo_writeGroup_at_l2_16, List.forall_mem_cons.mpr ⟨oo_Mo_writeGroup_at_l2_17, List.forall_mem_cons.mpr ⟨oo_Mo_writeGroup_at_l2_18, List.forall_mem_cons.mpr ⟨oo_Mo_writeGroup_at_l2_19, List.forall_mem_nil _⟩⟩⟩⟩⟩⟩⟩⟩⟩⟩⟩⟩⟩⟩⟩⟩⟩⟩⟩⟩) (by decide +kernel) ⟨List.forall_mem_cons.mpr ⟨gf_Mo_16, List.forall_mem_cons.mpr ⟨gf_Mo_391, List.forall_mem_nil _⟩⟩, List.forall_mem_nil _, List.forall_mem_cons.mpr ⟨cl_virtual (y := y_Mo_nodes) (ci := 13) rfl rfl ⟨_, _, rfl⟩ (by decide +kernel) h_Mo_nodes wm_3025 wm_9 wm_3022 wm_3024 wv_13_3 ⟨by decide, by decide, by decide +kernel⟩ (by decide), List.forall_mem_cons.mpr ⟨cl_virtual (y := y_Mo_groups) (ci := 13) rfl rfl ⟨_, _, rfl⟩ (by decide +kernel) h_Mo_groups wm_3070 wm_9 wm_3067 wm_3069 wv_13_14 ⟨by decide, by decide, by decide +kernel⟩ (by decide), List.forall_mem_cons.mpr ⟨cl_virtual (y := y_Mo_size) (ci := 13) rfl rfl ⟨_, _, rfl⟩ (by decide +kernel) h_Mo_size wm_3307 wm_9 wm_3304 wm_3306 wv_17_0 ⟨by decide, by decide, by decide +kernel⟩ (by decide), List.forall_mem_cons.mpr ⟨cl_virtual (y := y_Mo_groupOf) (ci := 13) rfl rfl ⟨_, _, rfl⟩ (by decide +kernel) h_Mo_groupOf wm_3311 wm_9 wm_3308 wm_3310 wv_17_1 ⟨by decide, by decide, by decide +kernel⟩ (by decide), List.forall_mem_cons.mpr ⟨cl_virtual (y := y_Mo_writeName) (ci := 13) rfl rfl ⟨_, _, rfl⟩ (by decide +kernel) h_Mo_writeName wm_3922 wm_9 wm_3919 wm_3921 wv_24_10 ⟨by decide, by decide, by decide +kernel⟩ (by decide), List.forall_mem_cons.mpr ⟨cl_virtual (y := y_Mo_writeNode) (ci := 13) rfl rfl ⟨_, _, rfl⟩ (by decide +kernel) h_Mo_writeNode wm_3918 wm_9 wm_3915 wm_3917 wv_24_9 ⟨by decide, by decide, by decide +kernel⟩ (by decide), List.forall_mem_cons.mpr ⟨cl_virtual (y := y_Mo_writeNumber) (ci := 13) rfl rfl ⟨_, _, rfl⟩ (by decide +kernel) h_Mo_writeNumber wm_3927 wm_9 wm_3924 wm_3926 wv_24_11 ⟨by decide, by decide, by decide +kernel⟩ (by decide), List.forall_mem_cons.mpr ⟨cl_virtual (y := y_Mo_write_at_s5013) (ci := 13) rfl rfl ⟨_, _, rfl⟩ (by decide +kernel) h_Mo_write_at_s5013 wm_3910 wm_9 wm_3907 wm_3909 wv_24_7 ⟨by decide, by decide, by decide +kernel⟩ (by decide), List.forall_mem_cons.mpr ⟨cl_virtual (y := y_Mo_write_at_s5014) (ci := 13) rfl rfl ⟨_, _, rfl⟩ (by decide +kernel) h_Mo_write_at_s5014 wm_3910 wm_9 wm_3907 wm_3909 wv_24_7 ⟨by decide, by decide, by decide +kernel⟩ (by decide), List.forall_mem_cons.mpr ⟨cl_virtual (y := y_Mo_write_at_s5045) (ci := 13) rfl rfl ⟨_, _, rfl⟩ (by decide +kernel) h_Mo_write_at_s5045 wm_3910 wm_9 wm_3907 wm_3909 wv_24_7 ⟨by decide, by decide, by decide +kernel⟩ (by decide), List.forall_mem_cons.mpr ⟨cl_virtual (y := y_Mo_write_at_s5015) (ci := 13) rfl rfl ⟨_, _, rfl⟩ (by decide +kernel) h_Mo_write_at_s5015 wm_3910 wm_9 wm_3907 wm_3909 wv_24_7 ⟨by decide, by decide, by decide +kernel⟩ (by decide), List.forall_mem_cons.mpr ⟨cl_virtual (y := y_Mo_write_at_s5016) (ci := 13) rfl rfl ⟨_, _, rfl⟩ (by decide +kernel) h_Mo_write_at_s5016 wm_3910 wm_9 wm_3907 wm_3909 wv_24_7 ⟨by decide, by decide, by decide +kernel⟩ (by decide), List.forall_mem_cons.mpr ⟨cl_virtual (y := y_Mo_write_at_s5017) (ci := 13) rfl rfl ⟨_, _, rfl⟩ (by decide +kernel) h_Mo_write_at_s5017 wm_3910 wm_9 wm_3907 wm_3909 wv_24_7 ⟨by decide, by decide, by decide +kernel⟩ (by decide), List.forall_mem_cons.mpr ⟨cl_virtual (y := y_Mo_writeGroup_at_l3) (ci := 13) rfl rfl ⟨_, _, rfl⟩ (by decide +kernel) h_Mo_writeGroup_at_l3 wm_3905 wm_9 wm_3902 wm_3904 wv_24_6 ⟨by decide, by decide, by decide +kernel⟩ (by decide), List.forall_mem_cons.mpr ⟨cl_virtual (y := y_Mo_write_at_s5018) (ci := 13) rfl rfl ⟨_, _, rfl⟩ (by decide +kernel) h_Mo_write_at_s5018 wm_3910 wm_9 wm_3907 wm_3909 wv_24_7 ⟨by decide, by decide, by decide +kernel⟩ (by decide), List.forall_mem_cons.mpr ⟨cl_ldcw (own := "DrawingHouseModel") (idx := 1288) (i := 13) (tx := "node ") (by decide +kernel) (by decide +kernel) (by decide +kernel), List.forall_mem_cons.mpr ⟨cl_ldcw (own := "DrawingHouseModel") (idx := 1296) (i := 14) (tx := " [size=") (by decide +kernel) (by decide +kernel) (by decide +kernel), List.forall_mem_cons.mpr ⟨cl_ldcw (own := "DrawingHouseModel") (idx := 1301) (i := 45) (tx := "]") (by decide +kernel) (by decide +kernel) (by decide +kernel), List.forall_mem_cons.mpr ⟨cl_ldcw (own := "DrawingHouseModel") (idx := 1303) (i := 15) (tx := ";\n") (by decide +kernel) (by decide +kernel) (by decide +kernel), List.forall_mem_cons.mpr ⟨cl_ldcw (own := "DrawingHouseModel") (idx := 1305) (i := 16) (tx := "group ") (by decide +kernel) (by decide +kernel) (by decide +kernel), List.forall_mem_cons.mpr ⟨cl_ldcw (own := "DrawingHouseModel") (idx := 1307) (i := 17) (tx := " {\n") (by decide +kernel) (by decide +kernel) (by decide +kernel), List.forall_mem_cons.mpr ⟨cl_ldcw (own := "DrawingHouseModel") (idx := 1312) (i := 18) (tx := "}\n") (by decide +kernel) (by decide +kernel) (by decide +kernel), List.forall_mem_nil _⟩⟩⟩⟩⟩⟩⟩⟩⟩⟩⟩⟩⟩⟩⟩⟩⟩⟩⟩⟩⟩⟩, List.forall_mem_nil _, List.forall_mem_nil _, GG_pl⟩ (by decide +kernel)

set_option maxHeartbeats 4000000 in
theorem vc_Mo_writeGroup_at_l3_0_0 (x2 : Int) (x3 : Int) (texts_0 : Int) (k2 : 0 ≤ x2 ∧ x2 ≤ 99942624) (k3 : 0 ≤ x3 ∧ x3 ≤ 0) (f0 : 1 * texts_0 + ((-1) * x2 + 0) ≤ 0) (kz_0_170 : 0 ≤ texts_0 ∧ texts_0 ≤ 100000000) : 1 * texts_0 + ((-1) * x2 + ((-36) * x3 + 0)) ≤ 0 := by
  first | assumption | omega | grind
def o_Mo_writeGroup_at_l3_0 : or_T := (2, 4, [(0, (2, 0, 0, [165])), (2, (0, 0, 99942624, [])), (3, (0, 0, 0, []))], [(20, [0, 2], [30, 0, 1, 1, 170, -1, 0, 0])], [], [], [(20, [0, 2, 3], [30, 0, 1, 1, 170, -1, 0, 0, -36, 0, 0]), (24, [0, 0], [])], [], [])
theorem oo_Mo_writeGroup_at_l3_0 {kA : Nat → ClassId} : or_ok PRD kA GG o_Mo_writeGroup_at_l3_0 := by
  refine or_mk fun A ta ws vs hD hth hl => ?_
  intro t0 r0 t2 k2 t3 k3 f0
  have kz_0_170 := fdq_13 hD hth r0
  have nf0 : fc_1 PRD (20, [0, 2, 3], [30, 0, 1, 1, 170, -1, 0, 0, -36, 0, 0]) ws (vs) := ⟨nf_in hl rfl, sgq_1906 (vc_Mo_writeGroup_at_l3_0_0 (v_iv (n_v vs 2)) (v_iv (n_v vs 3)) (w_fi ws (n_v vs 0) 170) k2 k3 (shm_140 f0) kz_0_170)⟩
  have nf1 : fc_1 PRD (24, [0, 0], []) ws (vs) := by
    refine ⟨nf_in hl rfl, sgq_1 ?_⟩
    · show n_v vs 0 = n_v vs 0
      first | rfl | simp only [true_and]
  refine ⟨(fun _ h => (by cases h)), [], trivial, ?_, (fun _ h => (by cases h))⟩
  rw [List.append_nil]
  exact List.forall_mem_cons.mpr ⟨⟨show (20 : Nat) < 100 from by decide, nf0⟩, List.forall_mem_cons.mpr ⟨⟨show (24 : Nat) < 100 from by decide, nf1⟩, (fun _ h => (by cases h))⟩⟩
set_option maxHeartbeats 4000000 in
theorem vc_Mo_writeGroup_at_l3_1_0 (x2 : Int) (x4 : Int) (x5 : Int) (x6 : Int) (x7 : Int) (x8 : Int) (all_0 : Int → Int) (r_0 : Int) (texts_0 : Int) (k2 : 0 ≤ x2 ∧ x2 ≤ 99942624) (k4 : 3 ≤ x4 ∧ x4 ≤ 7) (k5 : 0 ≤ x5 ∧ x5 ≤ 24) (k6 : 0 ≤ x6 ∧ x6 ≤ 24) (k7 : 1 ≤ x7 ∧ x7 ≤ 1) (k8 : 4 ≤ x8 ∧ x8 ≤ 8) (d0 : x4 + 1 ≤ x8 ∧ x8 ≤ x4 + 1) (d1 : x6 + 0 ≤ x5 ∧ x5 ≤ x6 + 4294967296) (f0 : x8 = x4 + x7) (f1 : x6 ≤ x5) (f2 : 1 * x6 + ((-1) * all_0 (r_0 + 0) + 0) ≤ 0) (f3 : (-1) * x6 + (1 * all_0 (r_0 + 0) + 0) ≤ 0) (f4 : 1 * texts_0 + ((-1) * x2 + ((-36) * x5 + 0)) ≤ 0) (kz_0_170 : 0 ≤ texts_0 ∧ texts_0 ≤ 100000000) : 1 * texts_0 + ((-1) * x2 + ((-14128) * x8 + (14128 * x4 + 0))) ≤ (-13264) := by
  first | assumption | omega | grind
def o_Mo_writeGroup_at_l3_1 : or_T := (83, 9, [(0, (2, 0, 0, [165])), (2, (0, 0, 99942624, [])), (4, (0, 3, 7, [])), (5, (0, 0, 24, [])), (6, (0, 0, 24, [])), (7, (0, 1, 1, [])), (8, (0, 4, 8, []))], [(1, [8, 4, 7], []), (7, [5, 6], [3]), (20, [6, 3], [30, 0, 1, 0, 0, -1, 3, 2005000]), (20, [6, 3], [30, 0, -1, 0, 0, 1, 3, 2005000]), (20, [3, 2, 5], [30, 0, 1, 1, 170, -1, 0, 0, -36, 0, 0]), (24, [0, 3], [])], [], [], [(20, [3, 2, 8, 4], [30, -13264, 1, 1, 170, -1, 0, 0, -14128, 0, 0, 14128, 0, 0])], [], [(8, 4, 1, 1), (5, 6, 0, 4294967296)])
theorem oo_Mo_writeGroup_at_l3_1 {kA : Nat → ClassId} : or_ok PRD kA GG o_Mo_writeGroup_at_l3_1 := by
  refine or_mk fun A ta ws vs hD hth hl => ?_
  intro t0 r0 t2 k2 t4 k4 t5 k5 t6 k6 t7 k7 t8 k8 d0 d1 f0 f1 f2 f3 f4 f5
  replace f0 := shm_12 f0
  replace f1 := shm_2 f1
  replace f2 := shm_135 f2
  replace f3 := shm_136 f3
  replace f4 := shm_1906 f4
  replace f5 := shm_5 f5
  have q3 : n_v vs 3 = n_v vs 0 := f5.symm
  simp only [q3] at f2 f3 f4
  have kz_0_170 := fdq_13 hD hth r0
  have nf0 : fc_1 PRD (20, [3, 2, 8, 4], [30, -13264, 1, 1, 170, -1, 0, 0, -14128, 0, 0, 14128, 0, 0]) ws (vs) := by
    refine ⟨nf_in hl rfl, sgq_1935 ?_⟩
    · show 1 * w_fi ws (n_v vs 3) 170 + ((-1) * v_iv (n_v vs 2) + ((-14128) * v_iv (n_v vs 8) + (14128 * v_iv (n_v vs 4) + 0))) ≤ (-13264)
      rw [q3]
      exact vc_Mo_writeGroup_at_l3_1_0 (v_iv (n_v vs 2)) (v_iv (n_v vs 4)) (v_iv (n_v vs 5)) (v_iv (n_v vs 6)) (v_iv (n_v vs 7)) (v_iv (n_v vs 8)) (w_ei ws (w_ar ws (n_v vs 0) 2)) (w_fi ws (n_v vs 0) 5) (w_fi ws (n_v vs 0) 170) k2 k4 k5 k6 k7 k8 d0 d1 f0 f1 f2 f3 f4 kz_0_170
  refine ⟨(fun _ h => (by cases h)), [], trivial, ?_, (fun _ h => (by cases h))⟩
  rw [List.append_nil]
  exact List.forall_mem_cons.mpr ⟨⟨show (20 : Nat) < 100 from by decide, nf0⟩, (fun _ h => (by cases h))⟩
set_option maxHeartbeats 4000000 in
theorem vc_Mo_writeGroup_at_l3_2_0 (x2 : Int) (x4 : Int) (x5 : Int) (x6 : Int) (x7 : Int) (all_0 : Int → Int) (r_0 : Int) (texts_0 : Int) (gx : Int) (k2 : 0 ≤ x2 ∧ x2 ≤ 99942624) (k4 : 3 ≤ x4 ∧ x4 ≤ 7) (k5 : 0 ≤ x5 ∧ x5 ≤ 23) (k6 : 1 ≤ x6 ∧ x6 ≤ 24) (k7 : 3 ≤ x7 ∧ x7 ≤ 7) (d0 : x4 + 0 ≤ x7 ∧ x7 ≤ x4 + 0) (d1 : x6 + (-4294967296) ≤ x5 ∧ x5 ≤ x6 + (-1)) (f0 : x7 = x4) (f1 : x7 = all_0 (((r_0 + 243) + x5))) (f2 : x5 < x6) (f3 : 1 * x6 + ((-1) * all_0 (r_0 + 0) + 0) ≤ 0) (f4 : (-1) * x6 + (1 * all_0 (r_0 + 0) + 0) ≤ 0) (f5 : 1 * texts_0 + ((-1) * x2 + ((-36) * x5 + 0)) ≤ 0) (kz_0_170 : 0 ≤ texts_0 ∧ texts_0 ≤ 100000000) (ex2 : gx = texts_0) (ex3 : 0 ≤ gx ∧ gx ≤ 99999995) : 1 * texts_0 + ((-1) * gx + 0) ≤ 0 := by
  first | assumption | omega | grind
set_option maxHeartbeats 4000000 in
theorem vc_Mo_writeGroup_at_l3_2_1 (x2 : Int) (x4 : Int) (x5 : Int) (x6 : Int) (x7 : Int) (all_0 : Int → Int) (r_0 : Int) (texts_0 : Int) (gx : Int) (k2 : 0 ≤ x2 ∧ x2 ≤ 99942624) (k4 : 3 ≤ x4 ∧ x4 ≤ 7) (k5 : 0 ≤ x5 ∧ x5 ≤ 23) (k6 : 1 ≤ x6 ∧ x6 ≤ 24) (k7 : 3 ≤ x7 ∧ x7 ≤ 7) (d0 : x4 + 0 ≤ x7 ∧ x7 ≤ x4 + 0) (d1 : x6 + (-4294967296) ≤ x5 ∧ x5 ≤ x6 + (-1)) (f0 : x7 = x4) (f1 : x7 = all_0 (((r_0 + 243) + x5))) (f2 : x5 < x6) (f3 : 1 * x6 + ((-1) * all_0 (r_0 + 0) + 0) ≤ 0) (f4 : (-1) * x6 + (1 * all_0 (r_0 + 0) + 0) ≤ 0) (f5 : 1 * texts_0 + ((-1) * x2 + ((-36) * x5 + 0)) ≤ 0) (kz_0_170 : 0 ≤ texts_0 ∧ texts_0 ≤ 100000000) (ex2 : gx = texts_0) (ex3 : 0 ≤ gx ∧ gx ≤ 99999995) : 1 * gx + ((-1) * x2 + ((-36) * x5 + 0)) ≤ 0 := by
  first | assumption | omega | grind
def o_Mo_writeGroup_at_l3_2 : or_T := (26, 9, [(0, (2, 0, 0, [165])), (2, (0, 0, 99942624, [])), (3, (2, 0, 0, [165])), (4, (0, 3, 7, [])), (5, (0, 0, 23, [])), (6, (0, 1, 24, [])), (7, (0, 3, 7, []))], [(7, [7, 4], [0]), (20, [7, 3, 5], [50, 1, 1, 1005, 1002, 1, 2, 1, 0, 3, 1, 2, 4, 7, 4, 3, 2, 1, 5, 0, 243, 1, 2]), (7, [5, 6], [2]), (20, [6, 3], [30, 0, 1, 0, 0, -1, 3, 2005000]), (20, [6, 3], [30, 0, -1, 0, 0, 1, 3, 2005000]), (20, [3, 2, 5], [30, 0, 1, 1, 170, -1, 0, 0, -36, 0, 0]), (24, [0, 3], [])], [], [(0, 0, 99999995, [])], [(20, [3, 9], [30, 0, 1, 1, 170, -1, 0, 0]), (23, [9, 2, 5], [0, 1, -1, -36])], [], [(7, 4, 0, 0), (5, 6, -4294967296, -1)])
theorem oo_Mo_writeGroup_at_l3_2 {kA : Nat → ClassId} : or_ok PRD kA GG o_Mo_writeGroup_at_l3_2 := by
  refine or_mk fun A ta ws vs hD hth hl => ?_
  intro t0 r0 t2 k2 t3 r3 t4 k4 t5 k5 t6 k6 t7 k7 d0 d1 f0 f1 f2 f3 f4 f5 f6
  replace f0 := shm_37 f0
  replace f1 := shm_585 f1
  replace f2 := shm_6 f2
  replace f3 := shm_135 f3
  replace f4 := shm_136 f4
  replace f5 := shm_1906 f5
  replace f6 := shm_5 f6
  have q3 : n_v vs 3 = n_v vs 0 := f6.symm
  simp only [q3] at f1 f3 f4 f5
  have cr_0_2 := fdq_12 hD hth r0
  have br_0_2_F5_0_0 : w_ei ws (w_ar ws (n_v vs 0) 2) (w_fi ws (n_v vs 0) 5 + 0) = w_el ws (w_ar ws (n_v vs 0) 2) (w_fi ws (n_v vs 0) 5 + 0).toNat := rfl
  have kz_0_170 := fdq_13 hD hth r0
  have kv0 := fdq_13 hD hth r0
  obtain ⟨x, ex, hx⟩ := iv_ex (ta := ta) (lo := 0) (hi := 99999995) (z := w_fi ws (n_v vs 0) 170) (by omega) (by omega) (by omega) (by omega)
  have ex2 : v_iv (Value.int x) = w_fi ws (n_v vs 0) 170 := ex
  have ex3 : 0 ≤ v_iv (Value.int x) ∧ v_iv (Value.int x) ≤ 99999995 := tv_rng hx
  have e_2 : n_v (vs ++ [Value.int x]) 2 = n_v vs 2 := n_v_old (by rw [hl]; decide)
  have e_3 : n_v (vs ++ [Value.int x]) 3 = n_v vs 3 := n_v_old (by rw [hl]; decide)
  have e_5 : n_v (vs ++ [Value.int x]) 5 = n_v vs 5 := n_v_old (by rw [hl]; decide)
  have e_9 : n_v (vs ++ [Value.int x]) 9 = Value.int x := n_v_new hl
  have nf0 : fc_1 PRD (20, [3, 9], [30, 0, 1, 1, 170, -1, 0, 0]) ws (vs ++ [Value.int x]) := by
    refine ⟨nf_inA hl rfl, sgq_140 ?_⟩
    · show 1 * w_fi ws (n_v (vs ++ [Value.int x]) 3) 170 + ((-1) * v_iv (n_v (vs ++ [Value.int x]) 9) + 0) ≤ 0
      simp only [e_3, e_9, q3]
      exact vc_Mo_writeGroup_at_l3_2_0 (v_iv (n_v vs 2)) (v_iv (n_v vs 4)) (v_iv (n_v vs 5)) (v_iv (n_v vs 6)) (v_iv (n_v vs 7)) (w_ei ws (w_ar ws (n_v vs 0) 2)) (w_fi ws (n_v vs 0) 5) (w_fi ws (n_v vs 0) 170) (v_iv (Value.int x)) k2 k4 k5 k6 k7 d0 d1 f0 f1 f2 f3 f4 f5 kz_0_170 ex2 ex3
  have nf1 : fc_1 PRD (23, [9, 2, 5], [0, 1, -1, -36]) ws (vs ++ [Value.int x]) := by
    refine ⟨nf_inA hl rfl, sgq_1908 ?_⟩
    · show 1 * v_iv (n_v (vs ++ [Value.int x]) 9) + ((-1) * v_iv (n_v (vs ++ [Value.int x]) 2) + ((-36) * v_iv (n_v (vs ++ [Value.int x]) 5) + 0)) ≤ 0
      simp only [e_2, e_5, e_9]
      exact vc_Mo_writeGroup_at_l3_2_1 (v_iv (n_v vs 2)) (v_iv (n_v vs 4)) (v_iv (n_v vs 5)) (v_iv (n_v vs 6)) (v_iv (n_v vs 7)) (w_ei ws (w_ar ws (n_v vs 0) 2)) (w_fi ws (n_v vs 0) 5) (w_fi ws (n_v vs 0) 170) (v_iv (Value.int x)) k2 k4 k5 k6 k7 d0 d1 f0 f1 f2 f3 f4 f5 kz_0_170 ex2 ex3
  exact ⟨(fun _ h => (by cases h)), [Value.int x], ag_one hx, List.forall_mem_cons.mpr ⟨⟨show (20 : Nat) < 100 from by decide, nf0⟩, List.forall_mem_cons.mpr ⟨⟨show (23 : Nat) < 100 from by decide, nf1⟩, (fun _ h => (by cases h))⟩⟩, (fun _ h => (by cases h))⟩
set_option maxHeartbeats 4000000 in
theorem vc_Mo_writeGroup_at_l3_3_0 (x2 : Int) (x4 : Int) (x5 : Int) (x6 : Int) (x7 : Int) (x9 : Int) (all_0 : Int → Int) (r_0 : Int) (texts_0 : Int) (gx : Int) (k2 : 0 ≤ x2 ∧ x2 ≤ 99942624) (k4 : 3 ≤ x4 ∧ x4 ≤ 7) (k5 : 0 ≤ x5 ∧ x5 ≤ 23) (k6 : 1 ≤ x6 ∧ x6 ≤ 24) (k7 : 3 ≤ x7 ∧ x7 ≤ 7) (k9 : 0 ≤ x9 ∧ x9 ≤ 99999995) (d0 : x4 + 0 ≤ x7 ∧ x7 ≤ x4 + 0) (d1 : x6 + (-4294967296) ≤ x5 ∧ x5 ≤ x6 + (-1)) (f0 : 1 * x9 + ((-1) * x2 + ((-36) * x5 + 0)) ≤ 0) (f1 : x7 = all_0 (((r_0 + 243) + x5))) (f2 : 1 * x6 + ((-1) * all_0 (r_0 + 0) + 0) ≤ 0) (f3 : (-1) * x6 + (1 * all_0 (r_0 + 0) + 0) ≤ 0) (f5 : 1 * texts_0 + ((-1) * x9 + 0) ≤ 5) (f7 : 1 * x9 + ((-1) * x2 + ((-36) * x5 + 0)) ≤ 0) (f8 : x7 = x4) (f9 : x5 < x6) (kz_0_170 : 0 ≤ texts_0 ∧ texts_0 ≤ 100000000) (ex2 : gx = texts_0) (ex3 : 0 ≤ gx ∧ gx ≤ 99999992) : 1 * texts_0 + ((-1) * gx + 0) ≤ 0 := by
  first | assumption | omega | grind
set_option maxHeartbeats 4000000 in
theorem vc_Mo_writeGroup_at_l3_3_1 (x2 : Int) (x4 : Int) (x5 : Int) (x6 : Int) (x7 : Int) (x9 : Int) (all_0 : Int → Int) (r_0 : Int) (texts_0 : Int) (gx : Int) (k2 : 0 ≤ x2 ∧ x2 ≤ 99942624) (k4 : 3 ≤ x4 ∧ x4 ≤ 7) (k5 : 0 ≤ x5 ∧ x5 ≤ 23) (k6 : 1 ≤ x6 ∧ x6 ≤ 24) (k7 : 3 ≤ x7 ∧ x7 ≤ 7) (k9 : 0 ≤ x9 ∧ x9 ≤ 99999995) (d0 : x4 + 0 ≤ x7 ∧ x7 ≤ x4 + 0) (d1 : x6 + (-4294967296) ≤ x5 ∧ x5 ≤ x6 + (-1)) (f0 : 1 * x9 + ((-1) * x2 + ((-36) * x5 + 0)) ≤ 0) (f1 : x7 = all_0 (((r_0 + 243) + x5))) (f2 : 1 * x6 + ((-1) * all_0 (r_0 + 0) + 0) ≤ 0) (f3 : (-1) * x6 + (1 * all_0 (r_0 + 0) + 0) ≤ 0) (f5 : 1 * texts_0 + ((-1) * x9 + 0) ≤ 5) (f7 : 1 * x9 + ((-1) * x2 + ((-36) * x5 + 0)) ≤ 0) (f8 : x7 = x4) (f9 : x5 < x6) (kz_0_170 : 0 ≤ texts_0 ∧ texts_0 ≤ 100000000) (ex2 : gx = texts_0) (ex3 : 0 ≤ gx ∧ gx ≤ 99999992) : 1 * gx + ((-1) * x2 + ((-36) * x5 + 0)) ≤ 5 := by
  first | assumption | omega | grind
def o_Mo_writeGroup_at_l3_3 : or_T := (31, 10, [(0, (2, 0, 0, [165])), (2, (0, 0, 99942624, [])), (3, (2, 0, 0, [165])), (4, (0, 3, 7, [])), (5, (0, 0, 23, [])), (6, (0, 1, 24, [])), (7, (0, 3, 7, [])), (9, (0, 0, 99999995, []))], [(23, [9, 2, 5], [0, 1, -1, -36]), (20, [7, 3, 5], [50, 1, 1, 1005, 1002, 1, 2, 1, 0, 3, 1, 2, 4, 7, 4, 3, 2, 1, 5, 0, 243, 1, 2]), (20, [6, 3], [30, 0, 1, 0, 0, -1, 3, 2005000]), (20, [6, 3], [30, 0, -1, 0, 0, 1, 3, 2005000]), (24, [0, 3], []), (20, [3, 9], [30, 5, 1, 1, 170, -1, 0, 0]), (102, [9], [7770675568902916283677847627294075626569627356208558085007249638955617140820833992704, 165170]), (23, [9, 2, 5], [0, 1, -1, -36]), (7, [7, 4], [0]), (7, [5, 6], [2])], [], [(0, 0, 99999992, [])], [(20, [3, 10], [30, 0, 1, 1, 170, -1, 0, 0]), (23, [10, 2, 5], [5, 1, -1, -36])], [], [(7, 4, 0, 0), (5, 6, -4294967296, -1)])
theorem oo_Mo_writeGroup_at_l3_3 {kA : Nat → ClassId} : or_ok PRD kA GG o_Mo_writeGroup_at_l3_3 := by
  refine or_mk fun A ta ws vs hD hth hl => ?_
  intro t0 r0 t2 k2 t3 r3 t4 k4 t5 k5 t6 k6 t7 k7 t9 k9 d0 d1 f0 f1 f2 f3 f4 f5 ta1 w1 le1 s1 f7 f8 f9
  replace f0 := shm_1908 f0
  replace f1 := shm_585 f1
  replace f2 := shm_135 f2
  replace f3 := shm_136 f3
  replace f4 := shm_5 f4
  replace f5 := shm_232 f5
  replace f7 := shm_1908 f7
  replace f8 := shm_37 f8
  replace f9 := shm_6 f9
  have q3 : n_v vs 3 = n_v vs 0 := f4.symm
  simp only [q3] at f1 f2 f3 f5
  have cr_0_2 := fdq_12 hD hth r0
  have br_0_2_F5_0_0 : w_ei ws (w_ar ws (n_v vs 0) 2) (w_fi ws (n_v vs 0) 5 + 0) = w_el ws (w_ar ws (n_v vs 0) 2) (w_fi ws (n_v vs 0) 5 + 0).toNat := rfl
  have kz_0_170 := fdq_13 hD hth r0
  have kv0 := fdq_13 hD hth r0
  obtain ⟨x, ex, hx⟩ := iv_ex (ta := ta) (lo := 0) (hi := 99999992) (z := w_fi ws (n_v vs 0) 170) (by omega) (by omega) (by omega) (by omega)
  have ex2 : v_iv (Value.int x) = w_fi ws (n_v vs 0) 170 := ex
  have ex3 : 0 ≤ v_iv (Value.int x) ∧ v_iv (Value.int x) ≤ 99999992 := tv_rng hx
  have e_2 : n_v (vs ++ [Value.int x]) 2 = n_v vs 2 := n_v_old (by rw [hl]; decide)
  have e_3 : n_v (vs ++ [Value.int x]) 3 = n_v vs 3 := n_v_old (by rw [hl]; decide)
  have e_5 : n_v (vs ++ [Value.int x]) 5 = n_v vs 5 := n_v_old (by rw [hl]; decide)
  have e_10 : n_v (vs ++ [Value.int x]) 10 = Value.int x := n_v_new hl
  have nf0 : fc_1 PRD (20, [3, 10], [30, 0, 1, 1, 170, -1, 0, 0]) ws (vs ++ [Value.int x]) := by
    refine ⟨nf_inA hl rfl, sgq_140 ?_⟩
    · show 1 * w_fi ws (n_v (vs ++ [Value.int x]) 3) 170 + ((-1) * v_iv (n_v (vs ++ [Value.int x]) 10) + 0) ≤ 0
      simp only [e_3, e_10, q3]
      exact vc_Mo_writeGroup_at_l3_3_0 (v_iv (n_v vs 2)) (v_iv (n_v vs 4)) (v_iv (n_v vs 5)) (v_iv (n_v vs 6)) (v_iv (n_v vs 7)) (v_iv (n_v vs 9)) (w_ei ws (w_ar ws (n_v vs 0) 2)) (w_fi ws (n_v vs 0) 5) (w_fi ws (n_v vs 0) 170) (v_iv (Value.int x)) k2 k4 k5 k6 k7 k9 d0 d1 f0 f1 f2 f3 f5 f7 f8 f9 kz_0_170 ex2 ex3
  have nf1 : fc_1 PRD (23, [10, 2, 5], [5, 1, -1, -36]) ws (vs ++ [Value.int x]) := by
    refine ⟨nf_inA hl rfl, sgq_1909 ?_⟩
    · show 1 * v_iv (n_v (vs ++ [Value.int x]) 10) + ((-1) * v_iv (n_v (vs ++ [Value.int x]) 2) + ((-36) * v_iv (n_v (vs ++ [Value.int x]) 5) + 0)) ≤ 5
      simp only [e_2, e_5, e_10]
      exact vc_Mo_writeGroup_at_l3_3_1 (v_iv (n_v vs 2)) (v_iv (n_v vs 4)) (v_iv (n_v vs 5)) (v_iv (n_v vs 6)) (v_iv (n_v vs 7)) (v_iv (n_v vs 9)) (w_ei ws (w_ar ws (n_v vs 0) 2)) (w_fi ws (n_v vs 0) 5) (w_fi ws (n_v vs 0) 170) (v_iv (Value.int x)) k2 k4 k5 k6 k7 k9 d0 d1 f0 f1 f2 f3 f5 f7 f8 f9 kz_0_170 ex2 ex3
  exact ⟨(fun _ h => (by cases h)), [Value.int x], ag_one hx, List.forall_mem_cons.mpr ⟨⟨show (20 : Nat) < 100 from by decide, nf0⟩, List.forall_mem_cons.mpr ⟨⟨show (23 : Nat) < 100 from by decide, nf1⟩, (fun _ h => (by cases h))⟩⟩, (fun _ h => (by cases h))⟩
set_option maxHeartbeats 4000000 in
theorem vc_Mo_writeGroup_at_l3_4_0 (x2 : Int) (x4 : Int) (x5 : Int) (x6 : Int) (x7 : Int) (x9 : Int) (x10 : Int) (x11 : Int) (x12 : Int) (all_0 : Int → Int) (r_0 : Int) (texts_0 : Int) (gx : Int) (k2 : 0 ≤ x2 ∧ x2 ≤ 99942624) (k4 : 3 ≤ x4 ∧ x4 ≤ 7) (k5 : 0 ≤ x5 ∧ x5 ≤ 23) (k6 : 1 ≤ x6 ∧ x6 ≤ 24) (k7 : 3 ≤ x7 ∧ x7 ≤ 7) (k9 : 0 ≤ x9 ∧ x9 ≤ 99999995) (k10 : 0 ≤ x10 ∧ x10 ≤ 99999992) (k11 : 0 ≤ x11 ∧ x11 ≤ 1) (k12 : 1 ≤ x12 ∧ x12 ≤ 1) (d0 : x4 + 0 ≤ x7 ∧ x7 ≤ x4 + 0) (d1 : x6 + (-4294967296) ≤ x5 ∧ x5 ≤ x6 + (-1)) (f0 : x11 ≤ x12) (f1 : x11 = all_0 (((r_0 + 219) + x5))) (f2 : 1 * x10 + ((-1) * x2 + ((-36) * x5 + 0)) ≤ 5) (f3 : 1 * x9 + ((-1) * x2 + ((-36) * x5 + 0)) ≤ 0) (f4 : x7 = all_0 (((r_0 + 243) + x5))) (f5 : 1 * x6 + ((-1) * all_0 (r_0 + 0) + 0) ≤ 0) (f6 : (-1) * x6 + (1 * all_0 (r_0 + 0) + 0) ≤ 0) (f8 : 1 * texts_0 + ((-1) * x10 + 0) ≤ 8) (f10 : 1 * x10 + ((-1) * x2 + ((-36) * x5 + 0)) ≤ 5) (f11 : 1 * x9 + ((-1) * x2 + ((-36) * x5 + 0)) ≤ 0) (f13 : 1 * x9 + ((-1) * x2 + ((-36) * x5 + 0)) ≤ 0) (f14 : x7 = x4) (f15 : x5 < x6) (kz_0_170 : 0 ≤ texts_0 ∧ texts_0 ≤ 100000000) (ex2 : gx = texts_0) (ex3 : 0 ≤ gx ∧ gx ≤ 99999998) : 1 * texts_0 + ((-1) * gx + 0) ≤ 0 := by
  first | assumption | omega | grind
set_option maxHeartbeats 4000000 in
theorem vc_Mo_writeGroup_at_l3_4_1 (x2 : Int) (x4 : Int) (x5 : Int) (x6 : Int) (x7 : Int) (x9 : Int) (x10 : Int) (x11 : Int) (x12 : Int) (all_0 : Int → Int) (r_0 : Int) (texts_0 : Int) (gx : Int) (k2 : 0 ≤ x2 ∧ x2 ≤ 99942624) (k4 : 3 ≤ x4 ∧ x4 ≤ 7) (k5 : 0 ≤ x5 ∧ x5 ≤ 23) (k6 : 1 ≤ x6 ∧ x6 ≤ 24) (k7 : 3 ≤ x7 ∧ x7 ≤ 7) (k9 : 0 ≤ x9 ∧ x9 ≤ 99999995) (k10 : 0 ≤ x10 ∧ x10 ≤ 99999992) (k11 : 0 ≤ x11 ∧ x11 ≤ 1) (k12 : 1 ≤ x12 ∧ x12 ≤ 1) (d0 : x4 + 0 ≤ x7 ∧ x7 ≤ x4 + 0) (d1 : x6 + (-4294967296) ≤ x5 ∧ x5 ≤ x6 + (-1)) (f0 : x11 ≤ x12) (f1 : x11 = all_0 (((r_0 + 219) + x5))) (f2 : 1 * x10 + ((-1) * x2 + ((-36) * x5 + 0)) ≤ 5) (f3 : 1 * x9 + ((-1) * x2 + ((-36) * x5 + 0)) ≤ 0) (f4 : x7 = all_0 (((r_0 + 243) + x5))) (f5 : 1 * x6 + ((-1) * all_0 (r_0 + 0) + 0) ≤ 0) (f6 : (-1) * x6 + (1 * all_0 (r_0 + 0) + 0) ≤ 0) (f8 : 1 * texts_0 + ((-1) * x10 + 0) ≤ 8) (f10 : 1 * x10 + ((-1) * x2 + ((-36) * x5 + 0)) ≤ 5) (f11 : 1 * x9 + ((-1) * x2 + ((-36) * x5 + 0)) ≤ 0) (f13 : 1 * x9 + ((-1) * x2 + ((-36) * x5 + 0)) ≤ 0) (f14 : x7 = x4) (f15 : x5 < x6) (kz_0_170 : 0 ≤ texts_0 ∧ texts_0 ≤ 100000000) (ex2 : gx = texts_0) (ex3 : 0 ≤ gx ∧ gx ≤ 99999998) : 1 * gx + ((-1) * x2 + ((-36) * x5 + 0)) ≤ 34 := by
  first | assumption | omega | grind
def o_Mo_writeGroup_at_l3_4 : or_T := (70, 14, [(0, (2, 0, 0, [165])), (2, (0, 0, 99942624, [])), (3, (2, 0, 0, [165])), (4, (0, 3, 7, [])), (5, (0, 0, 23, [])), (6, (0, 1, 24, [])), (7, (0, 3, 7, [])), (9, (0, 0, 99999995, [])), (10, (0, 0, 99999992, [])), (11, (0, 0, 1, [])), (12, (0, 1, 1, []))], [(7, [11, 12], [5]), (20, [11, 3, 5], [50, 1, 1, 1005, 1002, 1, 2, 1, 0, 3, 1, 2, 4, 7, 4, 3, 2, 1, 5, 0, 219, 1, 2]), (23, [10, 2, 5], [5, 1, -1, -36]), (23, [9, 2, 5], [0, 1, -1, -36]), (20, [7, 3, 5], [50, 1, 1, 1005, 1002, 1, 2, 1, 0, 3, 1, 2, 4, 7, 4, 3, 2, 1, 5, 0, 243, 1, 2]), (20, [6, 3], [30, 0, 1, 0, 0, -1, 3, 2005000]), (20, [6, 3], [30, 0, -1, 0, 0, 1, 3, 2005000]), (24, [0, 3], []), (20, [3, 10], [30, 8, 1, 1, 170, -1, 0, 0]), (102, [10], [7770675568902916283677847627294075626569627356208558085007249638955617140820833992704, 165170]), (23, [10, 2, 5], [5, 1, -1, -36]), (23, [9, 2, 5], [0, 1, -1, -36]), (102, [9], [7770675568902916283677847627294075626569627356208558085007249638955617140820833992704, 165170]), (23, [9, 2, 5], [0, 1, -1, -36]), (7, [7, 4], [0]), (7, [5, 6], [2])], [], [(0, 0, 99999998, [])], [(20, [3, 14], [30, 0, 1, 1, 170, -1, 0, 0]), (23, [14, 2, 5], [34, 1, -1, -36])], [], [(7, 4, 0, 0), (5, 6, -4294967296, -1)])
theorem oo_Mo_writeGroup_at_l3_4 {kA : Nat → ClassId} : or_ok PRD kA GG o_Mo_writeGroup_at_l3_4 := by
  refine or_mk fun A ta ws vs hD hth hl => ?_
  intro t0 r0 t2 k2 t3 r3 t4 k4 t5 k5 t6 k6 t7 k7 t9 k9 t10 k10 t11 k11 t12 k12 d0 d1 f0 f1 f2 f3 f4 f5 f6 f7 f8 ta1 w1 le1 s1 f10 f11 ta2 w2 le2 s2 f13 f14 f15
  replace f0 := shm_24 f0
  replace f1 := shm_718 f1
  replace f2 := shm_1909 f2
  replace f3 := shm_1908 f3
  replace f4 := shm_585 f4
  replace f5 := shm_135 f5
  replace f6 := shm_136 f6
  replace f7 := shm_5 f7
  replace f8 := shm_172 f8
  replace f10 := shm_1909 f10
  replace f11 := shm_1908 f11
  replace f13 := shm_1908 f13
  replace f14 := shm_37 f14
  replace f15 := shm_6 f15
  have q3 : n_v vs 3 = n_v vs 0 := f7.symm
  simp only [q3] at f1 f4 f5 f6 f8
  have cr_0_2 := fdq_12 hD hth r0
  have br_0_2_F5_0_0 : w_ei ws (w_ar ws (n_v vs 0) 2) (w_fi ws (n_v vs 0) 5 + 0) = w_el ws (w_ar ws (n_v vs 0) 2) (w_fi ws (n_v vs 0) 5 + 0).toNat := rfl
  have kz_0_170 := fdq_13 hD hth r0
  have kv0 := fdq_13 hD hth r0
  obtain ⟨x, ex, hx⟩ := iv_ex (ta := ta) (lo := 0) (hi := 99999998) (z := w_fi ws (n_v vs 0) 170) (by omega) (by omega) (by omega) (by omega)
  have ex2 : v_iv (Value.int x) = w_fi ws (n_v vs 0) 170 := ex
  have ex3 : 0 ≤ v_iv (Value.int x) ∧ v_iv (Value.int x) ≤ 99999998 := tv_rng hx
  have e_2 : n_v (vs ++ [Value.int x]) 2 = n_v vs 2 := n_v_old (by rw [hl]; decide)
  have e_3 : n_v (vs ++ [Value.int x]) 3 = n_v vs 3 := n_v_old (by rw [hl]; decide)
  have e_5 : n_v (vs ++ [Value.int x]) 5 = n_v vs 5 := n_v_old (by rw [hl]; decide)
  have e_14 : n_v (vs ++ [Value.int x]) 14 = Value.int x := n_v_new hl
  have nf0 : fc_1 PRD (20, [3, 14], [30, 0, 1, 1, 170, -1, 0, 0]) ws (vs ++ [Value.int x]) := by
    refine ⟨nf_inA hl rfl, sgq_140 ?_⟩
    · show 1 * w_fi ws (n_v (vs ++ [Value.int x]) 3) 170 + ((-1) * v_iv (n_v (vs ++ [Value.int x]) 14) + 0) ≤ 0
      simp only [e_3, e_14, q3]
      exact vc_Mo_writeGroup_at_l3_4_0 (v_iv (n_v vs 2)) (v_iv (n_v vs 4)) (v_iv (n_v vs 5)) (v_iv (n_v vs 6)) (v_iv (n_v vs 7)) (v_iv (n_v vs 9)) (v_iv (n_v vs 10)) (v_iv (n_v vs 11)) (v_iv (n_v vs 12)) (w_ei ws (w_ar ws (n_v vs 0) 2)) (w_fi ws (n_v vs 0) 5) (w_fi ws (n_v vs 0) 170) (v_iv (Value.int x)) k2 k4 k5 k6 k7 k9 k10 k11 k12 d0 d1 f0 f1 f2 f3 f4 f5 f6 f8 f10 f11 f13 f14 f15 kz_0_170 ex2 ex3
  have nf1 : fc_1 PRD (23, [14, 2, 5], [34, 1, -1, -36]) ws (vs ++ [Value.int x]) := by
    refine ⟨nf_inA hl rfl, sgq_1910 ?_⟩
    · show 1 * v_iv (n_v (vs ++ [Value.int x]) 14) + ((-1) * v_iv (n_v (vs ++ [Value.int x]) 2) + ((-36) * v_iv (n_v (vs ++ [Value.int x]) 5) + 0)) ≤ 34
      simp only [e_2, e_5, e_14]
      exact vc_Mo_writeGroup_at_l3_4_1 (v_iv (n_v vs 2)) (v_iv (n_v vs 4)) (v_iv (n_v vs 5)) (v_iv (n_v vs 6)) (v_iv (n_v vs 7)) (v_iv (n_v vs 9)) (v_iv (n_v vs 10)) (v_iv (n_v vs 11)) (v_iv (n_v vs 12)) (w_ei ws (w_ar ws (n_v vs 0) 2)) (w_fi ws (n_v vs 0) 5) (w_fi ws (n_v vs 0) 170) (v_iv (Value.int x)) k2 k4 k5 k6 k7 k9 k10 k11 k12 d0 d1 f0 f1 f2 f3 f4 f5 f6 f8 f10 f11 f13 f14 f15 kz_0_170 ex2 ex3
  exact ⟨(fun _ h => (by cases h)), [Value.int x], ag_one hx, List.forall_mem_cons.mpr ⟨⟨show (20 : Nat) < 100 from by decide, nf0⟩, List.forall_mem_cons.mpr ⟨⟨show (23 : Nat) < 100 from by decide, nf1⟩, (fun _ h => (by cases h))⟩⟩, (fun _ h => (by cases h))⟩
set_option maxHeartbeats 4000000 in
theorem vc_Mo_writeGroup_at_l3_5_0 (x2 : Int) (x4 : Int) (x5 : Int) (x6 : Int) (x7 : Int) (x9 : Int) (x10 : Int) (x11 : Int) (x12 : Int) (x14 : Int) (x15 : Int) (all_0 : Int → Int) (r_0 : Int) (texts_0 : Int) (k2 : 0 ≤ x2 ∧ x2 ≤ 99942624) (k4 : 3 ≤ x4 ∧ x4 ≤ 7) (k5 : 0 ≤ x5 ∧ x5 ≤ 23) (k6 : 1 ≤ x6 ∧ x6 ≤ 24) (k7 : 3 ≤ x7 ∧ x7 ≤ 7) (k9 : 0 ≤ x9 ∧ x9 ≤ 99999995) (k10 : 0 ≤ x10 ∧ x10 ≤ 99999992) (k11 : 0 ≤ x11 ∧ x11 ≤ 1) (k12 : 1 ≤ x12 ∧ x12 ≤ 1) (k14 : 0 ≤ x14 ∧ x14 ≤ 99999998) (k15 : 1 ≤ x15 ∧ x15 ≤ 24) (d0 : x5 + 1 ≤ x15 ∧ x15 ≤ x5 + 1) (d1 : x6 + (-4294967296) ≤ x15 ∧ x15 ≤ x6 + 0) (d2 : x4 + 0 ≤ x7 ∧ x7 ≤ x4 + 0) (d3 : x6 + (-4294967296) ≤ x5 ∧ x5 ≤ x6 + (-1)) (f0 : x15 = x5 + 1) (f1 : 1 * x14 + ((-1) * x2 + ((-36) * x5 + 0)) ≤ 34) (f2 : x11 = all_0 (((r_0 + 219) + x5))) (f3 : 1 * x10 + ((-1) * x2 + ((-36) * x5 + 0)) ≤ 5) (f4 : 1 * x9 + ((-1) * x2 + ((-36) * x5 + 0)) ≤ 0) (f5 : x7 = all_0 (((r_0 + 243) + x5))) (f6 : 1 * x6 + ((-1) * all_0 (r_0 + 0) + 0) ≤ 0) (f7 : (-1) * x6 + (1 * all_0 (r_0 + 0) + 0) ≤ 0) (f9 : 1 * texts_0 + ((-1) * x14 + 0) ≤ 2) (f11 : 1 * x14 + ((-1) * x2 + ((-36) * x5 + 0)) ≤ 34) (f12 : x11 ≤ x12) (f13 : 1 * x10 + ((-1) * x2 + ((-36) * x5 + 0)) ≤ 5) (f14 : 1 * x9 + ((-1) * x2 + ((-36) * x5 + 0)) ≤ 0) (f16 : 1 * x10 + ((-1) * x2 + ((-36) * x5 + 0)) ≤ 5) (f17 : 1 * x9 + ((-1) * x2 + ((-36) * x5 + 0)) ≤ 0) (f19 : 1 * x9 + ((-1) * x2 + ((-36) * x5 + 0)) ≤ 0) (f20 : x7 = x4) (f21 : x5 < x6) (kz_0_170 : 0 ≤ texts_0 ∧ texts_0 ≤ 100000000) : 1 * texts_0 + ((-1) * x2 + ((-36) * x15 + 0)) ≤ 0 := by
  first | assumption | omega | grind
def o_Mo_writeGroup_at_l3_5 : or_T := (2, 16, [(0, (2, 0, 0, [165])), (2, (0, 0, 99942624, [])), (4, (0, 3, 7, [])), (5, (0, 0, 23, [])), (6, (0, 1, 24, [])), (7, (0, 3, 7, [])), (9, (0, 0, 99999995, [])), (10, (0, 0, 99999992, [])), (11, (0, 0, 1, [])), (12, (0, 1, 1, [])), (14, (0, 0, 99999998, [])), (15, (0, 1, 24, []))], [(6, [15, 5], [1]), (23, [14, 2, 5], [34, 1, -1, -36]), (20, [11, 3, 5], [50, 1, 1, 1005, 1002, 1, 2, 1, 0, 3, 1, 2, 4, 7, 4, 3, 2, 1, 5, 0, 219, 1, 2]), (23, [10, 2, 5], [5, 1, -1, -36]), (23, [9, 2, 5], [0, 1, -1, -36]), (20, [7, 3, 5], [50, 1, 1, 1005, 1002, 1, 2, 1, 0, 3, 1, 2, 4, 7, 4, 3, 2, 1, 5, 0, 243, 1, 2]), (20, [6, 3], [30, 0, 1, 0, 0, -1, 3, 2005000]), (20, [6, 3], [30, 0, -1, 0, 0, 1, 3, 2005000]), (24, [0, 3], []), (20, [3, 14], [30, 2, 1, 1, 170, -1, 0, 0]), (102, [14], [7770675568902916283677847627294075626569627356208558085007249638955617140820833992704, 165170]), (23, [14, 2, 5], [34, 1, -1, -36]), (7, [11, 12], [5]), (23, [10, 2, 5], [5, 1, -1, -36]), (23, [9, 2, 5], [0, 1, -1, -36]), (102, [10], [7770675568902916283677847627294075626569627356208558085007249638955617140820833992704, 165170]), (23, [10, 2, 5], [5, 1, -1, -36]), (23, [9, 2, 5], [0, 1, -1, -36]), (102, [9], [7770675568902916283677847627294075626569627356208558085007249638955617140820833992704, 165170]), (23, [9, 2, 5], [0, 1, -1, -36]), (7, [7, 4], [0]), (7, [5, 6], [2])], [], [], [(20, [3, 2, 15], [30, 0, 1, 1, 170, -1, 0, 0, -36, 0, 0])], [], [(15, 5, 1, 1), (15, 6, -4294967296, 0), (7, 4, 0, 0), (5, 6, -4294967296, -1)])
theorem oo_Mo_writeGroup_at_l3_5 {kA : Nat → ClassId} : or_ok PRD kA GG o_Mo_writeGroup_at_l3_5 := by
  refine or_mk fun A ta ws vs hD hth hl => ?_
  intro t0 r0 t2 k2 t4 k4 t5 k5 t6 k6 t7 k7 t9 k9 t10 k10 t11 k11 t12 k12 t14 k14 t15 k15 d0 d1 d2 d3 f0 f1 f2 f3 f4 f5 f6 f7 f8 f9 ta1 w1 le1 s1 f11 f12 f13 f14 ta2 w2 le2 s2 f16 f17 ta3 w3 le3 s3 f19 f20 f21
  replace f0 := shm_4 f0
  replace f1 := shm_1910 f1
  replace f2 := shm_718 f2
  replace f3 := shm_1909 f3
  replace f4 := shm_1908 f4
  replace f5 := shm_585 f5
  replace f6 := shm_135 f6
  replace f7 := shm_136 f7
  replace f8 := shm_5 f8
  replace f9 := shm_234 f9
  replace f11 := shm_1910 f11
  replace f12 := shm_24 f12
  replace f13 := shm_1909 f13
  replace f14 := shm_1908 f14
  replace f16 := shm_1909 f16
  replace f17 := shm_1908 f17
  replace f19 := shm_1908 f19
  replace f20 := shm_37 f20
  replace f21 := shm_6 f21
  have q3 : n_v vs 3 = n_v vs 0 := f8.symm
  simp only [q3] at f2 f5 f6 f7 f9
  have kz_0_170 := fdq_13 hD hth r0
  have nf0 : fc_1 PRD (20, [3, 2, 15], [30, 0, 1, 1, 170, -1, 0, 0, -36, 0, 0]) ws (vs) := by
    refine ⟨nf_in hl rfl, sgq_1906 ?_⟩
    · show 1 * w_fi ws (n_v vs 3) 170 + ((-1) * v_iv (n_v vs 2) + ((-36) * v_iv (n_v vs 15) + 0)) ≤ 0
      rw [q3]
      exact vc_Mo_writeGroup_at_l3_5_0 (v_iv (n_v vs 2)) (v_iv (n_v vs 4)) (v_iv (n_v vs 5)) (v_iv (n_v vs 6)) (v_iv (n_v vs 7)) (v_iv (n_v vs 9)) (v_iv (n_v vs 10)) (v_iv (n_v vs 11)) (v_iv (n_v vs 12)) (v_iv (n_v vs 14)) (v_iv (n_v vs 15)) (w_ei ws (w_ar ws (n_v vs 0) 2)) (w_fi ws (n_v vs 0) 5) (w_fi ws (n_v vs 0) 170) k2 k4 k5 k6 k7 k9 k10 k11 k12 k14 k15 d0 d1 d2 d3 f0 f1 f2 f3 f4 f5 f6 f7 f9 f11 f12 f13 f14 f16 f17 f19 f20 f21 kz_0_170
  refine ⟨(fun _ h => (by cases h)), [], trivial, ?_, (fun _ h => (by cases h))⟩
  rw [List.append_nil]
  exact List.forall_mem_cons.mpr ⟨⟨show (20 : Nat) < 100 from by decide, nf0⟩, (fun _ h => (by cases h))⟩
set_option maxHeartbeats 4000000 in
theorem vc_Mo_writeGroup_at_l3_6_0 (x2 : Int) (x4 : Int) (x5 : Int) (x6 : Int) (x7 : Int) (x9 : Int) (x10 : Int) (x11 : Int) (x12 : Int) (all_0 : Int → Int) (r_0 : Int) (texts_0 : Int) (gx : Int) (k2 : 0 ≤ x2 ∧ x2 ≤ 99942624) (k4 : 3 ≤ x4 ∧ x4 ≤ 7) (k5 : 0 ≤ x5 ∧ x5 ≤ 23) (k6 : 1 ≤ x6 ∧ x6 ≤ 24) (k7 : 3 ≤ x7 ∧ x7 ≤ 7) (k9 : 0 ≤ x9 ∧ x9 ≤ 99999995) (k10 : 0 ≤ x10 ∧ x10 ≤ 99999992) (k11 : 2 ≤ x11 ∧ x11 ≤ 99) (k12 : 1 ≤ x12 ∧ x12 ≤ 1) (d0 : x4 + 0 ≤ x7 ∧ x7 ≤ x4 + 0) (d1 : x6 + (-4294967296) ≤ x5 ∧ x5 ≤ x6 + (-1)) (f0 : x12 < x11) (f1 : x11 = all_0 (((r_0 + 219) + x5))) (f2 : 1 * x10 + ((-1) * x2 + ((-36) * x5 + 0)) ≤ 5) (f3 : 1 * x9 + ((-1) * x2 + ((-36) * x5 + 0)) ≤ 0) (f4 : x7 = all_0 (((r_0 + 243) + x5))) (f5 : 1 * x6 + ((-1) * all_0 (r_0 + 0) + 0) ≤ 0) (f6 : (-1) * x6 + (1 * all_0 (r_0 + 0) + 0) ≤ 0) (f8 : 1 * texts_0 + ((-1) * x10 + 0) ≤ 8) (f10 : 1 * x10 + ((-1) * x2 + ((-36) * x5 + 0)) ≤ 5) (f11 : 1 * x9 + ((-1) * x2 + ((-36) * x5 + 0)) ≤ 0) (f13 : 1 * x9 + ((-1) * x2 + ((-36) * x5 + 0)) ≤ 0) (f14 : x7 = x4) (f15 : x5 < x6) (kz_0_170 : 0 ≤ texts_0 ∧ texts_0 ≤ 100000000) (ex2 : gx = texts_0) (ex3 : 0 ≤ gx ∧ gx ≤ 99999993) : 1 * texts_0 + ((-1) * gx + 0) ≤ 0 := by
  first | assumption | omega | grind
set_option maxHeartbeats 4000000 in
theorem vc_Mo_writeGroup_at_l3_6_1 (x2 : Int) (x4 : Int) (x5 : Int) (x6 : Int) (x7 : Int) (x9 : Int) (x10 : Int) (x11 : Int) (x12 : Int) (all_0 : Int → Int) (r_0 : Int) (texts_0 : Int) (gx : Int) (k2 : 0 ≤ x2 ∧ x2 ≤ 99942624) (k4 : 3 ≤ x4 ∧ x4 ≤ 7) (k5 : 0 ≤ x5 ∧ x5 ≤ 23) (k6 : 1 ≤ x6 ∧ x6 ≤ 24) (k7 : 3 ≤ x7 ∧ x7 ≤ 7) (k9 : 0 ≤ x9 ∧ x9 ≤ 99999995) (k10 : 0 ≤ x10 ∧ x10 ≤ 99999992) (k11 : 2 ≤ x11 ∧ x11 ≤ 99) (k12 : 1 ≤ x12 ∧ x12 ≤ 1) (d0 : x4 + 0 ≤ x7 ∧ x7 ≤ x4 + 0) (d1 : x6 + (-4294967296) ≤ x5 ∧ x5 ≤ x6 + (-1)) (f0 : x12 < x11) (f1 : x11 = all_0 (((r_0 + 219) + x5))) (f2 : 1 * x10 + ((-1) * x2 + ((-36) * x5 + 0)) ≤ 5) (f3 : 1 * x9 + ((-1) * x2 + ((-36) * x5 + 0)) ≤ 0) (f4 : x7 = all_0 (((r_0 + 243) + x5))) (f5 : 1 * x6 + ((-1) * all_0 (r_0 + 0) + 0) ≤ 0) (f6 : (-1) * x6 + (1 * all_0 (r_0 + 0) + 0) ≤ 0) (f8 : 1 * texts_0 + ((-1) * x10 + 0) ≤ 8) (f10 : 1 * x10 + ((-1) * x2 + ((-36) * x5 + 0)) ≤ 5) (f11 : 1 * x9 + ((-1) * x2 + ((-36) * x5 + 0)) ≤ 0) (f13 : 1 * x9 + ((-1) * x2 + ((-36) * x5 + 0)) ≤ 0) (f14 : x7 = x4) (f15 : x5 < x6) (kz_0_170 : 0 ≤ texts_0 ∧ texts_0 ≤ 100000000) (ex2 : gx = texts_0) (ex3 : 0 ≤ gx ∧ gx ≤ 99999993) : 1 * gx + ((-1) * x2 + ((-36) * x5 + 0)) ≤ 13 := by
  first | assumption | omega | grind
def o_Mo_writeGroup_at_l3_6 : or_T := (47, 14, [(0, (2, 0, 0, [165])), (2, (0, 0, 99942624, [])), (3, (2, 0, 0, [165])), (4, (0, 3, 7, [])), (5, (0, 0, 23, [])), (6, (0, 1, 24, [])), (7, (0, 3, 7, [])), (9, (0, 0, 99999995, [])), (10, (0, 0, 99999992, [])), (11, (0, 2, 99, [])), (12, (0, 1, 1, []))], [(7, [11, 12], [4]), (20, [11, 3, 5], [50, 1, 1, 1005, 1002, 1, 2, 1, 0, 3, 1, 2, 4, 7, 4, 3, 2, 1, 5, 0, 219, 1, 2]), (23, [10, 2, 5], [5, 1, -1, -36]), (23, [9, 2, 5], [0, 1, -1, -36]), (20, [7, 3, 5], [50, 1, 1, 1005, 1002, 1, 2, 1, 0, 3, 1, 2, 4, 7, 4, 3, 2, 1, 5, 0, 243, 1, 2]), (20, [6, 3], [30, 0, 1, 0, 0, -1, 3, 2005000]), (20, [6, 3], [30, 0, -1, 0, 0, 1, 3, 2005000]), (24, [0, 3], []), (20, [3, 10], [30, 8, 1, 1, 170, -1, 0, 0]), (102, [10], [7770675568902916283677847627294075626569627356208558085007249638955617140820833992704, 165170]), (23, [10, 2, 5], [5, 1, -1, -36]), (23, [9, 2, 5], [0, 1, -1, -36]), (102, [9], [7770675568902916283677847627294075626569627356208558085007249638955617140820833992704, 165170]), (23, [9, 2, 5], [0, 1, -1, -36]), (7, [7, 4], [0]), (7, [5, 6], [2])], [], [(0, 0, 99999993, [])], [(20, [3, 14], [30, 0, 1, 1, 170, -1, 0, 0]), (23, [14, 2, 5], [13, 1, -1, -36])], [], [(7, 4, 0, 0), (5, 6, -4294967296, -1)])
theorem oo_Mo_writeGroup_at_l3_6 {kA : Nat → ClassId} : or_ok PRD kA GG o_Mo_writeGroup_at_l3_6 := by
  refine or_mk fun A ta ws vs hD hth hl => ?_
  intro t0 r0 t2 k2 t3 r3 t4 k4 t5 k5 t6 k6 t7 k7 t9 k9 t10 k10 t11 k11 t12 k12 d0 d1 f0 f1 f2 f3 f4 f5 f6 f7 f8 ta1 w1 le1 s1 f10 f11 ta2 w2 le2 s2 f13 f14 f15
  replace f0 := shm_21 f0
  replace f1 := shm_718 f1
  replace f2 := shm_1909 f2
  replace f3 := shm_1908 f3
  replace f4 := shm_585 f4
  replace f5 := shm_135 f5
  replace f6 := shm_136 f6
  replace f7 := shm_5 f7
  replace f8 := shm_172 f8
  replace f10 := shm_1909 f10
  replace f11 := shm_1908 f11
  replace f13 := shm_1908 f13
  replace f14 := shm_37 f14
  replace f15 := shm_6 f15
  have q3 : n_v vs 3 = n_v vs 0 := f7.symm
  simp only [q3] at f1 f4 f5 f6 f8
  have cr_0_2 := fdq_12 hD hth r0
  have br_0_2_F5_0_0 : w_ei ws (w_ar ws (n_v vs 0) 2) (w_fi ws (n_v vs 0) 5 + 0) = w_el ws (w_ar ws (n_v vs 0) 2) (w_fi ws (n_v vs 0) 5 + 0).toNat := rfl
  have kz_0_170 := fdq_13 hD hth r0
  have kv0 := fdq_13 hD hth r0
  obtain ⟨x, ex, hx⟩ := iv_ex (ta := ta) (lo := 0) (hi := 99999993) (z := w_fi ws (n_v vs 0) 170) (by omega) (by omega) (by omega) (by omega)
  have ex2 : v_iv (Value.int x) = w_fi ws (n_v vs 0) 170 := ex
  have ex3 : 0 ≤ v_iv (Value.int x) ∧ v_iv (Value.int x) ≤ 99999993 := tv_rng hx
  have e_2 : n_v (vs ++ [Value.int x]) 2 = n_v vs 2 := n_v_old (by rw [hl]; decide)
  have e_3 : n_v (vs ++ [Value.int x]) 3 = n_v vs 3 := n_v_old (by rw [hl]; decide)
  have e_5 : n_v (vs ++ [Value.int x]) 5 = n_v vs 5 := n_v_old (by rw [hl]; decide)
  have e_14 : n_v (vs ++ [Value.int x]) 14 = Value.int x := n_v_new hl
  have nf0 : fc_1 PRD (20, [3, 14], [30, 0, 1, 1, 170, -1, 0, 0]) ws (vs ++ [Value.int x]) := by
    refine ⟨nf_inA hl rfl, sgq_140 ?_⟩
    · show 1 * w_fi ws (n_v (vs ++ [Value.int x]) 3) 170 + ((-1) * v_iv (n_v (vs ++ [Value.int x]) 14) + 0) ≤ 0
      simp only [e_3, e_14, q3]
      exact vc_Mo_writeGroup_at_l3_6_0 (v_iv (n_v vs 2)) (v_iv (n_v vs 4)) (v_iv (n_v vs 5)) (v_iv (n_v vs 6)) (v_iv (n_v vs 7)) (v_iv (n_v vs 9)) (v_iv (n_v vs 10)) (v_iv (n_v vs 11)) (v_iv (n_v vs 12)) (w_ei ws (w_ar ws (n_v vs 0) 2)) (w_fi ws (n_v vs 0) 5) (w_fi ws (n_v vs 0) 170) (v_iv (Value.int x)) k2 k4 k5 k6 k7 k9 k10 k11 k12 d0 d1 f0 f1 f2 f3 f4 f5 f6 f8 f10 f11 f13 f14 f15 kz_0_170 ex2 ex3
  have nf1 : fc_1 PRD (23, [14, 2, 5], [13, 1, -1, -36]) ws (vs ++ [Value.int x]) := by
    refine ⟨nf_inA hl rfl, sgq_1911 ?_⟩
    · show 1 * v_iv (n_v (vs ++ [Value.int x]) 14) + ((-1) * v_iv (n_v (vs ++ [Value.int x]) 2) + ((-36) * v_iv (n_v (vs ++ [Value.int x]) 5) + 0)) ≤ 13
      simp only [e_2, e_5, e_14]
      exact vc_Mo_writeGroup_at_l3_6_1 (v_iv (n_v vs 2)) (v_iv (n_v vs 4)) (v_iv (n_v vs 5)) (v_iv (n_v vs 6)) (v_iv (n_v vs 7)) (v_iv (n_v vs 9)) (v_iv (n_v vs 10)) (v_iv (n_v vs 11)) (v_iv (n_v vs 12)) (w_ei ws (w_ar ws (n_v vs 0) 2)) (w_fi ws (n_v vs 0) 5) (w_fi ws (n_v vs 0) 170) (v_iv (Value.int x)) k2 k4 k5 k6 k7 k9 k10 k11 k12 d0 d1 f0 f1 f2 f3 f4 f5 f6 f8 f10 f11 f13 f14 f15 kz_0_170 ex2 ex3
  exact ⟨(fun _ h => (by cases h)), [Value.int x], ag_one hx, List.forall_mem_cons.mpr ⟨⟨show (20 : Nat) < 100 from by decide, nf0⟩, List.forall_mem_cons.mpr ⟨⟨show (23 : Nat) < 100 from by decide, nf1⟩, (fun _ h => (by cases h))⟩⟩, (fun _ h => (by cases h))⟩
set_option maxHeartbeats 4000000 in
theorem vc_Mo_writeGroup_at_l3_7_0 (x2 : Int) (x4 : Int) (x5 : Int) (x6 : Int) (x7 : Int) (x9 : Int) (x10 : Int) (x11 : Int) (x12 : Int) (x14 : Int) (x15 : Int) (all_0 : Int → Int) (r_0 : Int) (texts_0 : Int) (gx : Int) (k2 : 0 ≤ x2 ∧ x2 ≤ 99942624) (k4 : 3 ≤ x4 ∧ x4 ≤ 7) (k5 : 0 ≤ x5 ∧ x5 ≤ 23) (k6 : 1 ≤ x6 ∧ x6 ≤ 24) (k7 : 3 ≤ x7 ∧ x7 ≤ 7) (k9 : 0 ≤ x9 ∧ x9 ≤ 99999995) (k10 : 0 ≤ x10 ∧ x10 ≤ 99999992) (k11 : 2 ≤ x11 ∧ x11 ≤ 99) (k12 : 1 ≤ x12 ∧ x12 ≤ 1) (k14 : 0 ≤ x14 ∧ x14 ≤ 99999993) (k15 : 0 ≤ x15 ∧ x15 ≤ 99) (d0 : x4 + 0 ≤ x7 ∧ x7 ≤ x4 + 0) (d1 : x6 + (-4294967296) ≤ x5 ∧ x5 ≤ x6 + (-1)) (f0 : x15 = all_0 (((r_0 + 219) + x5))) (f1 : 1 * x14 + ((-1) * x2 + ((-36) * x5 + 0)) ≤ 13) (f2 : x11 = all_0 (((r_0 + 219) + x5))) (f3 : 1 * x10 + ((-1) * x2 + ((-36) * x5 + 0)) ≤ 5) (f4 : 1 * x9 + ((-1) * x2 + ((-36) * x5 + 0)) ≤ 0) (f5 : x7 = all_0 (((r_0 + 243) + x5))) (f6 : 1 * x6 + ((-1) * all_0 (r_0 + 0) + 0) ≤ 0) (f7 : (-1) * x6 + (1 * all_0 (r_0 + 0) + 0) ≤ 0) (f9 : 1 * texts_0 + ((-1) * x14 + 0) ≤ 7) (f11 : 1 * x14 + ((-1) * x2 + ((-36) * x5 + 0)) ≤ 13) (f12 : x12 < x11) (f13 : 1 * x10 + ((-1) * x2 + ((-36) * x5 + 0)) ≤ 5) (f14 : 1 * x9 + ((-1) * x2 + ((-36) * x5 + 0)) ≤ 0) (f16 : 1 * x10 + ((-1) * x2 + ((-36) * x5 + 0)) ≤ 5) (f17 : 1 * x9 + ((-1) * x2 + ((-36) * x5 + 0)) ≤ 0) (f19 : 1 * x9 + ((-1) * x2 + ((-36) * x5 + 0)) ≤ 0) (f20 : x7 = x4) (f21 : x5 < x6) (kz_0_170 : 0 ≤ texts_0 ∧ texts_0 ≤ 100000000) (ex2 : gx = texts_0) (ex3 : 0 ≤ gx ∧ gx ≤ 99999987) : 1 * texts_0 + ((-1) * gx + 0) ≤ 0 := by
  first | assumption | omega | grind
set_option maxHeartbeats 4000000 in
theorem vc_Mo_writeGroup_at_l3_7_1 (x2 : Int) (x4 : Int) (x5 : Int) (x6 : Int) (x7 : Int) (x9 : Int) (x10 : Int) (x11 : Int) (x12 : Int) (x14 : Int) (x15 : Int) (all_0 : Int → Int) (r_0 : Int) (texts_0 : Int) (gx : Int) (k2 : 0 ≤ x2 ∧ x2 ≤ 99942624) (k4 : 3 ≤ x4 ∧ x4 ≤ 7) (k5 : 0 ≤ x5 ∧ x5 ≤ 23) (k6 : 1 ≤ x6 ∧ x6 ≤ 24) (k7 : 3 ≤ x7 ∧ x7 ≤ 7) (k9 : 0 ≤ x9 ∧ x9 ≤ 99999995) (k10 : 0 ≤ x10 ∧ x10 ≤ 99999992) (k11 : 2 ≤ x11 ∧ x11 ≤ 99) (k12 : 1 ≤ x12 ∧ x12 ≤ 1) (k14 : 0 ≤ x14 ∧ x14 ≤ 99999993) (k15 : 0 ≤ x15 ∧ x15 ≤ 99) (d0 : x4 + 0 ≤ x7 ∧ x7 ≤ x4 + 0) (d1 : x6 + (-4294967296) ≤ x5 ∧ x5 ≤ x6 + (-1)) (f0 : x15 = all_0 (((r_0 + 219) + x5))) (f1 : 1 * x14 + ((-1) * x2 + ((-36) * x5 + 0)) ≤ 13) (f2 : x11 = all_0 (((r_0 + 219) + x5))) (f3 : 1 * x10 + ((-1) * x2 + ((-36) * x5 + 0)) ≤ 5) (f4 : 1 * x9 + ((-1) * x2 + ((-36) * x5 + 0)) ≤ 0) (f5 : x7 = all_0 (((r_0 + 243) + x5))) (f6 : 1 * x6 + ((-1) * all_0 (r_0 + 0) + 0) ≤ 0) (f7 : (-1) * x6 + (1 * all_0 (r_0 + 0) + 0) ≤ 0) (f9 : 1 * texts_0 + ((-1) * x14 + 0) ≤ 7) (f11 : 1 * x14 + ((-1) * x2 + ((-36) * x5 + 0)) ≤ 13) (f12 : x12 < x11) (f13 : 1 * x10 + ((-1) * x2 + ((-36) * x5 + 0)) ≤ 5) (f14 : 1 * x9 + ((-1) * x2 + ((-36) * x5 + 0)) ≤ 0) (f16 : 1 * x10 + ((-1) * x2 + ((-36) * x5 + 0)) ≤ 5) (f17 : 1 * x9 + ((-1) * x2 + ((-36) * x5 + 0)) ≤ 0) (f19 : 1 * x9 + ((-1) * x2 + ((-36) * x5 + 0)) ≤ 0) (f20 : x7 = x4) (f21 : x5 < x6) (kz_0_170 : 0 ≤ texts_0 ∧ texts_0 ≤ 100000000) (ex2 : gx = texts_0) (ex3 : 0 ≤ gx ∧ gx ≤ 99999987) : 1 * gx + ((-1) * x2 + ((-36) * x5 + 0)) ≤ 20 := by
  first | assumption | omega | grind
def o_Mo_writeGroup_at_l3_7 : or_T := (56, 16, [(0, (2, 0, 0, [165])), (2, (0, 0, 99942624, [])), (3, (2, 0, 0, [165])), (4, (0, 3, 7, [])), (5, (0, 0, 23, [])), (6, (0, 1, 24, [])), (7, (0, 3, 7, [])), (9, (0, 0, 99999995, [])), (10, (0, 0, 99999992, [])), (11, (0, 2, 99, [])), (12, (0, 1, 1, [])), (14, (0, 0, 99999993, [])), (15, (0, 0, 99, []))], [(20, [15, 3, 5], [50, 1, 1, 1005, 1002, 1, 2, 1, 0, 3, 1, 2, 4, 7, 4, 3, 2, 1, 5, 0, 219, 1, 2]), (23, [14, 2, 5], [13, 1, -1, -36]), (20, [11, 3, 5], [50, 1, 1, 1005, 1002, 1, 2, 1, 0, 3, 1, 2, 4, 7, 4, 3, 2, 1, 5, 0, 219, 1, 2]), (23, [10, 2, 5], [5, 1, -1, -36]), (23, [9, 2, 5], [0, 1, -1, -36]), (20, [7, 3, 5], [50, 1, 1, 1005, 1002, 1, 2, 1, 0, 3, 1, 2, 4, 7, 4, 3, 2, 1, 5, 0, 243, 1, 2]), (20, [6, 3], [30, 0, 1, 0, 0, -1, 3, 2005000]), (20, [6, 3], [30, 0, -1, 0, 0, 1, 3, 2005000]), (24, [0, 3], []), (20, [3, 14], [30, 7, 1, 1, 170, -1, 0, 0]), (102, [14], [7770675568902916283677847627294075626569627356208558085007249638955617140820833992704, 165170]), (23, [14, 2, 5], [13, 1, -1, -36]), (7, [11, 12], [4]), (23, [10, 2, 5], [5, 1, -1, -36]), (23, [9, 2, 5], [0, 1, -1, -36]), (102, [10], [7770675568902916283677847627294075626569627356208558085007249638955617140820833992704, 165170]), (23, [10, 2, 5], [5, 1, -1, -36]), (23, [9, 2, 5], [0, 1, -1, -36]), (102, [9], [7770675568902916283677847627294075626569627356208558085007249638955617140820833992704, 165170]), (23, [9, 2, 5], [0, 1, -1, -36]), (7, [7, 4], [0]), (7, [5, 6], [2])], [], [(0, 0, 99999987, [])], [(20, [3, 16], [30, 0, 1, 1, 170, -1, 0, 0]), (23, [16, 2, 5], [20, 1, -1, -36])], [], [(7, 4, 0, 0), (5, 6, -4294967296, -1)])
theorem oo_Mo_writeGroup_at_l3_7 {kA : Nat → ClassId} : or_ok PRD kA GG o_Mo_writeGroup_at_l3_7 := by
  refine or_mk fun A ta ws vs hD hth hl => ?_
  intro t0 r0 t2 k2 t3 r3 t4 k4 t5 k5 t6 k6 t7 k7 t9 k9 t10 k10 t11 k11 t12 k12 t14 k14 t15 k15 d0 d1 f0 f1 f2 f3 f4 f5 f6 f7 f8 f9 ta1 w1 le1 s1 f11 f12 f13 f14 ta2 w2 le2 s2 f16 f17 ta3 w3 le3 s3 f19 f20 f21
  replace f0 := shm_718 f0
  replace f1 := shm_1911 f1
  replace f2 := shm_718 f2
  replace f3 := shm_1909 f3
  replace f4 := shm_1908 f4
  replace f5 := shm_585 f5
  replace f6 := shm_135 f6
  replace f7 := shm_136 f7
  replace f8 := shm_5 f8
  replace f9 := shm_233 f9
  replace f11 := shm_1911 f11
  replace f12 := shm_21 f12
  replace f13 := shm_1909 f13
  replace f14 := shm_1908 f14
  replace f16 := shm_1909 f16
  replace f17 := shm_1908 f17
  replace f19 := shm_1908 f19
  replace f20 := shm_37 f20
  replace f21 := shm_6 f21
  have q3 : n_v vs 3 = n_v vs 0 := f8.symm
  simp only [q3] at f0 f2 f5 f6 f7 f9
  have cr_0_2 := fdq_12 hD hth r0
  have br_0_2_F5_0_0 : w_ei ws (w_ar ws (n_v vs 0) 2) (w_fi ws (n_v vs 0) 5 + 0) = w_el ws (w_ar ws (n_v vs 0) 2) (w_fi ws (n_v vs 0) 5 + 0).toNat := rfl
  have kz_0_170 := fdq_13 hD hth r0
  have kv0 := fdq_13 hD hth r0
  obtain ⟨x, ex, hx⟩ := iv_ex (ta := ta) (lo := 0) (hi := 99999987) (z := w_fi ws (n_v vs 0) 170) (by omega) (by omega) (by omega) (by omega)
  have ex2 : v_iv (Value.int x) = w_fi ws (n_v vs 0) 170 := ex
  have ex3 : 0 ≤ v_iv (Value.int x) ∧ v_iv (Value.int x) ≤ 99999987 := tv_rng hx
  have e_2 : n_v (vs ++ [Value.int x]) 2 = n_v vs 2 := n_v_old (by rw [hl]; decide)
  have e_3 : n_v (vs ++ [Value.int x]) 3 = n_v vs 3 := n_v_old (by rw [hl]; decide)
  have e_5 : n_v (vs ++ [Value.int x]) 5 = n_v vs 5 := n_v_old (by rw [hl]; decide)
  have e_16 : n_v (vs ++ [Value.int x]) 16 = Value.int x := n_v_new hl
  have nf0 : fc_1 PRD (20, [3, 16], [30, 0, 1, 1, 170, -1, 0, 0]) ws (vs ++ [Value.int x]) := by
    refine ⟨nf_inA hl rfl, sgq_140 ?_⟩
    · show 1 * w_fi ws (n_v (vs ++ [Value.int x]) 3) 170 + ((-1) * v_iv (n_v (vs ++ [Value.int x]) 16) + 0) ≤ 0
      simp only [e_3, e_16, q3]
      exact vc_Mo_writeGroup_at_l3_7_0 (v_iv (n_v vs 2)) (v_iv (n_v vs 4)) (v_iv (n_v vs 5)) (v_iv (n_v vs 6)) (v_iv (n_v vs 7)) (v_iv (n_v vs 9)) (v_iv (n_v vs 10)) (v_iv (n_v vs 11)) (v_iv (n_v vs 12)) (v_iv (n_v vs 14)) (v_iv (n_v vs 15)) (w_ei ws (w_ar ws (n_v vs 0) 2)) (w_fi ws (n_v vs 0) 5) (w_fi ws (n_v vs 0) 170) (v_iv (Value.int x)) k2 k4 k5 k6 k7 k9 k10 k11 k12 k14 k15 d0 d1 f0 f1 f2 f3 f4 f5 f6 f7 f9 f11 f12 f13 f14 f16 f17 f19 f20 f21 kz_0_170 ex2 ex3
  have nf1 : fc_1 PRD (23, [16, 2, 5], [20, 1, -1, -36]) ws (vs ++ [Value.int x]) := by
    refine ⟨nf_inA hl rfl, sgq_1912 ?_⟩
    · show 1 * v_iv (n_v (vs ++ [Value.int x]) 16) + ((-1) * v_iv (n_v (vs ++ [Value.int x]) 2) + ((-36) * v_iv (n_v (vs ++ [Value.int x]) 5) + 0)) ≤ 20
      simp only [e_2, e_5, e_16]
      exact vc_Mo_writeGroup_at_l3_7_1 (v_iv (n_v vs 2)) (v_iv (n_v vs 4)) (v_iv (n_v vs 5)) (v_iv (n_v vs 6)) (v_iv (n_v vs 7)) (v_iv (n_v vs 9)) (v_iv (n_v vs 10)) (v_iv (n_v vs 11)) (v_iv (n_v vs 12)) (v_iv (n_v vs 14)) (v_iv (n_v vs 15)) (w_ei ws (w_ar ws (n_v vs 0) 2)) (w_fi ws (n_v vs 0) 5) (w_fi ws (n_v vs 0) 170) (v_iv (Value.int x)) k2 k4 k5 k6 k7 k9 k10 k11 k12 k14 k15 d0 d1 f0 f1 f2 f3 f4 f5 f6 f7 f9 f11 f12 f13 f14 f16 f17 f19 f20 f21 kz_0_170 ex2 ex3
  exact ⟨(fun _ h => (by cases h)), [Value.int x], ag_one hx, List.forall_mem_cons.mpr ⟨⟨show (20 : Nat) < 100 from by decide, nf0⟩, List.forall_mem_cons.mpr ⟨⟨show (23 : Nat) < 100 from by decide, nf1⟩, (fun _ h => (by cases h))⟩⟩, (fun _ h => (by cases h))⟩
set_option maxHeartbeats 4000000 in
theorem vc_Mo_writeGroup_at_l3_8_0 (x2 : Int) (x4 : Int) (x5 : Int) (x6 : Int) (x7 : Int) (x9 : Int) (x10 : Int) (x11 : Int) (x12 : Int) (x14 : Int) (x15 : Int) (x16 : Int) (all_0 : Int → Int) (r_0 : Int) (texts_0 : Int) (gx : Int) (k2 : 0 ≤ x2 ∧ x2 ≤ 99942624) (k4 : 3 ≤ x4 ∧ x4 ≤ 7) (k5 : 0 ≤ x5 ∧ x5 ≤ 23) (k6 : 1 ≤ x6 ∧ x6 ≤ 24) (k7 : 3 ≤ x7 ∧ x7 ≤ 7) (k9 : 0 ≤ x9 ∧ x9 ≤ 99999995) (k10 : 0 ≤ x10 ∧ x10 ≤ 99999992) (k11 : 2 ≤ x11 ∧ x11 ≤ 99) (k12 : 1 ≤ x12 ∧ x12 ≤ 1) (k14 : 0 ≤ x14 ∧ x14 ≤ 99999993) (k15 : 0 ≤ x15 ∧ x15 ≤ 99) (k16 : 0 ≤ x16 ∧ x16 ≤ 99999987) (d0 : x4 + 0 ≤ x7 ∧ x7 ≤ x4 + 0) (d1 : x6 + (-4294967296) ≤ x5 ∧ x5 ≤ x6 + (-1)) (f0 : 1 * x16 + ((-1) * x2 + ((-36) * x5 + 0)) ≤ 20) (f1 : x15 = all_0 (((r_0 + 219) + x5))) (f2 : 1 * x14 + ((-1) * x2 + ((-36) * x5 + 0)) ≤ 13) (f3 : x11 = all_0 (((r_0 + 219) + x5))) (f4 : 1 * x10 + ((-1) * x2 + ((-36) * x5 + 0)) ≤ 5) (f5 : 1 * x9 + ((-1) * x2 + ((-36) * x5 + 0)) ≤ 0) (f6 : x7 = all_0 (((r_0 + 243) + x5))) (f7 : 1 * x6 + ((-1) * all_0 (r_0 + 0) + 0) ≤ 0) (f8 : (-1) * x6 + (1 * all_0 (r_0 + 0) + 0) ≤ 0) (f10 : 1 * texts_0 + ((-1) * x16 + 0) ≤ 13) (f12 : 1 * x16 + ((-1) * x2 + ((-36) * x5 + 0)) ≤ 20) (f13 : 1 * x14 + ((-1) * x2 + ((-36) * x5 + 0)) ≤ 13) (f14 : 1 * x10 + ((-1) * x2 + ((-36) * x5 + 0)) ≤ 5) (f15 : 1 * x9 + ((-1) * x2 + ((-36) * x5 + 0)) ≤ 0) (f17 : 1 * x14 + ((-1) * x2 + ((-36) * x5 + 0)) ≤ 13) (f18 : x12 < x11) (f19 : 1 * x10 + ((-1) * x2 + ((-36) * x5 + 0)) ≤ 5) (f20 : 1 * x9 + ((-1) * x2 + ((-36) * x5 + 0)) ≤ 0) (f22 : 1 * x10 + ((-1) * x2 + ((-36) * x5 + 0)) ≤ 5) (f23 : 1 * x9 + ((-1) * x2 + ((-36) * x5 + 0)) ≤ 0) (f25 : 1 * x9 + ((-1) * x2 + ((-36) * x5 + 0)) ≤ 0) (f26 : x7 = x4) (f27 : x5 < x6) (kz_0_170 : 0 ≤ texts_0 ∧ texts_0 ≤ 100000000) (ex2 : gx = texts_0) (ex3 : 0 ≤ gx ∧ gx ≤ 99999999) : 1 * texts_0 + ((-1) * gx + 0) ≤ 0 := by
  first | assumption | omega | grind
set_option maxHeartbeats 4000000 in
theorem vc_Mo_writeGroup_at_l3_8_1 (x2 : Int) (x4 : Int) (x5 : Int) (x6 : Int) (x7 : Int) (x9 : Int) (x10 : Int) (x11 : Int) (x12 : Int) (x14 : Int) (x15 : Int) (x16 : Int) (all_0 : Int → Int) (r_0 : Int) (texts_0 : Int) (gx : Int) (k2 : 0 ≤ x2 ∧ x2 ≤ 99942624) (k4 : 3 ≤ x4 ∧ x4 ≤ 7) (k5 : 0 ≤ x5 ∧ x5 ≤ 23) (k6 : 1 ≤ x6 ∧ x6 ≤ 24) (k7 : 3 ≤ x7 ∧ x7 ≤ 7) (k9 : 0 ≤ x9 ∧ x9 ≤ 99999995) (k10 : 0 ≤ x10 ∧ x10 ≤ 99999992) (k11 : 2 ≤ x11 ∧ x11 ≤ 99) (k12 : 1 ≤ x12 ∧ x12 ≤ 1) (k14 : 0 ≤ x14 ∧ x14 ≤ 99999993) (k15 : 0 ≤ x15 ∧ x15 ≤ 99) (k16 : 0 ≤ x16 ∧ x16 ≤ 99999987) (d0 : x4 + 0 ≤ x7 ∧ x7 ≤ x4 + 0) (d1 : x6 + (-4294967296) ≤ x5 ∧ x5 ≤ x6 + (-1)) (f0 : 1 * x16 + ((-1) * x2 + ((-36) * x5 + 0)) ≤ 20) (f1 : x15 = all_0 (((r_0 + 219) + x5))) (f2 : 1 * x14 + ((-1) * x2 + ((-36) * x5 + 0)) ≤ 13) (f3 : x11 = all_0 (((r_0 + 219) + x5))) (f4 : 1 * x10 + ((-1) * x2 + ((-36) * x5 + 0)) ≤ 5) (f5 : 1 * x9 + ((-1) * x2 + ((-36) * x5 + 0)) ≤ 0) (f6 : x7 = all_0 (((r_0 + 243) + x5))) (f7 : 1 * x6 + ((-1) * all_0 (r_0 + 0) + 0) ≤ 0) (f8 : (-1) * x6 + (1 * all_0 (r_0 + 0) + 0) ≤ 0) (f10 : 1 * texts_0 + ((-1) * x16 + 0) ≤ 13) (f12 : 1 * x16 + ((-1) * x2 + ((-36) * x5 + 0)) ≤ 20) (f13 : 1 * x14 + ((-1) * x2 + ((-36) * x5 + 0)) ≤ 13) (f14 : 1 * x10 + ((-1) * x2 + ((-36) * x5 + 0)) ≤ 5) (f15 : 1 * x9 + ((-1) * x2 + ((-36) * x5 + 0)) ≤ 0) (f17 : 1 * x14 + ((-1) * x2 + ((-36) * x5 + 0)) ≤ 13) (f18 : x12 < x11) (f19 : 1 * x10 + ((-1) * x2 + ((-36) * x5 + 0)) ≤ 5) (f20 : 1 * x9 + ((-1) * x2 + ((-36) * x5 + 0)) ≤ 0) (f22 : 1 * x10 + ((-1) * x2 + ((-36) * x5 + 0)) ≤ 5) (f23 : 1 * x9 + ((-1) * x2 + ((-36) * x5 + 0)) ≤ 0) (f25 : 1 * x9 + ((-1) * x2 + ((-36) * x5 + 0)) ≤ 0) (f26 : x7 = x4) (f27 : x5 < x6) (kz_0_170 : 0 ≤ texts_0 ∧ texts_0 ≤ 100000000) (ex2 : gx = texts_0) (ex3 : 0 ≤ gx ∧ gx ≤ 99999999) : 1 * gx + ((-1) * x2 + ((-36) * x5 + 0)) ≤ 33 := by
  first | assumption | omega | grind
def o_Mo_writeGroup_at_l3_8 : or_T := (63, 18, [(0, (2, 0, 0, [165])), (2, (0, 0, 99942624, [])), (3, (2, 0, 0, [165])), (4, (0, 3, 7, [])), (5, (0, 0, 23, [])), (6, (0, 1, 24, [])), (7, (0, 3, 7, [])), (9, (0, 0, 99999995, [])), (10, (0, 0, 99999992, [])), (11, (0, 2, 99, [])), (12, (0, 1, 1, [])), (14, (0, 0, 99999993, [])), (15, (0, 0, 99, [])), (16, (0, 0, 99999987, []))], [(23, [16, 2, 5], [20, 1, -1, -36]), (20, [15, 3, 5], [50, 1, 1, 1005, 1002, 1, 2, 1, 0, 3, 1, 2, 4, 7, 4, 3, 2, 1, 5, 0, 219, 1, 2]), (23, [14, 2, 5], [13, 1, -1, -36]), (20, [11, 3, 5], [50, 1, 1, 1005, 1002, 1, 2, 1, 0, 3, 1, 2, 4, 7, 4, 3, 2, 1, 5, 0, 219, 1, 2]), (23, [10, 2, 5], [5, 1, -1, -36]), (23, [9, 2, 5], [0, 1, -1, -36]), (20, [7, 3, 5], [50, 1, 1, 1005, 1002, 1, 2, 1, 0, 3, 1, 2, 4, 7, 4, 3, 2, 1, 5, 0, 243, 1, 2]), (20, [6, 3], [30, 0, 1, 0, 0, -1, 3, 2005000]), (20, [6, 3], [30, 0, -1, 0, 0, 1, 3, 2005000]), (24, [0, 3], []), (20, [3, 16], [30, 13, 1, 1, 170, -1, 0, 0]), (102, [16], [7770675568902916283677847627294075626569627356208558085007249638955617140820833992704, 165170]), (23, [16, 2, 5], [20, 1, -1, -36]), (23, [14, 2, 5], [13, 1, -1, -36]), (23, [10, 2, 5], [5, 1, -1, -36]), (23, [9, 2, 5], [0, 1, -1, -36]), (102, [14], [7770675568902916283677847627294075626569627356208558085007249638955617140820833992704, 165170]), (23, [14, 2, 5], [13, 1, -1, -36]), (7, [11, 12], [4]), (23, [10, 2, 5], [5, 1, -1, -36]), (23, [9, 2, 5], [0, 1, -1, -36]), (102, [10], [7770675568902916283677847627294075626569627356208558085007249638955617140820833992704, 165170]), (23, [10, 2, 5], [5, 1, -1, -36]), (23, [9, 2, 5], [0, 1, -1, -36]), (102, [9], [7770675568902916283677847627294075626569627356208558085007249638955617140820833992704, 165170]), (23, [9, 2, 5], [0, 1, -1, -36]), (7, [7, 4], [0]), (7, [5, 6], [2])], [], [(0, 0, 99999999, [])], [(20, [3, 18], [30, 0, 1, 1, 170, -1, 0, 0]), (23, [18, 2, 5], [33, 1, -1, -36])], [], [(7, 4, 0, 0), (5, 6, -4294967296, -1)])
theorem oo_Mo_writeGroup_at_l3_8 {kA : Nat → ClassId} : or_ok PRD kA GG o_Mo_writeGroup_at_l3_8 := by
  refine or_mk fun A ta ws vs hD hth hl => ?_
  intro t0 r0 t2 k2 t3 r3 t4 k4 t5 k5 t6 k6 t7 k7 t9 k9 t10 k10 t11 k11 t12 k12 t14 k14 t15 k15 t16 k16 d0 d1 f0 f1 f2 f3 f4 f5 f6 f7 f8 f9 f10 ta1 w1 le1 s1 f12 f13 f14 f15 ta2 w2 le2 s2 f17 f18 f19 f20 ta3 w3 le3 s3 f22 f23 ta4 w4 le4 s4 f25 f26 f27
  replace f0 := shm_1912 f0
  replace f1 := shm_718 f1
  replace f2 := shm_1911 f2
  replace f3 := shm_718 f3
  replace f4 := shm_1909 f4
  replace f5 := shm_1908 f5
  replace f6 := shm_585 f6
  replace f7 := shm_135 f7
  replace f8 := shm_136 f8
  replace f9 := shm_5 f9
  replace f10 := shm_1026 f10
  replace f12 := shm_1912 f12
  replace f13 := shm_1911 f13
  replace f14 := shm_1909 f14
  replace f15 := shm_1908 f15
  replace f17 := shm_1911 f17
  replace f18 := shm_21 f18
  replace f19 := shm_1909 f19
  replace f20 := shm_1908 f20
  replace f22 := shm_1909 f22
  replace f23 := shm_1908 f23
  replace f25 := shm_1908 f25
  replace f26 := shm_37 f26
  replace f27 := shm_6 f27
  have q3 : n_v vs 3 = n_v vs 0 := f9.symm
  simp only [q3] at f1 f3 f6 f7 f8 f10
  have cr_0_2 := fdq_12 hD hth r0
  have br_0_2_F5_0_0 : w_ei ws (w_ar ws (n_v vs 0) 2) (w_fi ws (n_v vs 0) 5 + 0) = w_el ws (w_ar ws (n_v vs 0) 2) (w_fi ws (n_v vs 0) 5 + 0).toNat := rfl
  have kz_0_170 := fdq_13 hD hth r0
  have kv0 := fdq_13 hD hth r0
  obtain ⟨x, ex, hx⟩ := iv_ex (ta := ta) (lo := 0) (hi := 99999999) (z := w_fi ws (n_v vs 0) 170) (by omega) (by omega) (by omega) (by omega)
  have ex2 : v_iv (Value.int x) = w_fi ws (n_v vs 0) 170 := ex
  have ex3 : 0 ≤ v_iv (Value.int x) ∧ v_iv (Value.int x) ≤ 99999999 := tv_rng hx
  have e_2 : n_v (vs ++ [Value.int x]) 2 = n_v vs 2 := n_v_old (by rw [hl]; decide)
  have e_3 : n_v (vs ++ [Value.int x]) 3 = n_v vs 3 := n_v_old (by rw [hl]; decide)
  have e_5 : n_v (vs ++ [Value.int x]) 5 = n_v vs 5 := n_v_old (by rw [hl]; decide)
  have e_18 : n_v (vs ++ [Value.int x]) 18 = Value.int x := n_v_new hl
  have nf0 : fc_1 PRD (20, [3, 18], [30, 0, 1, 1, 170, -1, 0, 0]) ws (vs ++ [Value.int x]) := by
    refine ⟨nf_inA hl rfl, sgq_140 ?_⟩
    · show 1 * w_fi ws (n_v (vs ++ [Value.int x]) 3) 170 + ((-1) * v_iv (n_v (vs ++ [Value.int x]) 18) + 0) ≤ 0
      simp only [e_3, e_18, q3]
      exact vc_Mo_writeGroup_at_l3_8_0 (v_iv (n_v vs 2)) (v_iv (n_v vs 4)) (v_iv (n_v vs 5)) (v_iv (n_v vs 6)) (v_iv (n_v vs 7)) (v_iv (n_v vs 9)) (v_iv (n_v vs 10)) (v_iv (n_v vs 11)) (v_iv (n_v vs 12)) (v_iv (n_v vs 14)) (v_iv (n_v vs 15)) (v_iv (n_v vs 16)) (w_ei ws (w_ar ws (n_v vs 0) 2)) (w_fi ws (n_v vs 0) 5) (w_fi ws (n_v vs 0) 170) (v_iv (Value.int x)) k2 k4 k5 k6 k7 k9 k10 k11 k12 k14 k15 k16 d0 d1 f0 f1 f2 f3 f4 f5 f6 f7 f8 f10 f12 f13 f14 f15 f17 f18 f19 f20 f22 f23 f25 f26 f27 kz_0_170 ex2 ex3
  have nf1 : fc_1 PRD (23, [18, 2, 5], [33, 1, -1, -36]) ws (vs ++ [Value.int x]) := by
    refine ⟨nf_inA hl rfl, sgq_1913 ?_⟩
    · show 1 * v_iv (n_v (vs ++ [Value.int x]) 18) + ((-1) * v_iv (n_v (vs ++ [Value.int x]) 2) + ((-36) * v_iv (n_v (vs ++ [Value.int x]) 5) + 0)) ≤ 33
      simp only [e_2, e_5, e_18]
      exact vc_Mo_writeGroup_at_l3_8_1 (v_iv (n_v vs 2)) (v_iv (n_v vs 4)) (v_iv (n_v vs 5)) (v_iv (n_v vs 6)) (v_iv (n_v vs 7)) (v_iv (n_v vs 9)) (v_iv (n_v vs 10)) (v_iv (n_v vs 11)) (v_iv (n_v vs 12)) (v_iv (n_v vs 14)) (v_iv (n_v vs 15)) (v_iv (n_v vs 16)) (w_ei ws (w_ar ws (n_v vs 0) 2)) (w_fi ws (n_v vs 0) 5) (w_fi ws (n_v vs 0) 170) (v_iv (Value.int x)) k2 k4 k5 k6 k7 k9 k10 k11 k12 k14 k15 k16 d0 d1 f0 f1 f2 f3 f4 f5 f6 f7 f8 f10 f12 f13 f14 f15 f17 f18 f19 f20 f22 f23 f25 f26 f27 kz_0_170 ex2 ex3
  exact ⟨(fun _ h => (by cases h)), [Value.int x], ag_one hx, List.forall_mem_cons.mpr ⟨⟨show (20 : Nat) < 100 from by decide, nf0⟩, List.forall_mem_cons.mpr ⟨⟨show (23 : Nat) < 100 from by decide, nf1⟩, (fun _ h => (by cases h))⟩⟩, (fun _ h => (by cases h))⟩
set_option maxHeartbeats 4000000 in
theorem vc_Mo_writeGroup_at_l3_9_0 (x2 : Int) (x4 : Int) (x5 : Int) (x6 : Int) (x7 : Int) (x9 : Int) (x10 : Int) (x11 : Int) (x12 : Int) (x14 : Int) (x15 : Int) (x16 : Int) (x18 : Int) (all_0 : Int → Int) (r_0 : Int) (texts_0 : Int) (gx : Int) (k2 : 0 ≤ x2 ∧ x2 ≤ 99942624) (k4 : 3 ≤ x4 ∧ x4 ≤ 7) (k5 : 0 ≤ x5 ∧ x5 ≤ 23) (k6 : 1 ≤ x6 ∧ x6 ≤ 24) (k7 : 3 ≤ x7 ∧ x7 ≤ 7) (k9 : 0 ≤ x9 ∧ x9 ≤ 99999995) (k10 : 0 ≤ x10 ∧ x10 ≤ 99999992) (k11 : 2 ≤ x11 ∧ x11 ≤ 99) (k12 : 1 ≤ x12 ∧ x12 ≤ 1) (k14 : 0 ≤ x14 ∧ x14 ≤ 99999993) (k15 : 0 ≤ x15 ∧ x15 ≤ 99) (k16 : 0 ≤ x16 ∧ x16 ≤ 99999987) (k18 : 0 ≤ x18 ∧ x18 ≤ 99999999) (d0 : x4 + 0 ≤ x7 ∧ x7 ≤ x4 + 0) (d1 : x6 + (-4294967296) ≤ x5 ∧ x5 ≤ x6 + (-1)) (f0 : 1 * x18 + ((-1) * x2 + ((-36) * x5 + 0)) ≤ 33) (f1 : 1 * x16 + ((-1) * x2 + ((-36) * x5 + 0)) ≤ 20) (f2 : x15 = all_0 (((r_0 + 219) + x5))) (f3 : 1 * x14 + ((-1) * x2 + ((-36) * x5 + 0)) ≤ 13) (f4 : x11 = all_0 (((r_0 + 219) + x5))) (f5 : 1 * x10 + ((-1) * x2 + ((-36) * x5 + 0)) ≤ 5) (f6 : 1 * x9 + ((-1) * x2 + ((-36) * x5 + 0)) ≤ 0) (f7 : x7 = all_0 (((r_0 + 243) + x5))) (f8 : 1 * x6 + ((-1) * all_0 (r_0 + 0) + 0) ≤ 0) (f9 : (-1) * x6 + (1 * all_0 (r_0 + 0) + 0) ≤ 0) (f11 : 1 * texts_0 + ((-1) * x18 + 0) ≤ 1) (f13 : 1 * x18 + ((-1) * x2 + ((-36) * x5 + 0)) ≤ 33) (f14 : 1 * x16 + ((-1) * x2 + ((-36) * x5 + 0)) ≤ 20) (f15 : 1 * x14 + ((-1) * x2 + ((-36) * x5 + 0)) ≤ 13) (f16 : 1 * x10 + ((-1) * x2 + ((-36) * x5 + 0)) ≤ 5) (f17 : 1 * x9 + ((-1) * x2 + ((-36) * x5 + 0)) ≤ 0) (f19 : 1 * x16 + ((-1) * x2 + ((-36) * x5 + 0)) ≤ 20) (f20 : 1 * x14 + ((-1) * x2 + ((-36) * x5 + 0)) ≤ 13) (f21 : 1 * x10 + ((-1) * x2 + ((-36) * x5 + 0)) ≤ 5) (f22 : 1 * x9 + ((-1) * x2 + ((-36) * x5 + 0)) ≤ 0) (f24 : 1 * x14 + ((-1) * x2 + ((-36) * x5 + 0)) ≤ 13) (f25 : x12 < x11) (f26 : 1 * x10 + ((-1) * x2 + ((-36) * x5 + 0)) ≤ 5) (f27 : 1 * x9 + ((-1) * x2 + ((-36) * x5 + 0)) ≤ 0) (f29 : 1 * x10 + ((-1) * x2 + ((-36) * x5 + 0)) ≤ 5) (f30 : 1 * x9 + ((-1) * x2 + ((-36) * x5 + 0)) ≤ 0) (f32 : 1 * x9 + ((-1) * x2 + ((-36) * x5 + 0)) ≤ 0) (f33 : x7 = x4) (f34 : x5 < x6) (kz_0_170 : 0 ≤ texts_0 ∧ texts_0 ≤ 100000000) (ex2 : gx = texts_0) (ex3 : 0 ≤ gx ∧ gx ≤ 99999998) : 1 * texts_0 + ((-1) * gx + 0) ≤ 0 := by
  first | assumption | omega | grind
set_option maxHeartbeats 4000000 in
theorem vc_Mo_writeGroup_at_l3_9_1 (x2 : Int) (x4 : Int) (x5 : Int) (x6 : Int) (x7 : Int) (x9 : Int) (x10 : Int) (x11 : Int) (x12 : Int) (x14 : Int) (x15 : Int) (x16 : Int) (x18 : Int) (all_0 : Int → Int) (r_0 : Int) (texts_0 : Int) (gx : Int) (k2 : 0 ≤ x2 ∧ x2 ≤ 99942624) (k4 : 3 ≤ x4 ∧ x4 ≤ 7) (k5 : 0 ≤ x5 ∧ x5 ≤ 23) (k6 : 1 ≤ x6 ∧ x6 ≤ 24) (k7 : 3 ≤ x7 ∧ x7 ≤ 7) (k9 : 0 ≤ x9 ∧ x9 ≤ 99999995) (k10 : 0 ≤ x10 ∧ x10 ≤ 99999992) (k11 : 2 ≤ x11 ∧ x11 ≤ 99) (k12 : 1 ≤ x12 ∧ x12 ≤ 1) (k14 : 0 ≤ x14 ∧ x14 ≤ 99999993) (k15 : 0 ≤ x15 ∧ x15 ≤ 99) (k16 : 0 ≤ x16 ∧ x16 ≤ 99999987) (k18 : 0 ≤ x18 ∧ x18 ≤ 99999999) (d0 : x4 + 0 ≤ x7 ∧ x7 ≤ x4 + 0) (d1 : x6 + (-4294967296) ≤ x5 ∧ x5 ≤ x6 + (-1)) (f0 : 1 * x18 + ((-1) * x2 + ((-36) * x5 + 0)) ≤ 33) (f1 : 1 * x16 + ((-1) * x2 + ((-36) * x5 + 0)) ≤ 20) (f2 : x15 = all_0 (((r_0 + 219) + x5))) (f3 : 1 * x14 + ((-1) * x2 + ((-36) * x5 + 0)) ≤ 13) (f4 : x11 = all_0 (((r_0 + 219) + x5))) (f5 : 1 * x10 + ((-1) * x2 + ((-36) * x5 + 0)) ≤ 5) (f6 : 1 * x9 + ((-1) * x2 + ((-36) * x5 + 0)) ≤ 0) (f7 : x7 = all_0 (((r_0 + 243) + x5))) (f8 : 1 * x6 + ((-1) * all_0 (r_0 + 0) + 0) ≤ 0) (f9 : (-1) * x6 + (1 * all_0 (r_0 + 0) + 0) ≤ 0) (f11 : 1 * texts_0 + ((-1) * x18 + 0) ≤ 1) (f13 : 1 * x18 + ((-1) * x2 + ((-36) * x5 + 0)) ≤ 33) (f14 : 1 * x16 + ((-1) * x2 + ((-36) * x5 + 0)) ≤ 20) (f15 : 1 * x14 + ((-1) * x2 + ((-36) * x5 + 0)) ≤ 13) (f16 : 1 * x10 + ((-1) * x2 + ((-36) * x5 + 0)) ≤ 5) (f17 : 1 * x9 + ((-1) * x2 + ((-36) * x5 + 0)) ≤ 0) (f19 : 1 * x16 + ((-1) * x2 + ((-36) * x5 + 0)) ≤ 20) (f20 : 1 * x14 + ((-1) * x2 + ((-36) * x5 + 0)) ≤ 13) (f21 : 1 * x10 + ((-1) * x2 + ((-36) * x5 + 0)) ≤ 5) (f22 : 1 * x9 + ((-1) * x2 + ((-36) * x5 + 0)) ≤ 0) (f24 : 1 * x14 + ((-1) * x2 + ((-36) * x5 + 0)) ≤ 13) (f25 : x12 < x11) (f26 : 1 * x10 + ((-1) * x2 + ((-36) * x5 + 0)) ≤ 5) (f27 : 1 * x9 + ((-1) * x2 + ((-36) * x5 + 0)) ≤ 0) (f29 : 1 * x10 + ((-1) * x2 + ((-36) * x5 + 0)) ≤ 5) (f30 : 1 * x9 + ((-1) * x2 + ((-36) * x5 + 0)) ≤ 0) (f32 : 1 * x9 + ((-1) * x2 + ((-36) * x5 + 0)) ≤ 0) (f33 : x7 = x4) (f34 : x5 < x6) (kz_0_170 : 0 ≤ texts_0 ∧ texts_0 ≤ 100000000) (ex2 : gx = texts_0) (ex3 : 0 ≤ gx ∧ gx ≤ 99999998) : 1 * gx + ((-1) * x2 + ((-36) * x5 + 0)) ≤ 34 := by
  first | assumption | omega | grind
def o_Mo_writeGroup_at_l3_9 : or_T := (70, 20, [(0, (2, 0, 0, [165])), (2, (0, 0, 99942624, [])), (3, (2, 0, 0, [165])), (4, (0, 3, 7, [])), (5, (0, 0, 23, [])), (6, (0, 1, 24, [])), (7, (0, 3, 7, [])), (9, (0, 0, 99999995, [])), (10, (0, 0, 99999992, [])), (11, (0, 2, 99, [])), (12, (0, 1, 1, [])), (14, (0, 0, 99999993, [])), (15, (0, 0, 99, [])), (16, (0, 0, 99999987, [])), (18, (0, 0, 99999999, []))], [(23, [18, 2, 5], [33, 1, -1, -36]), (23, [16, 2, 5], [20, 1, -1, -36]), (20, [15, 3, 5], [50, 1, 1, 1005, 1002, 1, 2, 1, 0, 3, 1, 2, 4, 7, 4, 3, 2, 1, 5, 0, 219, 1, 2]), (23, [14, 2, 5], [13, 1, -1, -36]), (20, [11, 3, 5], [50, 1, 1, 1005, 1002, 1, 2, 1, 0, 3, 1, 2, 4, 7, 4, 3, 2, 1, 5, 0, 219, 1, 2]), (23, [10, 2, 5], [5, 1, -1, -36]), (23, [9, 2, 5], [0, 1, -1, -36]), (20, [7, 3, 5], [50, 1, 1, 1005, 1002, 1, 2, 1, 0, 3, 1, 2, 4, 7, 4, 3, 2, 1, 5, 0, 243, 1, 2]), (20, [6, 3], [30, 0, 1, 0, 0, -1, 3, 2005000]), (20, [6, 3], [30, 0, -1, 0, 0, 1, 3, 2005000]), (24, [0, 3], []), (20, [3, 18], [30, 1, 1, 1, 170, -1, 0, 0]), (102, [18], [7770675568902916283677847627294075626569627356208558085007249638955617140820833992704, 165170]), (23, [18, 2, 5], [33, 1, -1, -36]), (23, [16, 2, 5], [20, 1, -1, -36]), (23, [14, 2, 5], [13, 1, -1, -36]), (23, [10, 2, 5], [5, 1, -1, -36]), (23, [9, 2, 5], [0, 1, -1, -36]), (102, [16], [7770675568902916283677847627294075626569627356208558085007249638955617140820833992704, 165170]), (23, [16, 2, 5], [20, 1, -1, -36]), (23, [14, 2, 5], [13, 1, -1, -36]), (23, [10, 2, 5], [5, 1, -1, -36]), (23, [9, 2, 5], [0, 1, -1, -36]), (102, [14], [7770675568902916283677847627294075626569627356208558085007249638955617140820833992704, 165170]), (23, [14, 2, 5], [13, 1, -1, -36]), (7, [11, 12], [4]), (23, [10, 2, 5], [5, 1, -1, -36]), (23, [9, 2, 5], [0, 1, -1, -36]), (102, [10], [7770675568902916283677847627294075626569627356208558085007249638955617140820833992704, 165170]), (23, [10, 2, 5], [5, 1, -1, -36]), (23, [9, 2, 5], [0, 1, -1, -36]), (102, [9], [7770675568902916283677847627294075626569627356208558085007249638955617140820833992704, 165170]), (23, [9, 2, 5], [0, 1, -1, -36]), (7, [7, 4], [0]), (7, [5, 6], [2])], [], [(0, 0, 99999998, [])], [(20, [3, 20], [30, 0, 1, 1, 170, -1, 0, 0]), (23, [20, 2, 5], [34, 1, -1, -36])], [], [(7, 4, 0, 0), (5, 6, -4294967296, -1)])
theorem oo_Mo_writeGroup_at_l3_9 {kA : Nat → ClassId} : or_ok PRD kA GG o_Mo_writeGroup_at_l3_9 := by
  refine or_mk fun A ta ws vs hD hth hl => ?_
  intro t0 r0 t2 k2 t3 r3 t4 k4 t5 k5 t6 k6 t7 k7 t9 k9 t10 k10 t11 k11 t12 k12 t14 k14 t15 k15 t16 k16 t18 k18 d0 d1 f0 f1 f2 f3 f4 f5 f6 f7 f8 f9 f10 f11 ta1 w1 le1 s1 f13 f14 f15 f16 f17 ta2 w2 le2 s2 f19 f20 f21 f22 ta3 w3 le3 s3 f24 f25 f26 f27 ta4 w4 le4 s4 f29 f30 ta5 w5 le5 s5 f32 f33 f34
  replace f0 := shm_1913 f0
  replace f1 := shm_1912 f1
  replace f2 := shm_718 f2
  replace f3 := shm_1911 f3
  replace f4 := shm_718 f4
  replace f5 := shm_1909 f5
  replace f6 := shm_1908 f6
  replace f7 := shm_585 f7
  replace f8 := shm_135 f8
  replace f9 := shm_136 f9
  replace f10 := shm_5 f10
  replace f11 := shm_141 f11
  replace f13 := shm_1913 f13
  replace f14 := shm_1912 f14
  replace f15 := shm_1911 f15
  replace f16 := shm_1909 f16
  replace f17 := shm_1908 f17
  replace f19 := shm_1912 f19
  replace f20 := shm_1911 f20
  replace f21 := shm_1909 f21
  replace f22 := shm_1908 f22
  replace f24 := shm_1911 f24
  replace f25 := shm_21 f25
  replace f26 := shm_1909 f26
  replace f27 := shm_1908 f27
  replace f29 := shm_1909 f29
  replace f30 := shm_1908 f30
  replace f32 := shm_1908 f32
  replace f33 := shm_37 f33
  replace f34 := shm_6 f34
  have q3 : n_v vs 3 = n_v vs 0 := f10.symm
  simp only [q3] at f2 f4 f7 f8 f9 f11
  have cr_0_2 := fdq_12 hD hth r0
  have br_0_2_F5_0_0 : w_ei ws (w_ar ws (n_v vs 0) 2) (w_fi ws (n_v vs 0) 5 + 0) = w_el ws (w_ar ws (n_v vs 0) 2) (w_fi ws (n_v vs 0) 5 + 0).toNat := rfl
  have kz_0_170 := fdq_13 hD hth r0
  have kv0 := fdq_13 hD hth r0
  obtain ⟨x, ex, hx⟩ := iv_ex (ta := ta) (lo := 0) (hi := 99999998) (z := w_fi ws (n_v vs 0) 170) (by omega) (by omega) (by omega) (by omega)
  have ex2 : v_iv (Value.int x) = w_fi ws (n_v vs 0) 170 := ex
  have ex3 : 0 ≤ v_iv (Value.int x) ∧ v_iv (Value.int x) ≤ 99999998 := tv_rng hx
  have e_2 : n_v (vs ++ [Value.int x]) 2 = n_v vs 2 := n_v_old (by rw [hl]; decide)
  have e_3 : n_v (vs ++ [Value.int x]) 3 = n_v vs 3 := n_v_old (by rw [hl]; decide)
  have e_5 : n_v (vs ++ [Value.int x]) 5 = n_v vs 5 := n_v_old (by rw [hl]; decide)
  have e_20 : n_v (vs ++ [Value.int x]) 20 = Value.int x := n_v_new hl
  have nf0 : fc_1 PRD (20, [3, 20], [30, 0, 1, 1, 170, -1, 0, 0]) ws (vs ++ [Value.int x]) := by
    refine ⟨nf_inA hl rfl, sgq_140 ?_⟩
    · show 1 * w_fi ws (n_v (vs ++ [Value.int x]) 3) 170 + ((-1) * v_iv (n_v (vs ++ [Value.int x]) 20) + 0) ≤ 0
      simp only [e_3, e_20, q3]
      exact vc_Mo_writeGroup_at_l3_9_0 (v_iv (n_v vs 2)) (v_iv (n_v vs 4)) (v_iv (n_v vs 5)) (v_iv (n_v vs 6)) (v_iv (n_v vs 7)) (v_iv (n_v vs 9)) (v_iv (n_v vs 10)) (v_iv (n_v vs 11)) (v_iv (n_v vs 12)) (v_iv (n_v vs 14)) (v_iv (n_v vs 15)) (v_iv (n_v vs 16)) (v_iv (n_v vs 18)) (w_ei ws (w_ar ws (n_v vs 0) 2)) (w_fi ws (n_v vs 0) 5) (w_fi ws (n_v vs 0) 170) (v_iv (Value.int x)) k2 k4 k5 k6 k7 k9 k10 k11 k12 k14 k15 k16 k18 d0 d1 f0 f1 f2 f3 f4 f5 f6 f7 f8 f9 f11 f13 f14 f15 f16 f17 f19 f20 f21 f22 f24 f25 f26 f27 f29 f30 f32 f33 f34 kz_0_170 ex2 ex3
  have nf1 : fc_1 PRD (23, [20, 2, 5], [34, 1, -1, -36]) ws (vs ++ [Value.int x]) := by
    refine ⟨nf_inA hl rfl, sgq_1910 ?_⟩
    · show 1 * v_iv (n_v (vs ++ [Value.int x]) 20) + ((-1) * v_iv (n_v (vs ++ [Value.int x]) 2) + ((-36) * v_iv (n_v (vs ++ [Value.int x]) 5) + 0)) ≤ 34
      simp only [e_2, e_5, e_20]
      exact vc_Mo_writeGroup_at_l3_9_1 (v_iv (n_v vs 2)) (v_iv (n_v vs 4)) (v_iv (n_v vs 5)) (v_iv (n_v vs 6)) (v_iv (n_v vs 7)) (v_iv (n_v vs 9)) (v_iv (n_v vs 10)) (v_iv (n_v vs 11)) (v_iv (n_v vs 12)) (v_iv (n_v vs 14)) (v_iv (n_v vs 15)) (v_iv (n_v vs 16)) (v_iv (n_v vs 18)) (w_ei ws (w_ar ws (n_v vs 0) 2)) (w_fi ws (n_v vs 0) 5) (w_fi ws (n_v vs 0) 170) (v_iv (Value.int x)) k2 k4 k5 k6 k7 k9 k10 k11 k12 k14 k15 k16 k18 d0 d1 f0 f1 f2 f3 f4 f5 f6 f7 f8 f9 f11 f13 f14 f15 f16 f17 f19 f20 f21 f22 f24 f25 f26 f27 f29 f30 f32 f33 f34 kz_0_170 ex2 ex3
  exact ⟨(fun _ h => (by cases h)), [Value.int x], ag_one hx, List.forall_mem_cons.mpr ⟨⟨show (20 : Nat) < 100 from by decide, nf0⟩, List.forall_mem_cons.mpr ⟨⟨show (23 : Nat) < 100 from by decide, nf1⟩, (fun _ h => (by cases h))⟩⟩, (fun _ h => (by cases h))⟩
set_option maxHeartbeats 4000000 in
theorem vc_Mo_writeGroup_at_l3_10_0 (x2 : Int) (x4 : Int) (x5 : Int) (x6 : Int) (x7 : Int) (x9 : Int) (x10 : Int) (x11 : Int) (x12 : Int) (x14 : Int) (x15 : Int) (x16 : Int) (x18 : Int) (x20 : Int) (x21 : Int) (all_0 : Int → Int) (r_0 : Int) (texts_0 : Int) (k2 : 0 ≤ x2 ∧ x2 ≤ 99942624) (k4 : 3 ≤ x4 ∧ x4 ≤ 7) (k5 : 0 ≤ x5 ∧ x5 ≤ 23) (k6 : 1 ≤ x6 ∧ x6 ≤ 24) (k7 : 3 ≤ x7 ∧ x7 ≤ 7) (k9 : 0 ≤ x9 ∧ x9 ≤ 99999995) (k10 : 0 ≤ x10 ∧ x10 ≤ 99999992) (k11 : 2 ≤ x11 ∧ x11 ≤ 99) (k12 : 1 ≤ x12 ∧ x12 ≤ 1) (k14 : 0 ≤ x14 ∧ x14 ≤ 99999993) (k15 : 0 ≤ x15 ∧ x15 ≤ 99) (k16 : 0 ≤ x16 ∧ x16 ≤ 99999987) (k18 : 0 ≤ x18 ∧ x18 ≤ 99999999) (k20 : 0 ≤ x20 ∧ x20 ≤ 99999998) (k21 : 1 ≤ x21 ∧ x21 ≤ 24) (d0 : x5 + 1 ≤ x21 ∧ x21 ≤ x5 + 1) (d1 : x6 + (-4294967296) ≤ x21 ∧ x21 ≤ x6 + 0) (d2 : x4 + 0 ≤ x7 ∧ x7 ≤ x4 + 0) (d3 : x6 + (-4294967296) ≤ x5 ∧ x5 ≤ x6 + (-1)) (f0 : x21 = x5 + 1) (f1 : 1 * x20 + ((-1) * x2 + ((-36) * x5 + 0)) ≤ 34) (f2 : 1 * x18 + ((-1) * x2 + ((-36) * x5 + 0)) ≤ 33) (f3 : 1 * x16 + ((-1) * x2 + ((-36) * x5 + 0)) ≤ 20) (f4 : x15 = all_0 (((r_0 + 219) + x5))) (f5 : 1 * x14 + ((-1) * x2 + ((-36) * x5 + 0)) ≤ 13) (f6 : x11 = all_0 (((r_0 + 219) + x5))) (f7 : 1 * x10 + ((-1) * x2 + ((-36) * x5 + 0)) ≤ 5) (f8 : 1 * x9 + ((-1) * x2 + ((-36) * x5 + 0)) ≤ 0) (f9 : x7 = all_0 (((r_0 + 243) + x5))) (f10 : 1 * x6 + ((-1) * all_0 (r_0 + 0) + 0) ≤ 0) (f11 : (-1) * x6 + (1 * all_0 (r_0 + 0) + 0) ≤ 0) (f13 : 1 * texts_0 + ((-1) * x20 + 0) ≤ 2) (f15 : 1 * x20 + ((-1) * x2 + ((-36) * x5 + 0)) ≤ 34) (f16 : 1 * x18 + ((-1) * x2 + ((-36) * x5 + 0)) ≤ 33) (f17 : 1 * x16 + ((-1) * x2 + ((-36) * x5 + 0)) ≤ 20) (f18 : 1 * x14 + ((-1) * x2 + ((-36) * x5 + 0)) ≤ 13) (f19 : 1 * x10 + ((-1) * x2 + ((-36) * x5 + 0)) ≤ 5) (f20 : 1 * x9 + ((-1) * x2 + ((-36) * x5 + 0)) ≤ 0) (f22 : 1 * x18 + ((-1) * x2 + ((-36) * x5 + 0)) ≤ 33) (f23 : 1 * x16 + ((-1) * x2 + ((-36) * x5 + 0)) ≤ 20) (f24 : 1 * x14 + ((-1) * x2 + ((-36) * x5 + 0)) ≤ 13) (f25 : 1 * x10 + ((-1) * x2 + ((-36) * x5 + 0)) ≤ 5) (f26 : 1 * x9 + ((-1) * x2 + ((-36) * x5 + 0)) ≤ 0) (f28 : 1 * x16 + ((-1) * x2 + ((-36) * x5 + 0)) ≤ 20) (f29 : 1 * x14 + ((-1) * x2 + ((-36) * x5 + 0)) ≤ 13) (f30 : 1 * x10 + ((-1) * x2 + ((-36) * x5 + 0)) ≤ 5) (f31 : 1 * x9 + ((-1) * x2 + ((-36) * x5 + 0)) ≤ 0) (f33 : 1 * x14 + ((-1) * x2 + ((-36) * x5 + 0)) ≤ 13) (f34 : x12 < x11) (f35 : 1 * x10 + ((-1) * x2 + ((-36) * x5 + 0)) ≤ 5) (f36 : 1 * x9 + ((-1) * x2 + ((-36) * x5 + 0)) ≤ 0) (f38 : 1 * x10 + ((-1) * x2 + ((-36) * x5 + 0)) ≤ 5) (f39 : 1 * x9 + ((-1) * x2 + ((-36) * x5 + 0)) ≤ 0) (f41 : 1 * x9 + ((-1) * x2 + ((-36) * x5 + 0)) ≤ 0) (f42 : x7 = x4) (f43 : x5 < x6) (kz_0_170 : 0 ≤ texts_0 ∧ texts_0 ≤ 100000000) : 1 * texts_0 + ((-1) * x2 + ((-36) * x21 + 0)) ≤ 0 := by
  first | assumption | omega | grind
def o_Mo_writeGroup_at_l3_10 : or_T := (2, 22, [(0, (2, 0, 0, [165])), (2, (0, 0, 99942624, [])), (4, (0, 3, 7, [])), (5, (0, 0, 23, [])), (6, (0, 1, 24, [])), (7, (0, 3, 7, [])), (9, (0, 0, 99999995, [])), (10, (0, 0, 99999992, [])), (11, (0, 2, 99, [])), (12, (0, 1, 1, [])), (14, (0, 0, 99999993, [])), (15, (0, 0, 99, [])), (16, (0, 0, 99999987, [])), (18, (0, 0, 99999999, [])), (20, (0, 0, 99999998, [])), (21, (0, 1, 24, []))], [(6, [21, 5], [1]), (23, [20, 2, 5], [34, 1, -1, -36]), (23, [18, 2, 5], [33, 1, -1, -36]), (23, [16, 2, 5], [20, 1, -1, -36]), (20, [15, 3, 5], [50, 1, 1, 1005, 1002, 1, 2, 1, 0, 3, 1, 2, 4, 7, 4, 3, 2, 1, 5, 0, 219, 1, 2]), (23, [14, 2, 5], [13, 1, -1, -36]), (20, [11, 3, 5], [50, 1, 1, 1005, 1002, 1, 2, 1, 0, 3, 1, 2, 4, 7, 4, 3, 2, 1, 5, 0, 219, 1, 2]), (23, [10, 2, 5], [5, 1, -1, -36]), (23, [9, 2, 5], [0, 1, -1, -36]), (20, [7, 3, 5], [50, 1, 1, 1005, 1002, 1, 2, 1, 0, 3, 1, 2, 4, 7, 4, 3, 2, 1, 5, 0, 243, 1, 2]), (20, [6, 3], [30, 0, 1, 0, 0, -1, 3, 2005000]), (20, [6, 3], [30, 0, -1, 0, 0, 1, 3, 2005000]), (24, [0, 3], []), (20, [3, 20], [30, 2, 1, 1, 170, -1, 0, 0]), (102, [20], [7770675568902916283677847627294075626569627356208558085007249638955617140820833992704, 165170]), (23, [20, 2, 5], [34, 1, -1, -36]), (23, [18, 2, 5], [33, 1, -1, -36]), (23, [16, 2, 5], [20, 1, -1, -36]), (23, [14, 2, 5], [13, 1, -1, -36]), (23, [10, 2, 5], [5, 1, -1, -36]), (23, [9, 2, 5], [0, 1, -1, -36]), (102, [18], [7770675568902916283677847627294075626569627356208558085007249638955617140820833992704, 165170]), (23, [18, 2, 5], [33, 1, -1, -36]), (23, [16, 2, 5], [20, 1, -1, -36]), (23, [14, 2, 5], [13, 1, -1, -36]), (23, [10, 2, 5], [5, 1, -1, -36]), (23, [9, 2, 5], [0, 1, -1, -36]), (102, [16], [7770675568902916283677847627294075626569627356208558085007249638955617140820833992704, 165170]), (23, [16, 2, 5], [20, 1, -1, -36]), (23, [14, 2, 5], [13, 1, -1, -36]), (23, [10, 2, 5], [5, 1, -1, -36]), (23, [9, 2, 5], [0, 1, -1, -36]), (102, [14], [7770675568902916283677847627294075626569627356208558085007249638955617140820833992704, 165170]), (23, [14, 2, 5], [13, 1, -1, -36]), (7, [11, 12], [4]), (23, [10, 2, 5], [5, 1, -1, -36]), (23, [9, 2, 5], [0, 1, -1, -36]), (102, [10], [7770675568902916283677847627294075626569627356208558085007249638955617140820833992704, 165170]), (23, [10, 2, 5], [5, 1, -1, -36]), (23, [9, 2, 5], [0, 1, -1, -36]), (102, [9], [7770675568902916283677847627294075626569627356208558085007249638955617140820833992704, 165170]), (23, [9, 2, 5], [0, 1, -1, -36]), (7, [7, 4], [0]), (7, [5, 6], [2])], [], [], [(20, [3, 2, 21], [30, 0, 1, 1, 170, -1, 0, 0, -36, 0, 0])], [], [(21, 5, 1, 1), (21, 6, -4294967296, 0), (7, 4, 0, 0), (5, 6, -4294967296, -1)])
theorem oo_Mo_writeGroup_at_l3_10 {kA : Nat → ClassId} : or_ok PRD kA GG o_Mo_writeGroup_at_l3_10 := by
  refine or_mk fun A ta ws vs hD hth hl => ?_
  intro t0 r0 t2 k2 t4 k4 t5 k5 t6 k6 t7 k7 t9 k9 t10 k10 t11 k11 t12 k12 t14 k14 t15 k15 t16 k16 t18 k18 t20 k20 t21 k21 d0 d1 d2 d3 f0 f1 f2 f3 f4 f5 f6 f7 f8 f9 f10 f11 f12 f13 ta1 w1 le1 s1 f15 f16 f17 f18 f19 f20 ta2 w2 le2 s2 f22 f23 f24 f25 f26 ta3 w3 le3 s3 f28 f29 f30 f31 ta4 w4 le4 s4 f33 f34 f35 f36 ta5 w5 le5 s5 f38 f39 ta6 w6 le6 s6 f41 f42 f43
  replace f0 := shm_4 f0
  replace f1 := shm_1910 f1
  replace f2 := shm_1913 f2
  replace f3 := shm_1912 f3
  replace f4 := shm_718 f4
  replace f5 := shm_1911 f5
  replace f6 := shm_718 f6
  replace f7 := shm_1909 f7
  replace f8 := shm_1908 f8
  replace f9 := shm_585 f9
  replace f10 := shm_135 f10
  replace f11 := shm_136 f11
  replace f12 := shm_5 f12
  replace f13 := shm_234 f13
  replace f15 := shm_1910 f15
  replace f16 := shm_1913 f16
  replace f17 := shm_1912 f17
  replace f18 := shm_1911 f18
  replace f19 := shm_1909 f19
  replace f20 := shm_1908 f20
  replace f22 := shm_1913 f22
  replace f23 := shm_1912 f23
  replace f24 := shm_1911 f24
  replace f25 := shm_1909 f25
  replace f26 := shm_1908 f26
  replace f28 := shm_1912 f28
  replace f29 := shm_1911 f29
  replace f30 := shm_1909 f30
  replace f31 := shm_1908 f31
  replace f33 := shm_1911 f33
  replace f34 := shm_21 f34
  replace f35 := shm_1909 f35
  replace f36 := shm_1908 f36
  replace f38 := shm_1909 f38
  replace f39 := shm_1908 f39
  replace f41 := shm_1908 f41
  replace f42 := shm_37 f42
  replace f43 := shm_6 f43
  have q3 : n_v vs 3 = n_v vs 0 := f12.symm
  simp only [q3] at f4 f6 f9 f10 f11 f13
  have kz_0_170 := fdq_13 hD hth r0
  have nf0 : fc_1 PRD (20, [3, 2, 21], [30, 0, 1, 1, 170, -1, 0, 0, -36, 0, 0]) ws (vs) := by
    refine ⟨nf_in hl rfl, sgq_1906 ?_⟩
    · show 1 * w_fi ws (n_v vs 3) 170 + ((-1) * v_iv (n_v vs 2) + ((-36) * v_iv (n_v vs 21) + 0)) ≤ 0
      rw [q3]
      exact vc_Mo_writeGroup_at_l3_10_0 (v_iv (n_v vs 2)) (v_iv (n_v vs 4)) (v_iv (n_v vs 5)) (v_iv (n_v vs 6)) (v_iv (n_v vs 7)) (v_iv (n_v vs 9)) (v_iv (n_v vs 10)) (v_iv (n_v vs 11)) (v_iv (n_v vs 12)) (v_iv (n_v vs 14)) (v_iv (n_v vs 15)) (v_iv (n_v vs 16)) (v_iv (n_v vs 18)) (v_iv (n_v vs 20)) (v_iv (n_v vs 21)) (w_ei ws (w_ar ws (n_v vs 0) 2)) (w_fi ws (n_v vs 0) 5) (w_fi ws (n_v vs 0) 170) k2 k4 k5 k6 k7 k9 k10 k11 k12 k14 k15 k16 k18 k20 k21 d0 d1 d2 d3 f0 f1 f2 f3 f4 f5 f6 f7 f8 f9 f10 f11 f13 f15 f16 f17 f18 f19 f20 f22 f23 f24 f25 f26 f28 f29 f30 f31 f33 f34 f35 f36 f38 f39 f41 f42 f43 kz_0_170
  refine ⟨(fun _ h => (by cases h)), [], trivial, ?_, (fun _ h => (by cases h))⟩
  rw [List.append_nil]
  exact List.forall_mem_cons.mpr ⟨⟨show (20 : Nat) < 100 from by decide, nf0⟩, (fun _ h => (by cases h))⟩
set_option maxHeartbeats 4000000 in
theorem vc_Mo_writeGroup_at_l3_11_0 (x2 : Int) (x4 : Int) (x5 : Int) (x6 : Int) (x7 : Int) (x8 : Int) (all_0 : Int → Int) (r_0 : Int) (texts_0 : Int) (k2 : 0 ≤ x2 ∧ x2 ≤ 99942624) (k4 : 3 ≤ x4 ∧ x4 ≤ 7) (k5 : 0 ≤ x5 ∧ x5 ≤ 23) (k6 : 1 ≤ x6 ∧ x6 ≤ 24) (k7 : 0 ≤ x7 ∧ x7 ≤ 7) (k8 : 1 ≤ x8 ∧ x8 ≤ 24) (d0 : x5 + 1 ≤ x8 ∧ x8 ≤ x5 + 1) (d1 : x6 + (-4294967296) ≤ x8 ∧ x8 ≤ x6 + 0) (d2 : x6 + (-4294967296) ≤ x5 ∧ x5 ≤ x6 + (-1)) (f0 : x8 = x5 + 1) (f1 : x7 ≠ x4) (f2 : x7 = all_0 (((r_0 + 243) + x5))) (f3 : x5 < x6) (f4 : 1 * x6 + ((-1) * all_0 (r_0 + 0) + 0) ≤ 0) (f5 : (-1) * x6 + (1 * all_0 (r_0 + 0) + 0) ≤ 0) (f6 : 1 * texts_0 + ((-1) * x2 + ((-36) * x5 + 0)) ≤ 0) (kz_0_170 : 0 ≤ texts_0 ∧ texts_0 ≤ 100000000) : 1 * texts_0 + ((-1) * x2 + ((-36) * x8 + 0)) ≤ 0 := by
  first | assumption | omega | grind
def o_Mo_writeGroup_at_l3_11 : or_T := (2, 9, [(0, (2, 0, 0, [165])), (2, (0, 0, 99942624, [])), (4, (0, 3, 7, [])), (5, (0, 0, 23, [])), (6, (0, 1, 24, [])), (7, (0, 0, 7, [])), (8, (0, 1, 24, []))], [(6, [8, 5], [1]), (7, [7, 4], [1]), (20, [7, 3, 5], [50, 1, 1, 1005, 1002, 1, 2, 1, 0, 3, 1, 2, 4, 7, 4, 3, 2, 1, 5, 0, 243, 1, 2]), (7, [5, 6], [2]), (20, [6, 3], [30, 0, 1, 0, 0, -1, 3, 2005000]), (20, [6, 3], [30, 0, -1, 0, 0, 1, 3, 2005000]), (20, [3, 2, 5], [30, 0, 1, 1, 170, -1, 0, 0, -36, 0, 0]), (24, [0, 3], [])], [], [], [(20, [3, 2, 8], [30, 0, 1, 1, 170, -1, 0, 0, -36, 0, 0])], [], [(8, 5, 1, 1), (8, 6, -4294967296, 0), (5, 6, -4294967296, -1)])
theorem oo_Mo_writeGroup_at_l3_11 {kA : Nat → ClassId} : or_ok PRD kA GG o_Mo_writeGroup_at_l3_11 := by
  refine or_mk fun A ta ws vs hD hth hl => ?_
  intro t0 r0 t2 k2 t4 k4 t5 k5 t6 k6 t7 k7 t8 k8 d0 d1 d2 f0 f1 f2 f3 f4 f5 f6 f7
  replace f0 := shm_4 f0
  replace f1 := shm_40 f1
  replace f2 := shm_585 f2
  replace f3 := shm_6 f3
  replace f4 := shm_135 f4
  replace f5 := shm_136 f5
  replace f6 := shm_1906 f6
  replace f7 := shm_5 f7
  have q3 : n_v vs 3 = n_v vs 0 := f7.symm
  simp only [q3] at f2 f4 f5 f6
  have kz_0_170 := fdq_13 hD hth r0
  have nf0 : fc_1 PRD (20, [3, 2, 8], [30, 0, 1, 1, 170, -1, 0, 0, -36, 0, 0]) ws (vs) := by
    refine ⟨nf_in hl rfl, sgq_1906 ?_⟩
    · show 1 * w_fi ws (n_v vs 3) 170 + ((-1) * v_iv (n_v vs 2) + ((-36) * v_iv (n_v vs 8) + 0)) ≤ 0
      rw [q3]
      exact vc_Mo_writeGroup_at_l3_11_0 (v_iv (n_v vs 2)) (v_iv (n_v vs 4)) (v_iv (n_v vs 5)) (v_iv (n_v vs 6)) (v_iv (n_v vs 7)) (v_iv (n_v vs 8)) (w_ei ws (w_ar ws (n_v vs 0) 2)) (w_fi ws (n_v vs 0) 5) (w_fi ws (n_v vs 0) 170) k2 k4 k5 k6 k7 k8 d0 d1 d2 f0 f1 f2 f3 f4 f5 f6 kz_0_170
  refine ⟨(fun _ h => (by cases h)), [], trivial, ?_, (fun _ h => (by cases h))⟩
  rw [List.append_nil]
  exact List.forall_mem_cons.mpr ⟨⟨show (20 : Nat) < 100 from by decide, nf0⟩, (fun _ h => (by cases h))⟩
set_option maxHeartbeats 4000000 in
theorem vc_Mo_writeGroup_at_l3_12_0 (x2 : Int) (x4 : Int) (x5 : Int) (x6 : Int) (all_0 : Int → Int) (r_0 : Int) (texts_0 : Int) (k2 : 0 ≤ x2 ∧ x2 ≤ 99942624) (k4 : 3 ≤ x4 ∧ x4 ≤ 7) (k5 : 4 ≤ x5 ∧ x5 ≤ 8) (k6 : 0 ≤ x6 ∧ x6 ≤ 8) (d0 : x6 + 0 ≤ x5 ∧ x5 ≤ x6 + 4294967296) (d1 : x5 + (-4294967296) ≤ x4 ∧ x4 ≤ x5 + (-1)) (f0 : x6 ≤ x5) (f1 : 1 * x6 + ((-1) * all_0 (r_0 + 2) + 0) ≤ 0) (f2 : (-1) * x6 + (1 * all_0 (r_0 + 2) + 0) ≤ 0) (f3 : 1 * texts_0 + ((-1) * x2 + ((-14128) * x5 + (14128 * x4 + 0))) ≤ (-13264)) (kz_0_170 : 0 ≤ texts_0 ∧ texts_0 ≤ 100000000) : 1 * texts_0 + ((-1) * x2 + 0) ≤ 57376 := by
  first | assumption | omega | grind
def o_Mo_writeGroup_at_l3_12 : or_T := (177, 7, [(0, (2, 0, 0, [165])), (2, (0, 0, 99942624, [])), (4, (0, 3, 7, [])), (5, (0, 4, 8, [])), (6, (0, 0, 8, []))], [(7, [5, 6], [3]), (20, [6, 3], [30, 0, 1, 0, 0, -1, 3, 2005002]), (20, [6, 3], [30, 0, -1, 0, 0, 1, 3, 2005002]), (20, [3, 2, 5, 4], [30, -13264, 1, 1, 170, -1, 0, 0, -14128, 0, 0, 14128, 0, 0]), (24, [0, 3], [])], [], [], [(20, [0, 2], [30, 57376, 1, 1, 170, -1, 0, 0])], [], [(5, 6, 0, 4294967296), (4, 5, -4294967296, -1)])
theorem oo_Mo_writeGroup_at_l3_12 {kA : Nat → ClassId} : or_ok PRD kA GG o_Mo_writeGroup_at_l3_12 := by
  refine or_mk fun A ta ws vs hD hth hl => ?_
  intro t0 r0 t2 k2 t4 k4 t5 k5 t6 k6 d0 d1 f0 f1 f2 f3 f4
  replace f1 := shm_132 f1
  replace f2 := shm_133 f2
  replace f3 := shm_1935 f3
  replace f4 := shm_5 f4
  have q3 : n_v vs 3 = n_v vs 0 := f4.symm
  simp only [q3] at f1 f2 f3
  have kz_0_170 := fdq_13 hD hth r0
  have nf0 : fc_1 PRD (20, [0, 2], [30, 57376, 1, 1, 170, -1, 0, 0]) ws (vs) := ⟨nf_in hl rfl, sgq_1933 (vc_Mo_writeGroup_at_l3_12_0 (v_iv (n_v vs 2)) (v_iv (n_v vs 4)) (v_iv (n_v vs 5)) (v_iv (n_v vs 6)) (w_ei ws (w_ar ws (n_v vs 0) 2)) (w_fi ws (n_v vs 0) 5) (w_fi ws (n_v vs 0) 170) k2 k4 k5 k6 d0 d1 (shm_2 f0) f1 f2 f3 kz_0_170)⟩
  refine ⟨(fun _ h => (by cases h)), [], trivial, ?_, (fun _ h => (by cases h))⟩
  rw [List.append_nil]
  exact List.forall_mem_cons.mpr ⟨⟨show (20 : Nat) < 100 from by decide, nf0⟩, (fun _ h => (by cases h))⟩
def o_Mo_writeGroup_at_l3_13 : or_T := (117, 14, [(0, (2, 0, 0, [165])), (2, (0, 0, 99942624, [])), (3, (2, 0, 0, [165])), (4, (0, 3, 6, [])), (5, (0, 4, 7, [])), (6, (0, 5, 8, [])), (7, (2, 0, 0, [167])), (8, (0, 0, 66297, [])), (9, (0, 531, 531, [])), (10, (0, 531, 66828, [])), (11, (0, 535, 66835, [])), (12, (0, 3, 6, []))], [(7, [12, 4], [0]), (10, [12, 7, 11], []), (1, [11, 10, 5], []), (1, [10, 8, 9], []), (9, [8, 3], [5]), (9, [7, 3], [2]), (7, [5, 6], [2]), (20, [6, 3], [30, 0, 1, 0, 0, -1, 3, 2005002]), (20, [6, 3], [30, 0, -1, 0, 0, 1, 3, 2005002]), (20, [3, 2, 5, 4], [30, -13264, 1, 1, 170, -1, 0, 0, -14128, 0, 0, 14128, 0, 0]), (24, [0, 3], [])], [], [(0, 0, 99999994, [])], [(20, [3, 14], [30, 0, 1, 1, 170, -1, 0, 0]), (23, [14, 2, 5, 4], [-13264, 1, -1, -14128, 14128])], [], [(12, 4, 0, 0), (11, 5, 531, 66828), (11, 6, -4294967296, 66827), (11, 10, 4, 7), (11, 8, 535, 538), (10, 8, 531, 531), (5, 6, -4294967296, -1), (4, 5, -4294967296, -1)])
theorem oo_Mo_writeGroup_at_l3_13 {kA : Nat → ClassId} : or_ok PRD kA GG o_Mo_writeGroup_at_l3_13 := by
  refine or_mk fun A ta ws vs hD hth hl => ?_
  intro t0 r0 t2 k2 t3 r3 t4 k4 t5 k5 t6 k6 t7 r7 t8 k8 t9 k9 t10 k10 t11 k11 t12 k12 d0 d1 d2 d3 d4 d5 d6 d7 f0 f1 f2 f3 f4 f5 f6 f7 f8 f9 f10
  replace f0 := shm_37 f0
  replace f1 := shm_106 f1
  replace f2 := shm_12 f2
  replace f3 := shm_12 f3
  replace f4 := shm_109 f4
  replace f5 := shm_129 f5
  replace f6 := shm_6 f6
  replace f7 := shm_132 f7
  replace f8 := shm_133 f8
  replace f9 := shm_1935 f9
  replace f10 := shm_5 f10
  have q3 : n_v vs 3 = n_v vs 0 := f10.symm
  simp only [q3] at f4 f5 f7 f8 f9
  have cr_0_2 := fdq_12 hD hth r0
  have ad_7 : v_ad (n_v vs 7) = w_ar ws (n_v vs 0) 2 := congrArg v_ad f5
  simp only [ad_7] at f1
  have h1 : v_iv (n_v vs 12) = w_ei ws (w_ar ws (n_v vs 0) 2) (v_iv (n_v vs 11)) := f1
  have g4 : v_iv (n_v vs 8) = w_fi ws (n_v vs 0) 5 := congrArg v_iv f4
  have cg1_F5_2 : v_iv (n_v vs 11) = w_fi ws (n_v vs 0) 5 + 2 → w_el ws (w_ar ws (n_v vs 0) 2) (v_iv (n_v vs 11)).toNat = w_el ws (w_ar ws (n_v vs 0) 2) (w_fi ws (n_v vs 0) 5 + 2).toNat := fun h => by rw [h]
  have kz_0_170 := fdq_13 hD hth r0
  have kv0 := fdq_13 hD hth r0
  obtain ⟨x, ex, hx⟩ := iv_ex (ta := ta) (lo := 0) (hi := 99999994) (z := w_fi ws (n_v vs 0) 170) (by omega) (by omega) (by omega) (by omega)
  have ex2 : v_iv (Value.int x) = w_fi ws (n_v vs 0) 170 := ex
  have ex3 : 0 ≤ v_iv (Value.int x) ∧ v_iv (Value.int x) ≤ 99999994 := tv_rng hx
  have e_2 : n_v (vs ++ [Value.int x]) 2 = n_v vs 2 := n_v_old (by rw [hl]; decide)
  have e_3 : n_v (vs ++ [Value.int x]) 3 = n_v vs 3 := n_v_old (by rw [hl]; decide)
  have e_4 : n_v (vs ++ [Value.int x]) 4 = n_v vs 4 := n_v_old (by rw [hl]; decide)
  have e_5 : n_v (vs ++ [Value.int x]) 5 = n_v vs 5 := n_v_old (by rw [hl]; decide)
  have e_14 : n_v (vs ++ [Value.int x]) 14 = Value.int x := n_v_new hl
  have nf0 : fc_1 PRD (20, [3, 14], [30, 0, 1, 1, 170, -1, 0, 0]) ws (vs ++ [Value.int x]) := by
    refine ⟨nf_inA hl rfl, sgq_140 ?_⟩
    · show 1 * w_fi ws (n_v (vs ++ [Value.int x]) 3) 170 + ((-1) * v_iv (n_v (vs ++ [Value.int x]) 14) + 0) ≤ 0
      simp only [e_3, e_14, q3]
      omega
  have nf1 : fc_1 PRD (23, [14, 2, 5, 4], [-13264, 1, -1, -14128, 14128]) ws (vs ++ [Value.int x]) := by
    refine ⟨nf_inA hl rfl, sgq_1936 ?_⟩
    · show 1 * v_iv (n_v (vs ++ [Value.int x]) 14) + ((-1) * v_iv (n_v (vs ++ [Value.int x]) 2) + ((-14128) * v_iv (n_v (vs ++ [Value.int x]) 5) + (14128 * v_iv (n_v (vs ++ [Value.int x]) 4) + 0))) ≤ (-13264)
      simp only [e_2, e_4, e_5, e_14]
      omega
  exact ⟨(fun _ h => (by cases h)), [Value.int x], ag_one hx, List.forall_mem_cons.mpr ⟨⟨show (20 : Nat) < 100 from by decide, nf0⟩, List.forall_mem_cons.mpr ⟨⟨show (23 : Nat) < 100 from by decide, nf1⟩, (fun _ h => (by cases h))⟩⟩, (fun _ h => (by cases h))⟩
set_option maxHeartbeats 4000000 in
theorem vc_Mo_writeGroup_at_l3_14_0 (x2 : Int) (x4 : Int) (x5 : Int) (x6 : Int) (x8 : Int) (x12 : Int) (x14 : Int) (r_0 : Int) (all_0 : Int → Int) (texts_0 : Int) (gx : Int) (k2 : 0 ≤ x2 ∧ x2 ≤ 99942624) (k4 : 3 ≤ x4 ∧ x4 ≤ 6) (k5 : 4 ≤ x5 ∧ x5 ≤ 7) (k6 : 5 ≤ x6 ∧ x6 ≤ 8) (k8 : 0 ≤ x8 ∧ x8 ≤ 66297) (k12 : 3 ≤ x12 ∧ x12 ≤ 6) (k14 : 0 ≤ x14 ∧ x14 ≤ 99999994) (d0 : x4 + 0 ≤ x12 ∧ x12 ≤ x4 + 0) (d1 : x6 + (-4294967296) ≤ x5 ∧ x5 ≤ x6 + (-1)) (d2 : x5 + (-4294967296) ≤ x4 ∧ x4 ≤ x5 + (-1)) (g0 : x8 = r_0) (f2 : 1 * x14 + ((-1) * x2 + ((-14128) * x5 + (14128 * x4 + 0))) ≤ (-13264)) (f3 : 1 * x6 + ((-1) * all_0 (r_0 + 2) + 0) ≤ 0) (f4 : (-1) * x6 + (1 * all_0 (r_0 + 2) + 0) ≤ 0) (f6 : 1 * texts_0 + ((-1) * x14 + 0) ≤ 6) (f8 : 1 * x14 + ((-1) * x2 + ((-14128) * x5 + (14128 * x4 + 0))) ≤ (-13264)) (f9 : x12 = x4) (f10 : x5 < x6) (kz_0_170 : 0 ≤ texts_0 ∧ texts_0 ≤ 100000000) (ex2 : gx = texts_0) (ex3 : 0 ≤ gx ∧ gx ≤ 99999992) : 1 * texts_0 + ((-1) * gx + 0) ≤ 0 := by
  first | assumption | omega | grind
set_option maxHeartbeats 4000000 in
theorem vc_Mo_writeGroup_at_l3_14_1 (x2 : Int) (x4 : Int) (x5 : Int) (x6 : Int) (x8 : Int) (x12 : Int) (x14 : Int) (r_0 : Int) (all_0 : Int → Int) (texts_0 : Int) (gx : Int) (k2 : 0 ≤ x2 ∧ x2 ≤ 99942624) (k4 : 3 ≤ x4 ∧ x4 ≤ 6) (k5 : 4 ≤ x5 ∧ x5 ≤ 7) (k6 : 5 ≤ x6 ∧ x6 ≤ 8) (k8 : 0 ≤ x8 ∧ x8 ≤ 66297) (k12 : 3 ≤ x12 ∧ x12 ≤ 6) (k14 : 0 ≤ x14 ∧ x14 ≤ 99999994) (d0 : x4 + 0 ≤ x12 ∧ x12 ≤ x4 + 0) (d1 : x6 + (-4294967296) ≤ x5 ∧ x5 ≤ x6 + (-1)) (d2 : x5 + (-4294967296) ≤ x4 ∧ x4 ≤ x5 + (-1)) (g0 : x8 = r_0) (f2 : 1 * x14 + ((-1) * x2 + ((-14128) * x5 + (14128 * x4 + 0))) ≤ (-13264)) (f3 : 1 * x6 + ((-1) * all_0 (r_0 + 2) + 0) ≤ 0) (f4 : (-1) * x6 + (1 * all_0 (r_0 + 2) + 0) ≤ 0) (f6 : 1 * texts_0 + ((-1) * x14 + 0) ≤ 6) (f8 : 1 * x14 + ((-1) * x2 + ((-14128) * x5 + (14128 * x4 + 0))) ≤ (-13264)) (f9 : x12 = x4) (f10 : x5 < x6) (kz_0_170 : 0 ≤ texts_0 ∧ texts_0 ≤ 100000000) (ex2 : gx = texts_0) (ex3 : 0 ≤ gx ∧ gx ≤ 99999992) : 1 * gx + ((-1) * x2 + ((-14128) * x5 + (14128 * x4 + 0))) ≤ (-13258) := by
  first | assumption | omega | grind
def o_Mo_writeGroup_at_l3_14 : or_T := (149, 24, [(0, (2, 0, 0, [165])), (2, (0, 0, 99942624, [])), (3, (2, 0, 0, [165])), (4, (0, 3, 6, [])), (5, (0, 4, 7, [])), (6, (0, 5, 8, [])), (7, (2, 0, 0, [167])), (8, (0, 0, 66297, [])), (12, (0, 3, 6, [])), (14, (0, 0, 99999994, []))], [(9, [8, 3], [5]), (9, [7, 3], [2]), (23, [14, 2, 5, 4], [-13264, 1, -1, -14128, 14128]), (20, [6, 3], [30, 0, 1, 0, 0, -1, 3, 2005002]), (20, [6, 3], [30, 0, -1, 0, 0, 1, 3, 2005002]), (24, [0, 3], []), (20, [3, 14], [30, 6, 1, 1, 170, -1, 0, 0]), (102, [14], [7770675568902916283677847627294075626569627356208558085007249638955617140820833992704, 165170]), (23, [14, 2, 5, 4], [-13264, 1, -1, -14128, 14128]), (7, [12, 4], [0]), (7, [5, 6], [2])], [], [(0, 0, 99999992, [])], [(20, [3, 24], [30, 0, 1, 1, 170, -1, 0, 0]), (23, [24, 2, 5, 4], [-13258, 1, -1, -14128, 14128])], [], [(12, 4, 0, 0), (5, 6, -4294967296, -1), (4, 5, -4294967296, -1)])
theorem oo_Mo_writeGroup_at_l3_14 {kA : Nat → ClassId} : or_ok PRD kA GG o_Mo_writeGroup_at_l3_14 := by
  refine or_mk fun A ta ws vs hD hth hl => ?_
  intro t0 r0 t2 k2 t3 r3 t4 k4 t5 k5 t6 k6 t7 r7 t8 k8 t12 k12 t14 k14 d0 d1 d2 f0 f1 f2 f3 f4 f5 f6 ta1 w1 le1 s1 f8 f9 f10
  replace f0 := shm_109 f0
  replace f1 := shm_129 f1
  replace f2 := shm_1936 f2
  replace f3 := shm_132 f3
  replace f4 := shm_133 f4
  replace f5 := shm_5 f5
  replace f6 := shm_235 f6
  replace f8 := shm_1936 f8
  replace f9 := shm_37 f9
  replace f10 := shm_6 f10
  have q3 : n_v vs 3 = n_v vs 0 := f5.symm
  simp only [q3] at f0 f1 f3 f4 f6
  have cr_0_2 := fdq_12 hD hth r0
  have ad_7 : v_ad (n_v vs 7) = w_ar ws (n_v vs 0) 2 := congrArg v_ad f1
  have g0 : v_iv (n_v vs 8) = w_fi ws (n_v vs 0) 5 := congrArg v_iv f0
  have kz_0_170 := fdq_13 hD hth r0
  have kv0 := fdq_13 hD hth r0
  obtain ⟨x, ex, hx⟩ := iv_ex (ta := ta) (lo := 0) (hi := 99999992) (z := w_fi ws (n_v vs 0) 170) (by omega) (by omega) (by omega) (by omega)
  have ex2 : v_iv (Value.int x) = w_fi ws (n_v vs 0) 170 := ex
  have ex3 : 0 ≤ v_iv (Value.int x) ∧ v_iv (Value.int x) ≤ 99999992 := tv_rng hx
  have e_2 : n_v (vs ++ [Value.int x]) 2 = n_v vs 2 := n_v_old (by rw [hl]; decide)
  have e_3 : n_v (vs ++ [Value.int x]) 3 = n_v vs 3 := n_v_old (by rw [hl]; decide)
  have e_4 : n_v (vs ++ [Value.int x]) 4 = n_v vs 4 := n_v_old (by rw [hl]; decide)
  have e_5 : n_v (vs ++ [Value.int x]) 5 = n_v vs 5 := n_v_old (by rw [hl]; decide)
  have e_24 : n_v (vs ++ [Value.int x]) 24 = Value.int x := n_v_new hl
  have nf0 : fc_1 PRD (20, [3, 24], [30, 0, 1, 1, 170, -1, 0, 0]) ws (vs ++ [Value.int x]) := by
    refine ⟨nf_inA hl rfl, sgq_140 ?_⟩
    · show 1 * w_fi ws (n_v (vs ++ [Value.int x]) 3) 170 + ((-1) * v_iv (n_v (vs ++ [Value.int x]) 24) + 0) ≤ 0
      simp only [e_3, e_24, q3]
      exact vc_Mo_writeGroup_at_l3_14_0 (v_iv (n_v vs 2)) (v_iv (n_v vs 4)) (v_iv (n_v vs 5)) (v_iv (n_v vs 6)) (v_iv (n_v vs 8)) (v_iv (n_v vs 12)) (v_iv (n_v vs 14)) (w_fi ws (n_v vs 0) 5) (w_ei ws (w_ar ws (n_v vs 0) 2)) (w_fi ws (n_v vs 0) 170) (v_iv (Value.int x)) k2 k4 k5 k6 k8 k12 k14 d0 d1 d2 g0 f2 f3 f4 f6 f8 f9 f10 kz_0_170 ex2 ex3
  have nf1 : fc_1 PRD (23, [24, 2, 5, 4], [-13258, 1, -1, -14128, 14128]) ws (vs ++ [Value.int x]) := by
    refine ⟨nf_inA hl rfl, sgq_1937 ?_⟩
    · show 1 * v_iv (n_v (vs ++ [Value.int x]) 24) + ((-1) * v_iv (n_v (vs ++ [Value.int x]) 2) + ((-14128) * v_iv (n_v (vs ++ [Value.int x]) 5) + (14128 * v_iv (n_v (vs ++ [Value.int x]) 4) + 0))) ≤ (-13258)
      simp only [e_2, e_4, e_5, e_24]
      exact vc_Mo_writeGroup_at_l3_14_1 (v_iv (n_v vs 2)) (v_iv (n_v vs 4)) (v_iv (n_v vs 5)) (v_iv (n_v vs 6)) (v_iv (n_v vs 8)) (v_iv (n_v vs 12)) (v_iv (n_v vs 14)) (w_fi ws (n_v vs 0) 5) (w_ei ws (w_ar ws (n_v vs 0) 2)) (w_fi ws (n_v vs 0) 170) (v_iv (Value.int x)) k2 k4 k5 k6 k8 k12 k14 d0 d1 d2 g0 f2 f3 f4 f6 f8 f9 f10 kz_0_170 ex2 ex3
  exact ⟨(fun _ h => (by cases h)), [Value.int x], ag_one hx, List.forall_mem_cons.mpr ⟨⟨show (20 : Nat) < 100 from by decide, nf0⟩, List.forall_mem_cons.mpr ⟨⟨show (23 : Nat) < 100 from by decide, nf1⟩, (fun _ h => (by cases h))⟩⟩, (fun _ h => (by cases h))⟩
set_option maxHeartbeats 4000000 in
theorem vc_Mo_writeGroup_at_l3_15_0 (x2 : Int) (x4 : Int) (x5 : Int) (x6 : Int) (x12 : Int) (x14 : Int) (x24 : Int) (all_0 : Int → Int) (r_0 : Int) (texts_0 : Int) (gx : Int) (k2 : 0 ≤ x2 ∧ x2 ≤ 99942624) (k4 : 3 ≤ x4 ∧ x4 ≤ 6) (k5 : 4 ≤ x5 ∧ x5 ≤ 7) (k6 : 5 ≤ x6 ∧ x6 ≤ 8) (k12 : 3 ≤ x12 ∧ x12 ≤ 6) (k14 : 0 ≤ x14 ∧ x14 ≤ 99999994) (k24 : 0 ≤ x24 ∧ x24 ≤ 99999992) (d0 : x4 + 0 ≤ x12 ∧ x12 ≤ x4 + 0) (d1 : x6 + (-4294967296) ≤ x5 ∧ x5 ≤ x6 + (-1)) (d2 : x5 + (-4294967296) ≤ x4 ∧ x4 ≤ x5 + (-1)) (f0 : 1 * x24 + ((-1) * x2 + ((-14128) * x5 + (14128 * x4 + 0))) ≤ (-13258)) (f1 : 1 * x14 + ((-1) * x2 + ((-14128) * x5 + (14128 * x4 + 0))) ≤ (-13264)) (f2 : 1 * x6 + ((-1) * all_0 (r_0 + 2) + 0) ≤ 0) (f3 : (-1) * x6 + (1 * all_0 (r_0 + 2) + 0) ≤ 0) (f5 : 1 * texts_0 + ((-1) * x24 + 0) ≤ 8) (f7 : 1 * x24 + ((-1) * x2 + ((-14128) * x5 + (14128 * x4 + 0))) ≤ (-13258)) (f8 : 1 * x14 + ((-1) * x2 + ((-14128) * x5 + (14128 * x4 + 0))) ≤ (-13264)) (f10 : 1 * x14 + ((-1) * x2 + ((-14128) * x5 + (14128 * x4 + 0))) ≤ (-13264)) (f11 : x12 = x4) (f12 : x5 < x6) (kz_0_170 : 0 ≤ texts_0 ∧ texts_0 ≤ 100000000) (ex2 : gx = texts_0) (ex3 : 0 ≤ gx ∧ gx ≤ 99999997) : 1 * texts_0 + ((-1) * gx + 0) ≤ 0 := by
  first | assumption | omega | grind
set_option maxHeartbeats 4000000 in
theorem vc_Mo_writeGroup_at_l3_15_1 (x2 : Int) (x4 : Int) (x5 : Int) (x6 : Int) (x12 : Int) (x14 : Int) (x24 : Int) (all_0 : Int → Int) (r_0 : Int) (texts_0 : Int) (gx : Int) (k2 : 0 ≤ x2 ∧ x2 ≤ 99942624) (k4 : 3 ≤ x4 ∧ x4 ≤ 6) (k5 : 4 ≤ x5 ∧ x5 ≤ 7) (k6 : 5 ≤ x6 ∧ x6 ≤ 8) (k12 : 3 ≤ x12 ∧ x12 ≤ 6) (k14 : 0 ≤ x14 ∧ x14 ≤ 99999994) (k24 : 0 ≤ x24 ∧ x24 ≤ 99999992) (d0 : x4 + 0 ≤ x12 ∧ x12 ≤ x4 + 0) (d1 : x6 + (-4294967296) ≤ x5 ∧ x5 ≤ x6 + (-1)) (d2 : x5 + (-4294967296) ≤ x4 ∧ x4 ≤ x5 + (-1)) (f0 : 1 * x24 + ((-1) * x2 + ((-14128) * x5 + (14128 * x4 + 0))) ≤ (-13258)) (f1 : 1 * x14 + ((-1) * x2 + ((-14128) * x5 + (14128 * x4 + 0))) ≤ (-13264)) (f2 : 1 * x6 + ((-1) * all_0 (r_0 + 2) + 0) ≤ 0) (f3 : (-1) * x6 + (1 * all_0 (r_0 + 2) + 0) ≤ 0) (f5 : 1 * texts_0 + ((-1) * x24 + 0) ≤ 8) (f7 : 1 * x24 + ((-1) * x2 + ((-14128) * x5 + (14128 * x4 + 0))) ≤ (-13258)) (f8 : 1 * x14 + ((-1) * x2 + ((-14128) * x5 + (14128 * x4 + 0))) ≤ (-13264)) (f10 : 1 * x14 + ((-1) * x2 + ((-14128) * x5 + (14128 * x4 + 0))) ≤ (-13264)) (f11 : x12 = x4) (f12 : x5 < x6) (kz_0_170 : 0 ≤ texts_0 ∧ texts_0 ≤ 100000000) (ex2 : gx = texts_0) (ex3 : 0 ≤ gx ∧ gx ≤ 99999997) : 1 * gx + ((-1) * x2 + ((-14128) * x5 + (14128 * x4 + 0))) ≤ (-13250) := by
  first | assumption | omega | grind
def o_Mo_writeGroup_at_l3_15 : or_T := (156, 26, [(0, (2, 0, 0, [165])), (2, (0, 0, 99942624, [])), (3, (2, 0, 0, [165])), (4, (0, 3, 6, [])), (5, (0, 4, 7, [])), (6, (0, 5, 8, [])), (12, (0, 3, 6, [])), (14, (0, 0, 99999994, [])), (24, (0, 0, 99999992, []))], [(23, [24, 2, 5, 4], [-13258, 1, -1, -14128, 14128]), (23, [14, 2, 5, 4], [-13264, 1, -1, -14128, 14128]), (20, [6, 3], [30, 0, 1, 0, 0, -1, 3, 2005002]), (20, [6, 3], [30, 0, -1, 0, 0, 1, 3, 2005002]), (24, [0, 3], []), (20, [3, 24], [30, 8, 1, 1, 170, -1, 0, 0]), (102, [24], [7770675568902916283677847627294075626569627356208558085007249638955617140820833992704, 165170]), (23, [24, 2, 5, 4], [-13258, 1, -1, -14128, 14128]), (23, [14, 2, 5, 4], [-13264, 1, -1, -14128, 14128]), (102, [14], [7770675568902916283677847627294075626569627356208558085007249638955617140820833992704, 165170]), (23, [14, 2, 5, 4], [-13264, 1, -1, -14128, 14128]), (7, [12, 4], [0]), (7, [5, 6], [2])], [], [(0, 0, 99999997, [])], [(20, [3, 26], [30, 0, 1, 1, 170, -1, 0, 0]), (23, [26, 2, 5, 4], [-13250, 1, -1, -14128, 14128])], [], [(12, 4, 0, 0), (5, 6, -4294967296, -1), (4, 5, -4294967296, -1)])
theorem oo_Mo_writeGroup_at_l3_15 {kA : Nat → ClassId} : or_ok PRD kA GG o_Mo_writeGroup_at_l3_15 := by
  refine or_mk fun A ta ws vs hD hth hl => ?_
  intro t0 r0 t2 k2 t3 r3 t4 k4 t5 k5 t6 k6 t12 k12 t14 k14 t24 k24 d0 d1 d2 f0 f1 f2 f3 f4 f5 ta1 w1 le1 s1 f7 f8 ta2 w2 le2 s2 f10 f11 f12
  replace f0 := shm_1937 f0
  replace f1 := shm_1936 f1
  replace f2 := shm_132 f2
  replace f3 := shm_133 f3
  replace f4 := shm_5 f4
  replace f5 := shm_172 f5
  replace f7 := shm_1937 f7
  replace f8 := shm_1936 f8
  replace f10 := shm_1936 f10
  replace f11 := shm_37 f11
  replace f12 := shm_6 f12
  have q3 : n_v vs 3 = n_v vs 0 := f4.symm
  simp only [q3] at f2 f3 f5
  have cr_0_2 := fdq_12 hD hth r0
  have kz_0_170 := fdq_13 hD hth r0
  have kv0 := fdq_13 hD hth r0
  obtain ⟨x, ex, hx⟩ := iv_ex (ta := ta) (lo := 0) (hi := 99999997) (z := w_fi ws (n_v vs 0) 170) (by omega) (by omega) (by omega) (by omega)
  have ex2 : v_iv (Value.int x) = w_fi ws (n_v vs 0) 170 := ex
  have ex3 : 0 ≤ v_iv (Value.int x) ∧ v_iv (Value.int x) ≤ 99999997 := tv_rng hx
  have e_2 : n_v (vs ++ [Value.int x]) 2 = n_v vs 2 := n_v_old (by rw [hl]; decide)
  have e_3 : n_v (vs ++ [Value.int x]) 3 = n_v vs 3 := n_v_old (by rw [hl]; decide)
  have e_4 : n_v (vs ++ [Value.int x]) 4 = n_v vs 4 := n_v_old (by rw [hl]; decide)
  have e_5 : n_v (vs ++ [Value.int x]) 5 = n_v vs 5 := n_v_old (by rw [hl]; decide)
  have e_26 : n_v (vs ++ [Value.int x]) 26 = Value.int x := n_v_new hl
  have nf0 : fc_1 PRD (20, [3, 26], [30, 0, 1, 1, 170, -1, 0, 0]) ws (vs ++ [Value.int x]) := by
    refine ⟨nf_inA hl rfl, sgq_140 ?_⟩
    · show 1 * w_fi ws (n_v (vs ++ [Value.int x]) 3) 170 + ((-1) * v_iv (n_v (vs ++ [Value.int x]) 26) + 0) ≤ 0
      simp only [e_3, e_26, q3]
      exact vc_Mo_writeGroup_at_l3_15_0 (v_iv (n_v vs 2)) (v_iv (n_v vs 4)) (v_iv (n_v vs 5)) (v_iv (n_v vs 6)) (v_iv (n_v vs 12)) (v_iv (n_v vs 14)) (v_iv (n_v vs 24)) (w_ei ws (w_ar ws (n_v vs 0) 2)) (w_fi ws (n_v vs 0) 5) (w_fi ws (n_v vs 0) 170) (v_iv (Value.int x)) k2 k4 k5 k6 k12 k14 k24 d0 d1 d2 f0 f1 f2 f3 f5 f7 f8 f10 f11 f12 kz_0_170 ex2 ex3
  have nf1 : fc_1 PRD (23, [26, 2, 5, 4], [-13250, 1, -1, -14128, 14128]) ws (vs ++ [Value.int x]) := by
    refine ⟨nf_inA hl rfl, sgq_1938 ?_⟩
    · show 1 * v_iv (n_v (vs ++ [Value.int x]) 26) + ((-1) * v_iv (n_v (vs ++ [Value.int x]) 2) + ((-14128) * v_iv (n_v (vs ++ [Value.int x]) 5) + (14128 * v_iv (n_v (vs ++ [Value.int x]) 4) + 0))) ≤ (-13250)
      simp only [e_2, e_4, e_5, e_26]
      exact vc_Mo_writeGroup_at_l3_15_1 (v_iv (n_v vs 2)) (v_iv (n_v vs 4)) (v_iv (n_v vs 5)) (v_iv (n_v vs 6)) (v_iv (n_v vs 12)) (v_iv (n_v vs 14)) (v_iv (n_v vs 24)) (w_ei ws (w_ar ws (n_v vs 0) 2)) (w_fi ws (n_v vs 0) 5) (w_fi ws (n_v vs 0) 170) (v_iv (Value.int x)) k2 k4 k5 k6 k12 k14 k24 d0 d1 d2 f0 f1 f2 f3 f5 f7 f8 f10 f11 f12 kz_0_170 ex2 ex3
  exact ⟨(fun _ h => (by cases h)), [Value.int x], ag_one hx, List.forall_mem_cons.mpr ⟨⟨show (20 : Nat) < 100 from by decide, nf0⟩, List.forall_mem_cons.mpr ⟨⟨show (23 : Nat) < 100 from by decide, nf1⟩, (fun _ h => (by cases h))⟩⟩, (fun _ h => (by cases h))⟩
set_option maxHeartbeats 4000000 in
theorem vc_Mo_writeGroup_at_l3_16_0 (x2 : Int) (x4 : Int) (x5 : Int) (x6 : Int) (x12 : Int) (x14 : Int) (x24 : Int) (x26 : Int) (all_0 : Int → Int) (r_0 : Int) (texts_0 : Int) (gx : Int) (k2 : 0 ≤ x2 ∧ x2 ≤ 99942624) (k4 : 3 ≤ x4 ∧ x4 ≤ 6) (k5 : 4 ≤ x5 ∧ x5 ≤ 7) (k6 : 5 ≤ x6 ∧ x6 ≤ 8) (k12 : 3 ≤ x12 ∧ x12 ≤ 6) (k14 : 0 ≤ x14 ∧ x14 ≤ 99999994) (k24 : 0 ≤ x24 ∧ x24 ≤ 99999992) (k26 : 0 ≤ x26 ∧ x26 ≤ 99999997) (d0 : x4 + 0 ≤ x12 ∧ x12 ≤ x4 + 0) (d1 : x6 + (-4294967296) ≤ x5 ∧ x5 ≤ x6 + (-1)) (d2 : x5 + (-4294967296) ≤ x4 ∧ x4 ≤ x5 + (-1)) (f0 : 1 * x26 + ((-1) * x2 + ((-14128) * x5 + (14128 * x4 + 0))) ≤ (-13250)) (f1 : 1 * x24 + ((-1) * x2 + ((-14128) * x5 + (14128 * x4 + 0))) ≤ (-13258)) (f2 : 1 * x14 + ((-1) * x2 + ((-14128) * x5 + (14128 * x4 + 0))) ≤ (-13264)) (f3 : 1 * x6 + ((-1) * all_0 (r_0 + 2) + 0) ≤ 0) (f4 : (-1) * x6 + (1 * all_0 (r_0 + 2) + 0) ≤ 0) (f6 : 1 * texts_0 + ((-1) * x26 + 0) ≤ 3) (f8 : 1 * x26 + ((-1) * x2 + ((-14128) * x5 + (14128 * x4 + 0))) ≤ (-13250)) (f9 : 1 * x24 + ((-1) * x2 + ((-14128) * x5 + (14128 * x4 + 0))) ≤ (-13258)) (f10 : 1 * x14 + ((-1) * x2 + ((-14128) * x5 + (14128 * x4 + 0))) ≤ (-13264)) (f12 : 1 * x24 + ((-1) * x2 + ((-14128) * x5 + (14128 * x4 + 0))) ≤ (-13258)) (f13 : 1 * x14 + ((-1) * x2 + ((-14128) * x5 + (14128 * x4 + 0))) ≤ (-13264)) (f15 : 1 * x14 + ((-1) * x2 + ((-14128) * x5 + (14128 * x4 + 0))) ≤ (-13264)) (f16 : x12 = x4) (f17 : x5 < x6) (kz_0_170 : 0 ≤ texts_0 ∧ texts_0 ≤ 100000000) (ex2 : gx = texts_0) (ex3 : 0 ≤ gx ∧ gx ≤ 99985891) : 1 * texts_0 + ((-1) * gx + 0) ≤ 0 := by
  first | assumption | omega | grind
set_option maxHeartbeats 4000000 in
theorem vc_Mo_writeGroup_at_l3_16_1 (x2 : Int) (x4 : Int) (x5 : Int) (x6 : Int) (x12 : Int) (x14 : Int) (x24 : Int) (x26 : Int) (all_0 : Int → Int) (r_0 : Int) (texts_0 : Int) (gx : Int) (k2 : 0 ≤ x2 ∧ x2 ≤ 99942624) (k4 : 3 ≤ x4 ∧ x4 ≤ 6) (k5 : 4 ≤ x5 ∧ x5 ≤ 7) (k6 : 5 ≤ x6 ∧ x6 ≤ 8) (k12 : 3 ≤ x12 ∧ x12 ≤ 6) (k14 : 0 ≤ x14 ∧ x14 ≤ 99999994) (k24 : 0 ≤ x24 ∧ x24 ≤ 99999992) (k26 : 0 ≤ x26 ∧ x26 ≤ 99999997) (d0 : x4 + 0 ≤ x12 ∧ x12 ≤ x4 + 0) (d1 : x6 + (-4294967296) ≤ x5 ∧ x5 ≤ x6 + (-1)) (d2 : x5 + (-4294967296) ≤ x4 ∧ x4 ≤ x5 + (-1)) (f0 : 1 * x26 + ((-1) * x2 + ((-14128) * x5 + (14128 * x4 + 0))) ≤ (-13250)) (f1 : 1 * x24 + ((-1) * x2 + ((-14128) * x5 + (14128 * x4 + 0))) ≤ (-13258)) (f2 : 1 * x14 + ((-1) * x2 + ((-14128) * x5 + (14128 * x4 + 0))) ≤ (-13264)) (f3 : 1 * x6 + ((-1) * all_0 (r_0 + 2) + 0) ≤ 0) (f4 : (-1) * x6 + (1 * all_0 (r_0 + 2) + 0) ≤ 0) (f6 : 1 * texts_0 + ((-1) * x26 + 0) ≤ 3) (f8 : 1 * x26 + ((-1) * x2 + ((-14128) * x5 + (14128 * x4 + 0))) ≤ (-13250)) (f9 : 1 * x24 + ((-1) * x2 + ((-14128) * x5 + (14128 * x4 + 0))) ≤ (-13258)) (f10 : 1 * x14 + ((-1) * x2 + ((-14128) * x5 + (14128 * x4 + 0))) ≤ (-13264)) (f12 : 1 * x24 + ((-1) * x2 + ((-14128) * x5 + (14128 * x4 + 0))) ≤ (-13258)) (f13 : 1 * x14 + ((-1) * x2 + ((-14128) * x5 + (14128 * x4 + 0))) ≤ (-13264)) (f15 : 1 * x14 + ((-1) * x2 + ((-14128) * x5 + (14128 * x4 + 0))) ≤ (-13264)) (f16 : x12 = x4) (f17 : x5 < x6) (kz_0_170 : 0 ≤ texts_0 ∧ texts_0 ≤ 100000000) (ex2 : gx = texts_0) (ex3 : 0 ≤ gx ∧ gx ≤ 99985891) : 1 * gx + ((-1) * x2 + ((-14128) * x5 + (14128 * x4 + 0))) ≤ (-13247) := by
  first | assumption | omega | grind
def o_Mo_writeGroup_at_l3_16 : or_T := (161, 27, [(0, (2, 0, 0, [165])), (2, (0, 0, 99942624, [])), (3, (2, 0, 0, [165])), (4, (0, 3, 6, [])), (5, (0, 4, 7, [])), (6, (0, 5, 8, [])), (12, (0, 3, 6, [])), (14, (0, 0, 99999994, [])), (24, (0, 0, 99999992, [])), (26, (0, 0, 99999997, []))], [(23, [26, 2, 5, 4], [-13250, 1, -1, -14128, 14128]), (23, [24, 2, 5, 4], [-13258, 1, -1, -14128, 14128]), (23, [14, 2, 5, 4], [-13264, 1, -1, -14128, 14128]), (20, [6, 3], [30, 0, 1, 0, 0, -1, 3, 2005002]), (20, [6, 3], [30, 0, -1, 0, 0, 1, 3, 2005002]), (24, [0, 3], []), (20, [3, 26], [30, 3, 1, 1, 170, -1, 0, 0]), (102, [26], [7770675568902916283677847627294075626569627356208558085007249638955617140820833992704, 165170]), (23, [26, 2, 5, 4], [-13250, 1, -1, -14128, 14128]), (23, [24, 2, 5, 4], [-13258, 1, -1, -14128, 14128]), (23, [14, 2, 5, 4], [-13264, 1, -1, -14128, 14128]), (102, [24], [7770675568902916283677847627294075626569627356208558085007249638955617140820833992704, 165170]), (23, [24, 2, 5, 4], [-13258, 1, -1, -14128, 14128]), (23, [14, 2, 5, 4], [-13264, 1, -1, -14128, 14128]), (102, [14], [7770675568902916283677847627294075626569627356208558085007249638955617140820833992704, 165170]), (23, [14, 2, 5, 4], [-13264, 1, -1, -14128, 14128]), (7, [12, 4], [0]), (7, [5, 6], [2])], [], [(0, 0, 99985891, [])], [(20, [3, 27], [30, 0, 1, 1, 170, -1, 0, 0]), (23, [27, 2, 5, 4], [-13247, 1, -1, -14128, 14128])], [], [(12, 4, 0, 0), (5, 6, -4294967296, -1), (4, 5, -4294967296, -1)])
theorem oo_Mo_writeGroup_at_l3_16 {kA : Nat → ClassId} : or_ok PRD kA GG o_Mo_writeGroup_at_l3_16 := by
  refine or_mk fun A ta ws vs hD hth hl => ?_
  intro t0 r0 t2 k2 t3 r3 t4 k4 t5 k5 t6 k6 t12 k12 t14 k14 t24 k24 t26 k26 d0 d1 d2 f0 f1 f2 f3 f4 f5 f6 ta1 w1 le1 s1 f8 f9 f10 ta2 w2 le2 s2 f12 f13 ta3 w3 le3 s3 f15 f16 f17
  replace f0 := shm_1938 f0
  replace f1 := shm_1937 f1
  replace f2 := shm_1936 f2
  replace f3 := shm_132 f3
  replace f4 := shm_133 f4
  replace f5 := shm_5 f5
  replace f6 := shm_236 f6
  replace f8 := shm_1938 f8
  replace f9 := shm_1937 f9
  replace f10 := shm_1936 f10
  replace f12 := shm_1937 f12
  replace f13 := shm_1936 f13
  replace f15 := shm_1936 f15
  replace f16 := shm_37 f16
  replace f17 := shm_6 f17
  have q3 : n_v vs 3 = n_v vs 0 := f5.symm
  simp only [q3] at f3 f4 f6
  have cr_0_2 := fdq_12 hD hth r0
  have kz_0_170 := fdq_13 hD hth r0
  have kv0 := fdq_13 hD hth r0
  obtain ⟨x, ex, hx⟩ := iv_ex (ta := ta) (lo := 0) (hi := 99985891) (z := w_fi ws (n_v vs 0) 170) (by omega) (by omega) (by omega) (by omega)
  have ex2 : v_iv (Value.int x) = w_fi ws (n_v vs 0) 170 := ex
  have ex3 : 0 ≤ v_iv (Value.int x) ∧ v_iv (Value.int x) ≤ 99985891 := tv_rng hx
  have e_2 : n_v (vs ++ [Value.int x]) 2 = n_v vs 2 := n_v_old (by rw [hl]; decide)
  have e_3 : n_v (vs ++ [Value.int x]) 3 = n_v vs 3 := n_v_old (by rw [hl]; decide)
  have e_4 : n_v (vs ++ [Value.int x]) 4 = n_v vs 4 := n_v_old (by rw [hl]; decide)
  have e_5 : n_v (vs ++ [Value.int x]) 5 = n_v vs 5 := n_v_old (by rw [hl]; decide)
  have e_27 : n_v (vs ++ [Value.int x]) 27 = Value.int x := n_v_new hl
  have nf0 : fc_1 PRD (20, [3, 27], [30, 0, 1, 1, 170, -1, 0, 0]) ws (vs ++ [Value.int x]) := by
    refine ⟨nf_inA hl rfl, sgq_140 ?_⟩
    · show 1 * w_fi ws (n_v (vs ++ [Value.int x]) 3) 170 + ((-1) * v_iv (n_v (vs ++ [Value.int x]) 27) + 0) ≤ 0
      simp only [e_3, e_27, q3]
      exact vc_Mo_writeGroup_at_l3_16_0 (v_iv (n_v vs 2)) (v_iv (n_v vs 4)) (v_iv (n_v vs 5)) (v_iv (n_v vs 6)) (v_iv (n_v vs 12)) (v_iv (n_v vs 14)) (v_iv (n_v vs 24)) (v_iv (n_v vs 26)) (w_ei ws (w_ar ws (n_v vs 0) 2)) (w_fi ws (n_v vs 0) 5) (w_fi ws (n_v vs 0) 170) (v_iv (Value.int x)) k2 k4 k5 k6 k12 k14 k24 k26 d0 d1 d2 f0 f1 f2 f3 f4 f6 f8 f9 f10 f12 f13 f15 f16 f17 kz_0_170 ex2 ex3
  have nf1 : fc_1 PRD (23, [27, 2, 5, 4], [-13247, 1, -1, -14128, 14128]) ws (vs ++ [Value.int x]) := by
    refine ⟨nf_inA hl rfl, sgq_1939 ?_⟩
    · show 1 * v_iv (n_v (vs ++ [Value.int x]) 27) + ((-1) * v_iv (n_v (vs ++ [Value.int x]) 2) + ((-14128) * v_iv (n_v (vs ++ [Value.int x]) 5) + (14128 * v_iv (n_v (vs ++ [Value.int x]) 4) + 0))) ≤ (-13247)
      simp only [e_2, e_4, e_5, e_27]
      exact vc_Mo_writeGroup_at_l3_16_1 (v_iv (n_v vs 2)) (v_iv (n_v vs 4)) (v_iv (n_v vs 5)) (v_iv (n_v vs 6)) (v_iv (n_v vs 12)) (v_iv (n_v vs 14)) (v_iv (n_v vs 24)) (v_iv (n_v vs 26)) (w_ei ws (w_ar ws (n_v vs 0) 2)) (w_fi ws (n_v vs 0) 5) (w_fi ws (n_v vs 0) 170) (v_iv (Value.int x)) k2 k4 k5 k6 k12 k14 k24 k26 d0 d1 d2 f0 f1 f2 f3 f4 f6 f8 f9 f10 f12 f13 f15 f16 f17 kz_0_170 ex2 ex3
  exact ⟨(fun _ h => (by cases h)), [Value.int x], ag_one hx, List.forall_mem_cons.mpr ⟨⟨show (20 : Nat) < 100 from by decide, nf0⟩, List.forall_mem_cons.mpr ⟨⟨show (23 : Nat) < 100 from by decide, nf1⟩, (fun _ h => (by cases h))⟩⟩, (fun _ h => (by cases h))⟩
set_option maxHeartbeats 4000000 in
theorem vc_Mo_writeGroup_at_l3_17_0 (x2 : Int) (x4 : Int) (x5 : Int) (x6 : Int) (x12 : Int) (x14 : Int) (x24 : Int) (x26 : Int) (x27 : Int) (all_0 : Int → Int) (r_0 : Int) (texts_0 : Int) (gx : Int) (k2 : 0 ≤ x2 ∧ x2 ≤ 99942624) (k4 : 3 ≤ x4 ∧ x4 ≤ 6) (k5 : 4 ≤ x5 ∧ x5 ≤ 7) (k6 : 5 ≤ x6 ∧ x6 ≤ 8) (k12 : 3 ≤ x12 ∧ x12 ≤ 6) (k14 : 0 ≤ x14 ∧ x14 ≤ 99999994) (k24 : 0 ≤ x24 ∧ x24 ≤ 99999992) (k26 : 0 ≤ x26 ∧ x26 ≤ 99999997) (k27 : 0 ≤ x27 ∧ x27 ≤ 99985891) (d0 : x4 + 0 ≤ x12 ∧ x12 ≤ x4 + 0) (d1 : x6 + (-4294967296) ≤ x5 ∧ x5 ≤ x6 + (-1)) (d2 : x5 + (-4294967296) ≤ x4 ∧ x4 ≤ x5 + (-1)) (f0 : 1 * x27 + ((-1) * x2 + ((-14128) * x5 + (14128 * x4 + 0))) ≤ (-13247)) (f1 : 1 * x26 + ((-1) * x2 + ((-14128) * x5 + (14128 * x4 + 0))) ≤ (-13250)) (f2 : 1 * x24 + ((-1) * x2 + ((-14128) * x5 + (14128 * x4 + 0))) ≤ (-13258)) (f3 : 1 * x14 + ((-1) * x2 + ((-14128) * x5 + (14128 * x4 + 0))) ≤ (-13264)) (f4 : 1 * x6 + ((-1) * all_0 (r_0 + 2) + 0) ≤ 0) (f5 : (-1) * x6 + (1 * all_0 (r_0 + 2) + 0) ≤ 0) (f7 : 1 * texts_0 + ((-1) * x27 + 0) ≤ 14109) (f9 : 1 * x27 + ((-1) * x2 + ((-14128) * x5 + (14128 * x4 + 0))) ≤ (-13247)) (f10 : 1 * x26 + ((-1) * x2 + ((-14128) * x5 + (14128 * x4 + 0))) ≤ (-13250)) (f11 : 1 * x24 + ((-1) * x2 + ((-14128) * x5 + (14128 * x4 + 0))) ≤ (-13258)) (f12 : 1 * x14 + ((-1) * x2 + ((-14128) * x5 + (14128 * x4 + 0))) ≤ (-13264)) (f14 : 1 * x26 + ((-1) * x2 + ((-14128) * x5 + (14128 * x4 + 0))) ≤ (-13250)) (f15 : 1 * x24 + ((-1) * x2 + ((-14128) * x5 + (14128 * x4 + 0))) ≤ (-13258)) (f16 : 1 * x14 + ((-1) * x2 + ((-14128) * x5 + (14128 * x4 + 0))) ≤ (-13264)) (f18 : 1 * x24 + ((-1) * x2 + ((-14128) * x5 + (14128 * x4 + 0))) ≤ (-13258)) (f19 : 1 * x14 + ((-1) * x2 + ((-14128) * x5 + (14128 * x4 + 0))) ≤ (-13264)) (f21 : 1 * x14 + ((-1) * x2 + ((-14128) * x5 + (14128 * x4 + 0))) ≤ (-13264)) (f22 : x12 = x4) (f23 : x5 < x6) (kz_0_170 : 0 ≤ texts_0 ∧ texts_0 ≤ 100000000) (ex2 : gx = texts_0) (ex3 : 0 ≤ gx ∧ gx ≤ 99999998) : 1 * texts_0 + ((-1) * gx + 0) ≤ 0 := by
  first | assumption | omega | grind
set_option maxHeartbeats 4000000 in
theorem vc_Mo_writeGroup_at_l3_17_1 (x2 : Int) (x4 : Int) (x5 : Int) (x6 : Int) (x12 : Int) (x14 : Int) (x24 : Int) (x26 : Int) (x27 : Int) (all_0 : Int → Int) (r_0 : Int) (texts_0 : Int) (gx : Int) (k2 : 0 ≤ x2 ∧ x2 ≤ 99942624) (k4 : 3 ≤ x4 ∧ x4 ≤ 6) (k5 : 4 ≤ x5 ∧ x5 ≤ 7) (k6 : 5 ≤ x6 ∧ x6 ≤ 8) (k12 : 3 ≤ x12 ∧ x12 ≤ 6) (k14 : 0 ≤ x14 ∧ x14 ≤ 99999994) (k24 : 0 ≤ x24 ∧ x24 ≤ 99999992) (k26 : 0 ≤ x26 ∧ x26 ≤ 99999997) (k27 : 0 ≤ x27 ∧ x27 ≤ 99985891) (d0 : x4 + 0 ≤ x12 ∧ x12 ≤ x4 + 0) (d1 : x6 + (-4294967296) ≤ x5 ∧ x5 ≤ x6 + (-1)) (d2 : x5 + (-4294967296) ≤ x4 ∧ x4 ≤ x5 + (-1)) (f0 : 1 * x27 + ((-1) * x2 + ((-14128) * x5 + (14128 * x4 + 0))) ≤ (-13247)) (f1 : 1 * x26 + ((-1) * x2 + ((-14128) * x5 + (14128 * x4 + 0))) ≤ (-13250)) (f2 : 1 * x24 + ((-1) * x2 + ((-14128) * x5 + (14128 * x4 + 0))) ≤ (-13258)) (f3 : 1 * x14 + ((-1) * x2 + ((-14128) * x5 + (14128 * x4 + 0))) ≤ (-13264)) (f4 : 1 * x6 + ((-1) * all_0 (r_0 + 2) + 0) ≤ 0) (f5 : (-1) * x6 + (1 * all_0 (r_0 + 2) + 0) ≤ 0) (f7 : 1 * texts_0 + ((-1) * x27 + 0) ≤ 14109) (f9 : 1 * x27 + ((-1) * x2 + ((-14128) * x5 + (14128 * x4 + 0))) ≤ (-13247)) (f10 : 1 * x26 + ((-1) * x2 + ((-14128) * x5 + (14128 * x4 + 0))) ≤ (-13250)) (f11 : 1 * x24 + ((-1) * x2 + ((-14128) * x5 + (14128 * x4 + 0))) ≤ (-13258)) (f12 : 1 * x14 + ((-1) * x2 + ((-14128) * x5 + (14128 * x4 + 0))) ≤ (-13264)) (f14 : 1 * x26 + ((-1) * x2 + ((-14128) * x5 + (14128 * x4 + 0))) ≤ (-13250)) (f15 : 1 * x24 + ((-1) * x2 + ((-14128) * x5 + (14128 * x4 + 0))) ≤ (-13258)) (f16 : 1 * x14 + ((-1) * x2 + ((-14128) * x5 + (14128 * x4 + 0))) ≤ (-13264)) (f18 : 1 * x24 + ((-1) * x2 + ((-14128) * x5 + (14128 * x4 + 0))) ≤ (-13258)) (f19 : 1 * x14 + ((-1) * x2 + ((-14128) * x5 + (14128 * x4 + 0))) ≤ (-13264)) (f21 : 1 * x14 + ((-1) * x2 + ((-14128) * x5 + (14128 * x4 + 0))) ≤ (-13264)) (f22 : x12 = x4) (f23 : x5 < x6) (kz_0_170 : 0 ≤ texts_0 ∧ texts_0 ≤ 100000000) (ex2 : gx = texts_0) (ex3 : 0 ≤ gx ∧ gx ≤ 99999998) : 1 * gx + ((-1) * x2 + ((-14128) * x5 + (14128 * x4 + 0))) ≤ 862 := by
  first | assumption | omega | grind
def o_Mo_writeGroup_at_l3_17 : or_T := (168, 29, [(0, (2, 0, 0, [165])), (2, (0, 0, 99942624, [])), (3, (2, 0, 0, [165])), (4, (0, 3, 6, [])), (5, (0, 4, 7, [])), (6, (0, 5, 8, [])), (12, (0, 3, 6, [])), (14, (0, 0, 99999994, [])), (24, (0, 0, 99999992, [])), (26, (0, 0, 99999997, [])), (27, (0, 0, 99985891, []))], [(23, [27, 2, 5, 4], [-13247, 1, -1, -14128, 14128]), (23, [26, 2, 5, 4], [-13250, 1, -1, -14128, 14128]), (23, [24, 2, 5, 4], [-13258, 1, -1, -14128, 14128]), (23, [14, 2, 5, 4], [-13264, 1, -1, -14128, 14128]), (20, [6, 3], [30, 0, 1, 0, 0, -1, 3, 2005002]), (20, [6, 3], [30, 0, -1, 0, 0, 1, 3, 2005002]), (24, [0, 3], []), (20, [3, 27], [30, 14109, 1, 1, 170, -1, 0, 0]), (102, [27], [7770675568902916283677847627294075626569627356208558085007249638955617140820833992704, 165170]), (23, [27, 2, 5, 4], [-13247, 1, -1, -14128, 14128]), (23, [26, 2, 5, 4], [-13250, 1, -1, -14128, 14128]), (23, [24, 2, 5, 4], [-13258, 1, -1, -14128, 14128]), (23, [14, 2, 5, 4], [-13264, 1, -1, -14128, 14128]), (102, [26], [7770675568902916283677847627294075626569627356208558085007249638955617140820833992704, 165170]), (23, [26, 2, 5, 4], [-13250, 1, -1, -14128, 14128]), (23, [24, 2, 5, 4], [-13258, 1, -1, -14128, 14128]), (23, [14, 2, 5, 4], [-13264, 1, -1, -14128, 14128]), (102, [24], [7770675568902916283677847627294075626569627356208558085007249638955617140820833992704, 165170]), (23, [24, 2, 5, 4], [-13258, 1, -1, -14128, 14128]), (23, [14, 2, 5, 4], [-13264, 1, -1, -14128, 14128]), (102, [14], [7770675568902916283677847627294075626569627356208558085007249638955617140820833992704, 165170]), (23, [14, 2, 5, 4], [-13264, 1, -1, -14128, 14128]), (7, [12, 4], [0]), (7, [5, 6], [2])], [], [(0, 0, 99999998, [])], [(20, [3, 29], [30, 0, 1, 1, 170, -1, 0, 0]), (23, [29, 2, 5, 4], [862, 1, -1, -14128, 14128])], [], [(12, 4, 0, 0), (5, 6, -4294967296, -1), (4, 5, -4294967296, -1)])
theorem oo_Mo_writeGroup_at_l3_17 {kA : Nat → ClassId} : or_ok PRD kA GG o_Mo_writeGroup_at_l3_17 := by
  refine or_mk fun A ta ws vs hD hth hl => ?_
  intro t0 r0 t2 k2 t3 r3 t4 k4 t5 k5 t6 k6 t12 k12 t14 k14 t24 k24 t26 k26 t27 k27 d0 d1 d2 f0 f1 f2 f3 f4 f5 f6 f7 ta1 w1 le1 s1 f9 f10 f11 f12 ta2 w2 le2 s2 f14 f15 f16 ta3 w3 le3 s3 f18 f19 ta4 w4 le4 s4 f21 f22 f23
  replace f0 := shm_1939 f0
  replace f1 := shm_1938 f1
  replace f2 := shm_1937 f2
  replace f3 := shm_1936 f3
  replace f4 := shm_132 f4
  replace f5 := shm_133 f5
  replace f6 := shm_5 f6
  replace f7 := shm_1940 f7
  replace f9 := shm_1939 f9
  replace f10 := shm_1938 f10
  replace f11 := shm_1937 f11
  replace f12 := shm_1936 f12
  replace f14 := shm_1938 f14
  replace f15 := shm_1937 f15
  replace f16 := shm_1936 f16
  replace f18 := shm_1937 f18
  replace f19 := shm_1936 f19
  replace f21 := shm_1936 f21
  replace f22 := shm_37 f22
  replace f23 := shm_6 f23
  have q3 : n_v vs 3 = n_v vs 0 := f6.symm
  simp only [q3] at f4 f5 f7
  have cr_0_2 := fdq_12 hD hth r0
  have kz_0_170 := fdq_13 hD hth r0
  have kv0 := fdq_13 hD hth r0
  obtain ⟨x, ex, hx⟩ := iv_ex (ta := ta) (lo := 0) (hi := 99999998) (z := w_fi ws (n_v vs 0) 170) (by omega) (by omega) (by omega) (by omega)
  have ex2 : v_iv (Value.int x) = w_fi ws (n_v vs 0) 170 := ex
  have ex3 : 0 ≤ v_iv (Value.int x) ∧ v_iv (Value.int x) ≤ 99999998 := tv_rng hx
  have e_2 : n_v (vs ++ [Value.int x]) 2 = n_v vs 2 := n_v_old (by rw [hl]; decide)
  have e_3 : n_v (vs ++ [Value.int x]) 3 = n_v vs 3 := n_v_old (by rw [hl]; decide)
  have e_4 : n_v (vs ++ [Value.int x]) 4 = n_v vs 4 := n_v_old (by rw [hl]; decide)
  have e_5 : n_v (vs ++ [Value.int x]) 5 = n_v vs 5 := n_v_old (by rw [hl]; decide)
  have e_29 : n_v (vs ++ [Value.int x]) 29 = Value.int x := n_v_new hl
  have nf0 : fc_1 PRD (20, [3, 29], [30, 0, 1, 1, 170, -1, 0, 0]) ws (vs ++ [Value.int x]) := by
    refine ⟨nf_inA hl rfl, sgq_140 ?_⟩
    · show 1 * w_fi ws (n_v (vs ++ [Value.int x]) 3) 170 + ((-1) * v_iv (n_v (vs ++ [Value.int x]) 29) + 0) ≤ 0
      simp only [e_3, e_29, q3]
      exact vc_Mo_writeGroup_at_l3_17_0 (v_iv (n_v vs 2)) (v_iv (n_v vs 4)) (v_iv (n_v vs 5)) (v_iv (n_v vs 6)) (v_iv (n_v vs 12)) (v_iv (n_v vs 14)) (v_iv (n_v vs 24)) (v_iv (n_v vs 26)) (v_iv (n_v vs 27)) (w_ei ws (w_ar ws (n_v vs 0) 2)) (w_fi ws (n_v vs 0) 5) (w_fi ws (n_v vs 0) 170) (v_iv (Value.int x)) k2 k4 k5 k6 k12 k14 k24 k26 k27 d0 d1 d2 f0 f1 f2 f3 f4 f5 f7 f9 f10 f11 f12 f14 f15 f16 f18 f19 f21 f22 f23 kz_0_170 ex2 ex3
  have nf1 : fc_1 PRD (23, [29, 2, 5, 4], [862, 1, -1, -14128, 14128]) ws (vs ++ [Value.int x]) := by
    refine ⟨nf_inA hl rfl, sgq_1941 ?_⟩
    · show 1 * v_iv (n_v (vs ++ [Value.int x]) 29) + ((-1) * v_iv (n_v (vs ++ [Value.int x]) 2) + ((-14128) * v_iv (n_v (vs ++ [Value.int x]) 5) + (14128 * v_iv (n_v (vs ++ [Value.int x]) 4) + 0))) ≤ 862
      simp only [e_2, e_4, e_5, e_29]
      exact vc_Mo_writeGroup_at_l3_17_1 (v_iv (n_v vs 2)) (v_iv (n_v vs 4)) (v_iv (n_v vs 5)) (v_iv (n_v vs 6)) (v_iv (n_v vs 12)) (v_iv (n_v vs 14)) (v_iv (n_v vs 24)) (v_iv (n_v vs 26)) (v_iv (n_v vs 27)) (w_ei ws (w_ar ws (n_v vs 0) 2)) (w_fi ws (n_v vs 0) 5) (w_fi ws (n_v vs 0) 170) (v_iv (Value.int x)) k2 k4 k5 k6 k12 k14 k24 k26 k27 d0 d1 d2 f0 f1 f2 f3 f4 f5 f7 f9 f10 f11 f12 f14 f15 f16 f18 f19 f21 f22 f23 kz_0_170 ex2 ex3
  exact ⟨(fun _ h => (by cases h)), [Value.int x], ag_one hx, List.forall_mem_cons.mpr ⟨⟨show (20 : Nat) < 100 from by decide, nf0⟩, List.forall_mem_cons.mpr ⟨⟨show (23 : Nat) < 100 from by decide, nf1⟩, (fun _ h => (by cases h))⟩⟩, (fun _ h => (by cases h))⟩
set_option maxHeartbeats 4000000 in
theorem vc_Mo_writeGroup_at_l3_18_0 (x2 : Int) (x4 : Int) (x5 : Int) (x6 : Int) (x12 : Int) (x14 : Int) (x24 : Int) (x26 : Int) (x27 : Int) (x29 : Int) (x30 : Int) (all_0 : Int → Int) (r_0 : Int) (texts_0 : Int) (k2 : 0 ≤ x2 ∧ x2 ≤ 99942624) (k4 : 3 ≤ x4 ∧ x4 ≤ 6) (k5 : 4 ≤ x5 ∧ x5 ≤ 7) (k6 : 5 ≤ x6 ∧ x6 ≤ 8) (k12 : 3 ≤ x12 ∧ x12 ≤ 6) (k14 : 0 ≤ x14 ∧ x14 ≤ 99999994) (k24 : 0 ≤ x24 ∧ x24 ≤ 99999992) (k26 : 0 ≤ x26 ∧ x26 ≤ 99999997) (k27 : 0 ≤ x27 ∧ x27 ≤ 99985891) (k29 : 0 ≤ x29 ∧ x29 ≤ 99999998) (k30 : 5 ≤ x30 ∧ x30 ≤ 8) (d0 : x5 + 1 ≤ x30 ∧ x30 ≤ x5 + 1) (d1 : x6 + (-4294967296) ≤ x30 ∧ x30 ≤ x6 + 0) (d2 : x4 + 0 ≤ x12 ∧ x12 ≤ x4 + 0) (d3 : x6 + (-4294967296) ≤ x5 ∧ x5 ≤ x6 + (-1)) (d4 : x5 + (-4294967296) ≤ x4 ∧ x4 ≤ x5 + (-1)) (f0 : x30 = x5 + 1) (f1 : 1 * x29 + ((-1) * x2 + ((-14128) * x5 + (14128 * x4 + 0))) ≤ 862) (f2 : 1 * x27 + ((-1) * x2 + ((-14128) * x5 + (14128 * x4 + 0))) ≤ (-13247)) (f3 : 1 * x26 + ((-1) * x2 + ((-14128) * x5 + (14128 * x4 + 0))) ≤ (-13250)) (f4 : 1 * x24 + ((-1) * x2 + ((-14128) * x5 + (14128 * x4 + 0))) ≤ (-13258)) (f5 : 1 * x14 + ((-1) * x2 + ((-14128) * x5 + (14128 * x4 + 0))) ≤ (-13264)) (f6 : 1 * x6 + ((-1) * all_0 (r_0 + 2) + 0) ≤ 0) (f7 : (-1) * x6 + (1 * all_0 (r_0 + 2) + 0) ≤ 0) (f9 : 1 * texts_0 + ((-1) * x29 + 0) ≤ 2) (f11 : 1 * x29 + ((-1) * x2 + ((-14128) * x5 + (14128 * x4 + 0))) ≤ 862) (f12 : 1 * x27 + ((-1) * x2 + ((-14128) * x5 + (14128 * x4 + 0))) ≤ (-13247)) (f13 : 1 * x26 + ((-1) * x2 + ((-14128) * x5 + (14128 * x4 + 0))) ≤ (-13250)) (f14 : 1 * x24 + ((-1) * x2 + ((-14128) * x5 + (14128 * x4 + 0))) ≤ (-13258)) (f15 : 1 * x14 + ((-1) * x2 + ((-14128) * x5 + (14128 * x4 + 0))) ≤ (-13264)) (f17 : 1 * x27 + ((-1) * x2 + ((-14128) * x5 + (14128 * x4 + 0))) ≤ (-13247)) (f18 : 1 * x26 + ((-1) * x2 + ((-14128) * x5 + (14128 * x4 + 0))) ≤ (-13250)) (f19 : 1 * x24 + ((-1) * x2 + ((-14128) * x5 + (14128 * x4 + 0))) ≤ (-13258)) (f20 : 1 * x14 + ((-1) * x2 + ((-14128) * x5 + (14128 * x4 + 0))) ≤ (-13264)) (f22 : 1 * x26 + ((-1) * x2 + ((-14128) * x5 + (14128 * x4 + 0))) ≤ (-13250)) (f23 : 1 * x24 + ((-1) * x2 + ((-14128) * x5 + (14128 * x4 + 0))) ≤ (-13258)) (f24 : 1 * x14 + ((-1) * x2 + ((-14128) * x5 + (14128 * x4 + 0))) ≤ (-13264)) (f26 : 1 * x24 + ((-1) * x2 + ((-14128) * x5 + (14128 * x4 + 0))) ≤ (-13258)) (f27 : 1 * x14 + ((-1) * x2 + ((-14128) * x5 + (14128 * x4 + 0))) ≤ (-13264)) (f29 : 1 * x14 + ((-1) * x2 + ((-14128) * x5 + (14128 * x4 + 0))) ≤ (-13264)) (f30 : x12 = x4) (f31 : x5 < x6) (kz_0_170 : 0 ≤ texts_0 ∧ texts_0 ≤ 100000000) : 1 * texts_0 + ((-1) * x2 + ((-14128) * x30 + (14128 * x4 + 0))) ≤ (-13264) := by
  first | assumption | omega | grind
def o_Mo_writeGroup_at_l3_18 : or_T := (83, 31, [(0, (2, 0, 0, [165])), (2, (0, 0, 99942624, [])), (4, (0, 3, 6, [])), (5, (0, 4, 7, [])), (6, (0, 5, 8, [])), (12, (0, 3, 6, [])), (14, (0, 0, 99999994, [])), (24, (0, 0, 99999992, [])), (26, (0, 0, 99999997, [])), (27, (0, 0, 99985891, [])), (29, (0, 0, 99999998, [])), (30, (0, 5, 8, []))], [(6, [30, 5], [1]), (23, [29, 2, 5, 4], [862, 1, -1, -14128, 14128]), (23, [27, 2, 5, 4], [-13247, 1, -1, -14128, 14128]), (23, [26, 2, 5, 4], [-13250, 1, -1, -14128, 14128]), (23, [24, 2, 5, 4], [-13258, 1, -1, -14128, 14128]), (23, [14, 2, 5, 4], [-13264, 1, -1, -14128, 14128]), (20, [6, 3], [30, 0, 1, 0, 0, -1, 3, 2005002]), (20, [6, 3], [30, 0, -1, 0, 0, 1, 3, 2005002]), (24, [0, 3], []), (20, [3, 29], [30, 2, 1, 1, 170, -1, 0, 0]), (102, [29], [7770675568902916283677847627294075626569627356208558085007249638955617140820833992704, 165170]), (23, [29, 2, 5, 4], [862, 1, -1, -14128, 14128]), (23, [27, 2, 5, 4], [-13247, 1, -1, -14128, 14128]), (23, [26, 2, 5, 4], [-13250, 1, -1, -14128, 14128]), (23, [24, 2, 5, 4], [-13258, 1, -1, -14128, 14128]), (23, [14, 2, 5, 4], [-13264, 1, -1, -14128, 14128]), (102, [27], [7770675568902916283677847627294075626569627356208558085007249638955617140820833992704, 165170]), (23, [27, 2, 5, 4], [-13247, 1, -1, -14128, 14128]), (23, [26, 2, 5, 4], [-13250, 1, -1, -14128, 14128]), (23, [24, 2, 5, 4], [-13258, 1, -1, -14128, 14128]), (23, [14, 2, 5, 4], [-13264, 1, -1, -14128, 14128]), (102, [26], [7770675568902916283677847627294075626569627356208558085007249638955617140820833992704, 165170]), (23, [26, 2, 5, 4], [-13250, 1, -1, -14128, 14128]), (23, [24, 2, 5, 4], [-13258, 1, -1, -14128, 14128]), (23, [14, 2, 5, 4], [-13264, 1, -1, -14128, 14128]), (102, [24], [7770675568902916283677847627294075626569627356208558085007249638955617140820833992704, 165170]), (23, [24, 2, 5, 4], [-13258, 1, -1, -14128, 14128]), (23, [14, 2, 5, 4], [-13264, 1, -1, -14128, 14128]), (102, [14], [7770675568902916283677847627294075626569627356208558085007249638955617140820833992704, 165170]), (23, [14, 2, 5, 4], [-13264, 1, -1, -14128, 14128]), (7, [12, 4], [0]), (7, [5, 6], [2])], [], [], [(20, [3, 2, 30, 4], [30, -13264, 1, 1, 170, -1, 0, 0, -14128, 0, 0, 14128, 0, 0])], [], [(30, 5, 1, 1), (30, 6, -4294967296, 0), (12, 4, 0, 0), (5, 6, -4294967296, -1), (4, 5, -4294967296, -1)])
theorem oo_Mo_writeGroup_at_l3_18 {kA : Nat → ClassId} : or_ok PRD kA GG o_Mo_writeGroup_at_l3_18 := by
  refine or_mk fun A ta ws vs hD hth hl => ?_
  intro t0 r0 t2 k2 t4 k4 t5 k5 t6 k6 t12 k12 t14 k14 t24 k24 t26 k26 t27 k27 t29 k29 t30 k30 d0 d1 d2 d3 d4 f0 f1 f2 f3 f4 f5 f6 f7 f8 f9 ta1 w1 le1 s1 f11 f12 f13 f14 f15 ta2 w2 le2 s2 f17 f18 f19 f20 ta3 w3 le3 s3 f22 f23 f24 ta4 w4 le4 s4 f26 f27 ta5 w5 le5 s5 f29 f30 f31
  replace f0 := shm_4 f0
  replace f1 := shm_1941 f1
  replace f2 := shm_1939 f2
  replace f3 := shm_1938 f3
  replace f4 := shm_1937 f4
  replace f5 := shm_1936 f5
  replace f6 := shm_132 f6
  replace f7 := shm_133 f7
  replace f8 := shm_5 f8
  replace f9 := shm_234 f9
  replace f11 := shm_1941 f11
  replace f12 := shm_1939 f12
  replace f13 := shm_1938 f13
  replace f14 := shm_1937 f14
  replace f15 := shm_1936 f15
  replace f17 := shm_1939 f17
  replace f18 := shm_1938 f18
  replace f19 := shm_1937 f19
  replace f20 := shm_1936 f20
  replace f22 := shm_1938 f22
  replace f23 := shm_1937 f23
  replace f24 := shm_1936 f24
  replace f26 := shm_1937 f26
  replace f27 := shm_1936 f27
  replace f29 := shm_1936 f29
  replace f30 := shm_37 f30
  replace f31 := shm_6 f31
  have q3 : n_v vs 3 = n_v vs 0 := f8.symm
  simp only [q3] at f6 f7 f9
  have kz_0_170 := fdq_13 hD hth r0
  have nf0 : fc_1 PRD (20, [3, 2, 30, 4], [30, -13264, 1, 1, 170, -1, 0, 0, -14128, 0, 0, 14128, 0, 0]) ws (vs) := by
    refine ⟨nf_in hl rfl, sgq_1935 ?_⟩
    · show 1 * w_fi ws (n_v vs 3) 170 + ((-1) * v_iv (n_v vs 2) + ((-14128) * v_iv (n_v vs 30) + (14128 * v_iv (n_v vs 4) + 0))) ≤ (-13264)
      rw [q3]
      exact vc_Mo_writeGroup_at_l3_18_0 (v_iv (n_v vs 2)) (v_iv (n_v vs 4)) (v_iv (n_v vs 5)) (v_iv (n_v vs 6)) (v_iv (n_v vs 12)) (v_iv (n_v vs 14)) (v_iv (n_v vs 24)) (v_iv (n_v vs 26)) (v_iv (n_v vs 27)) (v_iv (n_v vs 29)) (v_iv (n_v vs 30)) (w_ei ws (w_ar ws (n_v vs 0) 2)) (w_fi ws (n_v vs 0) 5) (w_fi ws (n_v vs 0) 170) k2 k4 k5 k6 k12 k14 k24 k26 k27 k29 k30 d0 d1 d2 d3 d4 f0 f1 f2 f3 f4 f5 f6 f7 f9 f11 f12 f13 f14 f15 f17 f18 f19 f20 f22 f23 f24 f26 f27 f29 f30 f31 kz_0_170
  refine ⟨(fun _ h => (by cases h)), [], trivial, ?_, (fun _ h => (by cases h))⟩
  rw [List.append_nil]
  exact List.forall_mem_cons.mpr ⟨⟨show (20 : Nat) < 100 from by decide, nf0⟩, (fun _ h => (by cases h))⟩
def o_Mo_writeGroup_at_l3_19 : or_T := (83, 14, [(0, (2, 0, 0, [165])), (2, (0, 0, 99942624, [])), (3, (2, 0, 0, [165])), (4, (0, 3, 6, [])), (5, (0, 4, 7, [])), (6, (0, 5, 8, [])), (7, (2, 0, 0, [167])), (8, (0, 0, 66297, [])), (9, (0, 531, 531, [])), (10, (0, 531, 66828, [])), (11, (0, 535, 66835, [])), (12, (0, -1, 6, [])), (13, (0, 5, 8, []))], [(6, [13, 5], [1]), (7, [12, 4], [1]), (10, [12, 7, 11], []), (1, [11, 10, 5], []), (1, [10, 8, 9], []), (9, [8, 3], [5]), (9, [7, 3], [2]), (7, [5, 6], [2]), (20, [6, 3], [30, 0, 1, 0, 0, -1, 3, 2005002]), (20, [6, 3], [30, 0, -1, 0, 0, 1, 3, 2005002]), (20, [3, 2, 5, 4], [30, -13264, 1, 1, 170, -1, 0, 0, -14128, 0, 0, 14128, 0, 0]), (24, [0, 3], [])], [], [], [(20, [3, 2, 13, 4], [30, -13264, 1, 1, 170, -1, 0, 0, -14128, 0, 0, 14128, 0, 0])], [], [(13, 5, 1, 1), (13, 6, -4294967296, 0), (11, 5, 531, 66828), (11, 6, -4294967296, 66827), (11, 10, 4, 7), (11, 8, 535, 538), (10, 8, 531, 531), (5, 6, -4294967296, -1), (4, 5, -4294967296, -1)])
theorem oo_Mo_writeGroup_at_l3_19 {kA : Nat → ClassId} : or_ok PRD kA GG o_Mo_writeGroup_at_l3_19 := by
  refine or_mk fun A ta ws vs hD hth hl => ?_
  intro t0 r0 t2 k2 t3 r3 t4 k4 t5 k5 t6 k6 t7 r7 t8 k8 t9 k9 t10 k10 t11 k11 t12 k12 t13 k13 d0 d1 d2 d3 d4 d5 d6 d7 d8 f0 f1 f2 f3 f4 f5 f6 f7 f8 f9 f10 f11
  replace f0 := shm_4 f0
  replace f1 := shm_40 f1
  replace f2 := shm_106 f2
  replace f3 := shm_12 f3
  replace f4 := shm_12 f4
  replace f5 := shm_109 f5
  replace f6 := shm_129 f6
  replace f7 := shm_6 f7
  replace f8 := shm_132 f8
  replace f9 := shm_133 f9
  replace f10 := shm_1935 f10
  replace f11 := shm_5 f11
  have q3 : n_v vs 3 = n_v vs 0 := f11.symm
  simp only [q3] at f5 f6 f8 f9 f10
  have cr_0_2 := fdq_12 hD hth r0
  have ad_7 : v_ad (n_v vs 7) = w_ar ws (n_v vs 0) 2 := congrArg v_ad f6
  simp only [ad_7] at f2
  have h2 : v_iv (n_v vs 12) = w_ei ws (w_ar ws (n_v vs 0) 2) (v_iv (n_v vs 11)) := f2
  have g5 : v_iv (n_v vs 8) = w_fi ws (n_v vs 0) 5 := congrArg v_iv f5
  have cg2_F5_2 : v_iv (n_v vs 11) = w_fi ws (n_v vs 0) 5 + 2 → w_el ws (w_ar ws (n_v vs 0) 2) (v_iv (n_v vs 11)).toNat = w_el ws (w_ar ws (n_v vs 0) 2) (w_fi ws (n_v vs 0) 5 + 2).toNat := fun h => by rw [h]
  have kz_0_170 := fdq_13 hD hth r0
  have nf0 : fc_1 PRD (20, [3, 2, 13, 4], [30, -13264, 1, 1, 170, -1, 0, 0, -14128, 0, 0, 14128, 0, 0]) ws (vs) := by
    refine ⟨nf_in hl rfl, sgq_1935 ?_⟩
    · show 1 * w_fi ws (n_v vs 3) 170 + ((-1) * v_iv (n_v vs 2) + ((-14128) * v_iv (n_v vs 13) + (14128 * v_iv (n_v vs 4) + 0))) ≤ (-13264)
      rw [q3]
      omega
  refine ⟨(fun _ h => (by cases h)), [], trivial, ?_, (fun _ h => (by cases h))⟩
  rw [List.append_nil]
  exact List.forall_mem_cons.mpr ⟨⟨show (20 : Nat) < 100 from by decide, nf0⟩, (fun _ h => (by cases h))⟩
def n_Mo_writeGroup_at_l3_an : List an_T := [(2, [(0, (2, 0, 0, [165])), (1, (0, 3, 7, [])), (2, (0, 0, 24, []))], [], (0, 0), [(0, 0, 99998), (1, 5, 24), (0, 0, 100000)], [(1, 4, (Int.negSucc 999999999999), 0), (4, 1, (Int.negSucc 999999999999), 0)], [], [(2, 0, 0, [165]), (0, 3, 7, []), (0, 0, 99942624, [])], 0, [], [(20, [3, 2, 5], [30, 0, 1, 1, 170, (Int.negSucc 0), 0, 0, (Int.negSucc 35), 0, 0]), (24, [0, 3], [])]), (83, [(0, (2, 0, 0, [165])), (1, (0, 3, 7, [])), (2, (0, 4, 8, []))], [], (0, 0), [(0, 0, 99917), (1, 5, 8), (0, 0, 100000)], [(1, 4, (Int.negSucc 999999999999), 0), (1, 5, (Int.negSucc 999999999999), (Int.negSucc 0)), (4, 1, (Int.negSucc 999999999999), 0), (4, 5, (Int.negSucc 999999999999), (Int.negSucc 0))], [], [(2, 0, 0, [165]), (0, 3, 7, []), (0, 0, 99942624, [])], 0, [], [(20, [3, 2, 5, 4], [30, (Int.negSucc 13263), 1, 1, 170, (Int.negSucc 0), 0, 0, (Int.negSucc 14127), 0, 0, 14128, 0, 0]), (24, [0, 3], [])])]
def t_Mo_writeGroup_at_l3_ct : ct_L := [(1, 475, e_Mo_nodes), (1, 509, e_Mo_groups), (1, 723, e_Mo_size), (1, 725, e_Mo_groupOf), (1, 1285, e_Mo_writeName), (1, 1293, e_Mo_writeNode), (1, 1298, e_Mo_writeNumber), (82, 1290, e_Mo_write_at_s5013), (145, 1290, e_Mo_write_at_s5014), (193, 1290, e_Mo_write_at_s5045), (214, 1290, e_Mo_write_at_s5015), (355, 1290, e_Mo_write_at_s5016), (472, 1290, e_Mo_write_at_s5017), (487, 1309, e_Mo_writeGroup_at_l4), (508, 1290, e_Mo_write_at_s5018), (1000001, 1288, en_ro [] (2, 0, 0, [5013])), (1000001, 1296, en_ro [] (2, 0, 0, [5014])), (1000001, 1301, en_ro [] (2, 0, 0, [5045])), (1000001, 1303, en_ro [] (2, 0, 0, [5015])), (1000001, 1305, en_ro [] (2, 0, 0, [5016])), (1000001, 1307, en_ro [] (2, 0, 0, [5017])), (1000001, 1312, en_ro [] (2, 0, 0, [5018]))]
set_option maxRecDepth 100000 in
theorem c_Mo_writeGroup_at_l3 {l : Launch} {D : va_G} {kA : Nat → ClassId} (h_Mo_groupOf : ct_ok PRD l D kA GG y_Mo_groupOf z_Mo_groupOf e_Mo_groupOf) (h_Mo_groups : ct_ok PRD l D kA GG y_Mo_groups z_Mo_groups e_Mo_groups) (h_Mo_nodes : ct_ok PRD l D kA GG y_Mo_nodes z_Mo_nodes e_Mo_nodes) (h_Mo_size : ct_ok PRD l D kA GG y_Mo_size z_Mo_size e_Mo_size) (h_Mo_writeGroup_at_l4 : ct_ok PRD l D kA GG y_Mo_writeGroup_at_l4 z_Mo_writeGroup_at_l4 e_Mo_writeGroup_at_l4) (h_Mo_writeName : ct_ok PRD l D kA GG y_Mo_writeName z_Mo_writeName e_Mo_writeName) (h_Mo_writeNode : ct_ok PRD l D kA GG y_Mo_writeNode z_Mo_writeNode e_Mo_writeNode) (h_Mo_writeNumber : ct_ok PRD l D kA GG y_Mo_writeNumber z_Mo_writeNumber e_Mo_writeNumber) (h_Mo_write_at_s5013 : ct_ok PRD l D kA GG y_Mo_write_at_s5013 z_Mo_write_at_s5013 e_Mo_write_at_s5013) (h_Mo_write_at_s5014 : ct_ok PRD l D kA GG y_Mo_write_at_s5014 z_Mo_write_at_s5014 e_Mo_write_at_s5014) (h_Mo_write_at_s5015 : ct_ok PRD l D kA GG y_Mo_write_at_s5015 z_Mo_write_at_s5015 e_Mo_write_at_s5015) (h_Mo_write_at_s5016 : ct_ok PRD l D kA GG y_Mo_write_at_s5016 z_Mo_write_at_s5016 e_Mo_write_at_s5016) (h_Mo_write_at_s5017 : ct_ok PRD l D kA GG y_Mo_write_at_s5017 z_Mo_write_at_s5017 e_Mo_write_at_s5017) (h_Mo_write_at_s5018 : ct_ok PRD l D kA GG y_Mo_write_at_s5018 z_Mo_write_at_s5018 e_Mo_write_at_s5018) (h_Mo_write_at_s5045 : ct_ok PRD l D kA GG y_Mo_write_at_s5045 z_Mo_write_at_s5045 e_Mo_write_at_s5045) : ct_ok PRD l D kA GG y_Mo_writeGroup_at_l3 z_Mo_writeGroup_at_l3 e_Mo_writeGroup_at_l3 := chk_all_ok (FT := [(16, 13, 2), (391, 13, 5)]) (PT := []) (CT := t_Mo_writeGroup_at_l3_ct) (KT := []) (NT := []) (AN := n_Mo_writeGroup_at_l3_an) (OT := [o_Mo_writeGroup_at_l3_0, o_Mo_writeGroup_at_l3_1, o_Mo_writeGroup_at_l3_2, o_Mo_writeGroup_at_l3_3, o_Mo_writeGroup_at_l3_4, o_Mo_writeGroup_at_l3_5, o_Mo_writeGroup_at_l3_6, o_Mo_writeGroup_at_l3_7, o_Mo_writeGroup_at_l3_8, o_Mo_writeGroup_at_l3_9, o_Mo_writeGroup_at_l3_10, o_Mo_writeGroup_at_l3_11, o_Mo_writeGroup_at_l3_12, o_Mo_writeGroup_at_l3_13, o_Mo_writeGroup_at_l3_14, o_Mo_writeGroup_at_l3_15, o_Mo_writeGroup_at_l3_16, o_Mo_writeGroup_at_l3_17, o_Mo_writeGroup_at_l3_18, o_Mo_writeGroup_at_l3_19]) 3 408 (List.forall_mem_cons.mpr ⟨oo_Mo_writeGroup_at_l3_0, List.forall_mem_cons.mpr ⟨oo_Mo_writeGroup_at_l3_1, List.forall_mem_cons.mpr ⟨oo_Mo_writeGroup_at_l3_2, List.forall_mem_cons.mpr ⟨oo_Mo_writeGroup_at_l3_3, List.forall_mem_cons.mpr ⟨oo_Mo_writeGroup_at_l3_4, List.forall_mem_cons.mpr ⟨oo_Mo_writeGroup_at_l3_5, List.forall_mem_cons.mpr ⟨oo_Mo_writeGroup_at_l3_6, List.forall_mem_cons.mpr ⟨oo_Mo_writeGroup_at_l3_7, List.forall_mem_cons.mpr ⟨oo_Mo_writeGroup_at_l3_8, List.forall_mem_cons.mpr ⟨oo_Mo_writeGroup_at_l3_9, List.forall_mem_cons.mpr ⟨oo_Mo_writeGroup_at_l3_10, List.forall_mem_cons.mpr ⟨oo_Mo_writeGroup_at_l3_11, List.forall_mem_cons.mpr ⟨oo_Mo_writeGroup_at_l3_12, List.forall_mem_cons.mpr ⟨oo_Mo_writeGroup_at_l3_13, List.forall_mem_cons.mpr ⟨oo_Mo_writeGroup_at_l3_14, List.forall_mem_cons.mpr ⟨oo_Mo_writeGroup_at_l3_15, List.forall_mem_cons.mpr ⟨oo_Mo_writeGroup_at_l3_16, List.forall_mem_cons.mpr ⟨oo_Mo_writeGroup_at_l3_17, List.forall_mem_cons.mpr ⟨oo_Mo_writeGroup_at_l3_18, List.forall_mem_cons.mpr ⟨oo_Mo_writeGroup_at_l3_19, List.forall_mem_nil _⟩⟩⟩⟩⟩⟩⟩⟩⟩⟩⟩⟩⟩⟩⟩⟩⟩⟩⟩⟩) (by decide +kernel) ⟨List.forall_mem_cons.mpr ⟨gf_Mo_16, List.forall_mem_cons.mpr ⟨gf_Mo_391, List.forall_mem_nil _⟩⟩, List.forall_mem_nil _, List.forall_mem_cons.mpr ⟨cl_virtual (y := y_Mo_nodes) (ci := 13) rfl rfl ⟨_, _, rfl⟩ (by decide +kernel) h_Mo_nodes wm_3025 wm_9 wm_3022 wm_3024 wv_13_3 ⟨by decide, by decide, by decide +kernel⟩ (by decide), List.forall_mem_cons.mpr ⟨cl_virtual (y := y_Mo_groups) (ci := 13) rfl rfl ⟨_, _, rfl⟩ (by decide +kernel) h_Mo_groups wm_3070 wm_9 wm_3067 wm_3069 wv_13_14 ⟨by decide, by decide, by decide +kernel⟩ (by decide), List.forall_mem_cons.mpr ⟨cl_virtual (y := y_Mo_size) (ci := 13) rfl rfl ⟨_, _, rfl⟩ (by decide +kernel) h_Mo_size wm_3307 wm_9 wm_3304 wm_3306 wv_17_0 ⟨by decide, by decide, by decide +kernel⟩ (by decide), List.forall_mem_cons.mpr ⟨cl_virtual (y := y_Mo_groupOf) (ci := 13) rfl rfl ⟨_, _, rfl⟩ (by decide +kernel) h_Mo_groupOf wm_3311 wm_9 wm_3308 wm_3310 wv_17_1 ⟨by decide, by decide, by decide +kernel⟩ (by decide), List.forall_mem_cons.mpr ⟨cl_virtual (y := y_Mo_writeName) (ci := 13) rfl rfl ⟨_, _, rfl⟩ (by decide +kernel) h_Mo_writeName wm_3922 wm_9 wm_3919 wm_3921 wv_24_10 ⟨by decide, by decide, by decide +kernel⟩ (by decide), List.forall_mem_cons.mpr ⟨cl_virtual (y := y_Mo_writeNode) (ci := 13) rfl rfl ⟨_, _, rfl⟩ (by decide +kernel) h_Mo_writeNode wm_3918 wm_9 wm_3915 wm_3917 wv_24_9 ⟨by decide, by decide, by decide +kernel⟩ (by decide), List.forall_mem_cons.mpr ⟨cl_virtual (y := y_Mo_writeNumber) (ci := 13) rfl rfl ⟨_, _, rfl⟩ (by decide +kernel) h_Mo_writeNumber wm_3927 wm_9 wm_3924 wm_3926 wv_24_11 ⟨by decide, by decide, by decide +kernel⟩ (by decide), List.forall_mem_cons.mpr ⟨cl_virtual (y := y_Mo_write_at_s5013) (ci := 13) rfl rfl ⟨_, _, rfl⟩ (by decide +kernel) h_Mo_write_at_s5013 wm_3910 wm_9 wm_3907 wm_3909 wv_24_7 ⟨by decide, by decide, by decide +kernel⟩ (by decide), List.forall_mem_cons.mpr ⟨cl_virtual (y := y_Mo_write_at_s5014) (ci := 13) rfl rfl ⟨_, _, rfl⟩ (by decide +kernel) h_Mo_write_at_s5014 wm_3910 wm_9 wm_3907 wm_3909 wv_24_7 ⟨by decide, by decide, by decide +kernel⟩ (by decide), List.forall_mem_cons.mpr ⟨cl_virtual (y := y_Mo_write_at_s5045) (ci := 13) rfl rfl ⟨_, _, rfl⟩ (by decide +kernel) h_Mo_write_at_s5045 wm_3910 wm_9 wm_3907 wm_3909 wv_24_7 ⟨by decide, by decide, by decide +kernel⟩ (by decide), List.forall_mem_cons.mpr ⟨cl_virtual (y := y_Mo_write_at_s5015) (ci := 13) rfl rfl ⟨_, _, rfl⟩ (by decide +kernel) h_Mo_write_at_s5015 wm_3910 wm_9 wm_3907 wm_3909 wv_24_7 ⟨by decide, by decide, by decide +kernel⟩ (by decide), List.forall_mem_cons.mpr ⟨cl_virtual (y := y_Mo_write_at_s5016) (ci := 13) rfl rfl ⟨_, _, rfl⟩ (by decide +kernel) h_Mo_write_at_s5016 wm_3910 wm_9 wm_3907 wm_3909 wv_24_7 ⟨by decide, by decide, by decide +kernel⟩ (by decide), List.forall_mem_cons.mpr ⟨cl_virtual (y := y_Mo_write_at_s5017) (ci := 13) rfl rfl ⟨_, _, rfl⟩ (by decide +kernel) h_Mo_write_at_s5017 wm_3910 wm_9 wm_3907 wm_3909 wv_24_7 ⟨by decide, by decide, by decide +kernel⟩ (by decide), List.forall_mem_cons.mpr ⟨cl_virtual (y := y_Mo_writeGroup_at_l4) (ci := 13) rfl rfl ⟨_, _, rfl⟩ (by decide +kernel) h_Mo_writeGroup_at_l4 wm_3905 wm_9 wm_3902 wm_3904 wv_24_6 ⟨by decide, by decide, by decide +kernel⟩ (by decide), List.forall_mem_cons.mpr ⟨cl_virtual (y := y_Mo_write_at_s5018) (ci := 13) rfl rfl ⟨_, _, rfl⟩ (by decide +kernel) h_Mo_write_at_s5018 wm_3910 wm_9 wm_3907 wm_3909 wv_24_7 ⟨by decide, by decide, by decide +kernel⟩ (by decide), List.forall_mem_cons.mpr ⟨cl_ldcw (own := "DrawingHouseModel") (idx := 1288) (i := 13) (tx := "node ") (by decide +kernel) (by decide +kernel) (by decide +kernel), List.forall_mem_cons.mpr ⟨cl_ldcw (own := "DrawingHouseModel") (idx := 1296) (i := 14) (tx := " [size=") (by decide +kernel) (by decide +kernel) (by decide +kernel), List.forall_mem_cons.mpr ⟨cl_ldcw (own := "DrawingHouseModel") (idx := 1301) (i := 45) (tx := "]") (by decide +kernel) (by decide +kernel) (by decide +kernel), List.forall_mem_cons.mpr ⟨cl_ldcw (own := "DrawingHouseModel") (idx := 1303) (i := 15) (tx := ";\n") (by decide +kernel) (by decide +kernel) (by decide +kernel), List.forall_mem_cons.mpr ⟨cl_ldcw (own := "DrawingHouseModel") (idx := 1305) (i := 16) (tx := "group ") (by decide +kernel) (by decide +kernel) (by decide +kernel), List.forall_mem_cons.mpr ⟨cl_ldcw (own := "DrawingHouseModel") (idx := 1307) (i := 17) (tx := " {\n") (by decide +kernel) (by decide +kernel) (by decide +kernel), List.forall_mem_cons.mpr ⟨cl_ldcw (own := "DrawingHouseModel") (idx := 1312) (i := 18) (tx := "}\n") (by decide +kernel) (by decide +kernel) (by decide +kernel), List.forall_mem_nil _⟩⟩⟩⟩⟩⟩⟩⟩⟩⟩⟩⟩⟩⟩⟩⟩⟩⟩⟩⟩⟩⟩, List.forall_mem_nil _, List.forall_mem_nil _, GG_pl⟩ (by decide +kernel)

set_option maxHeartbeats 4000000 in
theorem vc_Mo_writeGroup_at_l4_0_0 (x2 : Int) (x3 : Int) (texts_0 : Int) (k2 : 0 ≤ x2 ∧ x2 ≤ 99985891) (k3 : 0 ≤ x3 ∧ x3 ≤ 0) (f0 : 1 * texts_0 + ((-1) * x2 + 0) ≤ 0) (kz_0_170 : 0 ≤ texts_0 ∧ texts_0 ≤ 100000000) : 1 * texts_0 + ((-1) * x2 + ((-36) * x3 + 0)) ≤ 0 := by
  first | assumption | omega | grind
def o_Mo_writeGroup_at_l4_0 : or_T := (2, 4, [(0, (2, 0, 0, [165])), (2, (0, 0, 99985891, [])), (3, (0, 0, 0, []))], [(20, [0, 2], [30, 0, 1, 1, 170, -1, 0, 0])], [], [], [(20, [0, 2, 3], [30, 0, 1, 1, 170, -1, 0, 0, -36, 0, 0]), (24, [0, 0], [])], [], [])
theorem oo_Mo_writeGroup_at_l4_0 {kA : Nat → ClassId} : or_ok PRD kA GG o_Mo_writeGroup_at_l4_0 := by
  refine or_mk fun A ta ws vs hD hth hl => ?_
  intro t0 r0 t2 k2 t3 k3 f0
  have kz_0_170 := fdq_13 hD hth r0
  have nf0 : fc_1 PRD (20, [0, 2, 3], [30, 0, 1, 1, 170, -1, 0, 0, -36, 0, 0]) ws (vs) := ⟨nf_in hl rfl, sgq_1906 (vc_Mo_writeGroup_at_l4_0_0 (v_iv (n_v vs 2)) (v_iv (n_v vs 3)) (w_fi ws (n_v vs 0) 170) k2 k3 (shm_140 f0) kz_0_170)⟩
  have nf1 : fc_1 PRD (24, [0, 0], []) ws (vs) := by
    refine ⟨nf_in hl rfl, sgq_1 ?_⟩
    · show n_v vs 0 = n_v vs 0
      first | rfl | simp only [true_and]
  refine ⟨(fun _ h => (by cases h)), [], trivial, ?_, (fun _ h => (by cases h))⟩
  rw [List.append_nil]
  exact List.forall_mem_cons.mpr ⟨⟨show (20 : Nat) < 100 from by decide, nf0⟩, List.forall_mem_cons.mpr ⟨⟨show (24 : Nat) < 100 from by decide, nf1⟩, (fun _ h => (by cases h))⟩⟩
set_option maxHeartbeats 4000000 in
theorem vc_Mo_writeGroup_at_l4_1_0 (x2 : Int) (x4 : Int) (x5 : Int) (x6 : Int) (x7 : Int) (x8 : Int) (all_0 : Int → Int) (r_0 : Int) (texts_0 : Int) (k2 : 0 ≤ x2 ∧ x2 ≤ 99985891) (k4 : 4 ≤ x4 ∧ x4 ≤ 7) (k5 : 0 ≤ x5 ∧ x5 ≤ 24) (k6 : 0 ≤ x6 ∧ x6 ≤ 24) (k7 : 1 ≤ x7 ∧ x7 ≤ 1) (k8 : 5 ≤ x8 ∧ x8 ≤ 8) (d0 : x4 + 1 ≤ x8 ∧ x8 ≤ x4 + 1) (d1 : x6 + 0 ≤ x5 ∧ x5 ≤ x6 + 4294967296) (f0 : x8 = x4 + x7) (f1 : x6 ≤ x5) (f2 : 1 * x6 + ((-1) * all_0 (r_0 + 0) + 0) ≤ 0) (f3 : (-1) * x6 + (1 * all_0 (r_0 + 0) + 0) ≤ 0) (f4 : 1 * texts_0 + ((-1) * x2 + ((-36) * x5 + 0)) ≤ 0) (kz_0_170 : 0 ≤ texts_0 ∧ texts_0 ≤ 100000000) : 1 * texts_0 + ((-1) * x2 + ((-4415) * x8 + (4415 * x4 + 0))) ≤ (-3551) := by
  first | assumption | omega | grind
def o_Mo_writeGroup_at_l4_1 : or_T := (83, 9, [(0, (2, 0, 0, [165])), (2, (0, 0, 99985891, [])), (4, (0, 4, 7, [])), (5, (0, 0, 24, [])), (6, (0, 0, 24, [])), (7, (0, 1, 1, [])), (8, (0, 5, 8, []))], [(1, [8, 4, 7], []), (7, [5, 6], [3]), (20, [6, 3], [30, 0, 1, 0, 0, -1, 3, 2005000]), (20, [6, 3], [30, 0, -1, 0, 0, 1, 3, 2005000]), (20, [3, 2, 5], [30, 0, 1, 1, 170, -1, 0, 0, -36, 0, 0]), (24, [0, 3], [])], [], [], [(20, [3, 2, 8, 4], [30, -3551, 1, 1, 170, -1, 0, 0, -4415, 0, 0, 4415, 0, 0])], [], [(8, 4, 1, 1), (5, 6, 0, 4294967296)])
theorem oo_Mo_writeGroup_at_l4_1 {kA : Nat → ClassId} : or_ok PRD kA GG o_Mo_writeGroup_at_l4_1 := by
  refine or_mk fun A ta ws vs hD hth hl => ?_
  intro t0 r0 t2 k2 t4 k4 t5 k5 t6 k6 t7 k7 t8 k8 d0 d1 f0 f1 f2 f3 f4 f5
  replace f0 := shm_12 f0
  replace f1 := shm_2 f1
  replace f2 := shm_135 f2
  replace f3 := shm_136 f3
  replace f4 := shm_1906 f4
  replace f5 := shm_5 f5
  have q3 : n_v vs 3 = n_v vs 0 := f5.symm
  simp only [q3] at f2 f3 f4
  have kz_0_170 := fdq_13 hD hth r0
  have nf0 : fc_1 PRD (20, [3, 2, 8, 4], [30, -3551, 1, 1, 170, -1, 0, 0, -4415, 0, 0, 4415, 0, 0]) ws (vs) := by
    refine ⟨nf_in hl rfl, sgq_1942 ?_⟩
    · show 1 * w_fi ws (n_v vs 3) 170 + ((-1) * v_iv (n_v vs 2) + ((-4415) * v_iv (n_v vs 8) + (4415 * v_iv (n_v vs 4) + 0))) ≤ (-3551)
      rw [q3]
      exact vc_Mo_writeGroup_at_l4_1_0 (v_iv (n_v vs 2)) (v_iv (n_v vs 4)) (v_iv (n_v vs 5)) (v_iv (n_v vs 6)) (v_iv (n_v vs 7)) (v_iv (n_v vs 8)) (w_ei ws (w_ar ws (n_v vs 0) 2)) (w_fi ws (n_v vs 0) 5) (w_fi ws (n_v vs 0) 170) k2 k4 k5 k6 k7 k8 d0 d1 f0 f1 f2 f3 f4 kz_0_170
  refine ⟨(fun _ h => (by cases h)), [], trivial, ?_, (fun _ h => (by cases h))⟩
  rw [List.append_nil]
  exact List.forall_mem_cons.mpr ⟨⟨show (20 : Nat) < 100 from by decide, nf0⟩, (fun _ h => (by cases h))⟩
set_option maxHeartbeats 4000000 in
theorem vc_Mo_writeGroup_at_l4_2_0 (x2 : Int) (x4 : Int) (x5 : Int) (x6 : Int) (x7 : Int) (all_0 : Int → Int) (r_0 : Int) (texts_0 : Int) (gx : Int) (k2 : 0 ≤ x2 ∧ x2 ≤ 99985891) (k4 : 4 ≤ x4 ∧ x4 ≤ 7) (k5 : 0 ≤ x5 ∧ x5 ≤ 23) (k6 : 1 ≤ x6 ∧ x6 ≤ 24) (k7 : 4 ≤ x7 ∧ x7 ≤ 7) (d0 : x4 + 0 ≤ x7 ∧ x7 ≤ x4 + 0) (d1 : x6 + (-4294967296) ≤ x5 ∧ x5 ≤ x6 + (-1)) (f0 : x7 = x4) (f1 : x7 = all_0 (((r_0 + 243) + x5))) (f2 : x5 < x6) (f3 : 1 * x6 + ((-1) * all_0 (r_0 + 0) + 0) ≤ 0) (f4 : (-1) * x6 + (1 * all_0 (r_0 + 0) + 0) ≤ 0) (f5 : 1 * texts_0 + ((-1) * x2 + ((-36) * x5 + 0)) ≤ 0) (kz_0_170 : 0 ≤ texts_0 ∧ texts_0 ≤ 100000000) (ex2 : gx = texts_0) (ex3 : 0 ≤ gx ∧ gx ≤ 99999995) : 1 * texts_0 + ((-1) * gx + 0) ≤ 0 := by
  first | assumption | omega | grind
set_option maxHeartbeats 4000000 in
theorem vc_Mo_writeGroup_at_l4_2_1 (x2 : Int) (x4 : Int) (x5 : Int) (x6 : Int) (x7 : Int) (all_0 : Int → Int) (r_0 : Int) (texts_0 : Int) (gx : Int) (k2 : 0 ≤ x2 ∧ x2 ≤ 99985891) (k4 : 4 ≤ x4 ∧ x4 ≤ 7) (k5 : 0 ≤ x5 ∧ x5 ≤ 23) (k6 : 1 ≤ x6 ∧ x6 ≤ 24) (k7 : 4 ≤ x7 ∧ x7 ≤ 7) (d0 : x4 + 0 ≤ x7 ∧ x7 ≤ x4 + 0) (d1 : x6 + (-4294967296) ≤ x5 ∧ x5 ≤ x6 + (-1)) (f0 : x7 = x4) (f1 : x7 = all_0 (((r_0 + 243) + x5))) (f2 : x5 < x6) (f3 : 1 * x6 + ((-1) * all_0 (r_0 + 0) + 0) ≤ 0) (f4 : (-1) * x6 + (1 * all_0 (r_0 + 0) + 0) ≤ 0) (f5 : 1 * texts_0 + ((-1) * x2 + ((-36) * x5 + 0)) ≤ 0) (kz_0_170 : 0 ≤ texts_0 ∧ texts_0 ≤ 100000000) (ex2 : gx = texts_0) (ex3 : 0 ≤ gx ∧ gx ≤ 99999995) : 1 * gx + ((-1) * x2 + ((-36) * x5 + 0)) ≤ 0 := by
  first | assumption | omega | grind
def o_Mo_writeGroup_at_l4_2 : or_T := (26, 9, [(0, (2, 0, 0, [165])), (2, (0, 0, 99985891, [])), (3, (2, 0, 0, [165])), (4, (0, 4, 7, [])), (5, (0, 0, 23, [])), (6, (0, 1, 24, [])), (7, (0, 4, 7, []))], [(7, [7, 4], [0]), (20, [7, 3, 5], [50, 1, 1, 1005, 1002, 1, 2, 1, 0, 3, 1, 2, 4, 7, 4, 3, 2, 1, 5, 0, 243, 1, 2]), (7, [5, 6], [2]), (20, [6, 3], [30, 0, 1, 0, 0, -1, 3, 2005000]), (20, [6, 3], [30, 0, -1, 0, 0, 1, 3, 2005000]), (20, [3, 2, 5], [30, 0, 1, 1, 170, -1, 0, 0, -36, 0, 0]), (24, [0, 3], [])], [], [(0, 0, 99999995, [])], [(20, [3, 9], [30, 0, 1, 1, 170, -1, 0, 0]), (23, [9, 2, 5], [0, 1, -1, -36])], [], [(7, 4, 0, 0), (5, 6, -4294967296, -1)])
theorem oo_Mo_writeGroup_at_l4_2 {kA : Nat → ClassId} : or_ok PRD kA GG o_Mo_writeGroup_at_l4_2 := by
  refine or_mk fun A ta ws vs hD hth hl => ?_
  intro t0 r0 t2 k2 t3 r3 t4 k4 t5 k5 t6 k6 t7 k7 d0 d1 f0 f1 f2 f3 f4 f5 f6
  replace f0 := shm_37 f0
  replace f1 := shm_585 f1
  replace f2 := shm_6 f2
  replace f3 := shm_135 f3
  replace f4 := shm_136 f4
  replace f5 := shm_1906 f5
  replace f6 := shm_5 f6
  have q3 : n_v vs 3 = n_v vs 0 := f6.symm
  simp only [q3] at f1 f3 f4 f5
  have cr_0_2 := fdq_12 hD hth r0
  have br_0_2_F5_0_0 : w_ei ws (w_ar ws (n_v vs 0) 2) (w_fi ws (n_v vs 0) 5 + 0) = w_el ws (w_ar ws (n_v vs 0) 2) (w_fi ws (n_v vs 0) 5 + 0).toNat := rfl
  have kz_0_170 := fdq_13 hD hth r0
  have kv0 := fdq_13 hD hth r0
  obtain ⟨x, ex, hx⟩ := iv_ex (ta := ta) (lo := 0) (hi := 99999995) (z := w_fi ws (n_v vs 0) 170) (by omega) (by omega) (by omega) (by omega)
  have ex2 : v_iv (Value.int x) = w_fi ws (n_v vs 0) 170 := ex
  have ex3 : 0 ≤ v_iv (Value.int x) ∧ v_iv (Value.int x) ≤ 99999995 := tv_rng hx
  have e_2 : n_v (vs ++ [Value.int x]) 2 = n_v vs 2 := n_v_old (by rw [hl]; decide)
  have e_3 : n_v (vs ++ [Value.int x]) 3 = n_v vs 3 := n_v_old (by rw [hl]; decide)
  have e_5 : n_v (vs ++ [Value.int x]) 5 = n_v vs 5 := n_v_old (by rw [hl]; decide)
  have e_9 : n_v (vs ++ [Value.int x]) 9 = Value.int x := n_v_new hl
  have nf0 : fc_1 PRD (20, [3, 9], [30, 0, 1, 1, 170, -1, 0, 0]) ws (vs ++ [Value.int x]) := by
    refine ⟨nf_inA hl rfl, sgq_140 ?_⟩
    · show 1 * w_fi ws (n_v (vs ++ [Value.int x]) 3) 170 + ((-1) * v_iv (n_v (vs ++ [Value.int x]) 9) + 0) ≤ 0
      simp only [e_3, e_9, q3]
      exact vc_Mo_writeGroup_at_l4_2_0 (v_iv (n_v vs 2)) (v_iv (n_v vs 4)) (v_iv (n_v vs 5)) (v_iv (n_v vs 6)) (v_iv (n_v vs 7)) (w_ei ws (w_ar ws (n_v vs 0) 2)) (w_fi ws (n_v vs 0) 5) (w_fi ws (n_v vs 0) 170) (v_iv (Value.int x)) k2 k4 k5 k6 k7 d0 d1 f0 f1 f2 f3 f4 f5 kz_0_170 ex2 ex3
  have nf1 : fc_1 PRD (23, [9, 2, 5], [0, 1, -1, -36]) ws (vs ++ [Value.int x]) := by
    refine ⟨nf_inA hl rfl, sgq_1908 ?_⟩
    · show 1 * v_iv (n_v (vs ++ [Value.int x]) 9) + ((-1) * v_iv (n_v (vs ++ [Value.int x]) 2) + ((-36) * v_iv (n_v (vs ++ [Value.int x]) 5) + 0)) ≤ 0
      simp only [e_2, e_5, e_9]
      exact vc_Mo_writeGroup_at_l4_2_1 (v_iv (n_v vs 2)) (v_iv (n_v vs 4)) (v_iv (n_v vs 5)) (v_iv (n_v vs 6)) (v_iv (n_v vs 7)) (w_ei ws (w_ar ws (n_v vs 0) 2)) (w_fi ws (n_v vs 0) 5) (w_fi ws (n_v vs 0) 170) (v_iv (Value.int x)) k2 k4 k5 k6 k7 d0 d1 f0 f1 f2 f3 f4 f5 kz_0_170 ex2 ex3
  exact ⟨(fun _ h => (by cases h)), [Value.int x], ag_one hx, List.forall_mem_cons.mpr ⟨⟨show (20 : Nat) < 100 from by decide, nf0⟩, List.forall_mem_cons.mpr ⟨⟨show (23 : Nat) < 100 from by decide, nf1⟩, (fun _ h => (by cases h))⟩⟩, (fun _ h => (by cases h))⟩
set_option maxHeartbeats 4000000 in
theorem vc_Mo_writeGroup_at_l4_3_0 (x2 : Int) (x4 : Int) (x5 : Int) (x6 : Int) (x7 : Int) (x9 : Int) (all_0 : Int → Int) (r_0 : Int) (texts_0 : Int) (gx : Int) (k2 : 0 ≤ x2 ∧ x2 ≤ 99985891) (k4 : 4 ≤ x4 ∧ x4 ≤ 7) (k5 : 0 ≤ x5 ∧ x5 ≤ 23) (k6 : 1 ≤ x6 ∧ x6 ≤ 24) (k7 : 4 ≤ x7 ∧ x7 ≤ 7) (k9 : 0 ≤ x9 ∧ x9 ≤ 99999995) (d0 : x4 + 0 ≤ x7 ∧ x7 ≤ x4 + 0) (d1 : x6 + (-4294967296) ≤ x5 ∧ x5 ≤ x6 + (-1)) (f0 : 1 * x9 + ((-1) * x2 + ((-36) * x5 + 0)) ≤ 0) (f1 : x7 = all_0 (((r_0 + 243) + x5))) (f2 : 1 * x6 + ((-1) * all_0 (r_0 + 0) + 0) ≤ 0) (f3 : (-1) * x6 + (1 * all_0 (r_0 + 0) + 0) ≤ 0) (f5 : 1 * texts_0 + ((-1) * x9 + 0) ≤ 5) (f7 : 1 * x9 + ((-1) * x2 + ((-36) * x5 + 0)) ≤ 0) (f8 : x7 = x4) (f9 : x5 < x6) (kz_0_170 : 0 ≤ texts_0 ∧ texts_0 ≤ 100000000) (ex2 : gx = texts_0) (ex3 : 0 ≤ gx ∧ gx ≤ 99999992) : 1 * texts_0 + ((-1) * gx + 0) ≤ 0 := by
  first | assumption | omega | grind
set_option maxHeartbeats 4000000 in
theorem vc_Mo_writeGroup_at_l4_3_1 (x2 : Int) (x4 : Int) (x5 : Int) (x6 : Int) (x7 : Int) (x9 : Int) (all_0 : Int → Int) (r_0 : Int) (texts_0 : Int) (gx : Int) (k2 : 0 ≤ x2 ∧ x2 ≤ 99985891) (k4 : 4 ≤ x4 ∧ x4 ≤ 7) (k5 : 0 ≤ x5 ∧ x5 ≤ 23) (k6 : 1 ≤ x6 ∧ x6 ≤ 24) (k7 : 4 ≤ x7 ∧ x7 ≤ 7) (k9 : 0 ≤ x9 ∧ x9 ≤ 99999995) (d0 : x4 + 0 ≤ x7 ∧ x7 ≤ x4 + 0) (d1 : x6 + (-4294967296) ≤ x5 ∧ x5 ≤ x6 + (-1)) (f0 : 1 * x9 + ((-1) * x2 + ((-36) * x5 + 0)) ≤ 0) (f1 : x7 = all_0 (((r_0 + 243) + x5))) (f2 : 1 * x6 + ((-1) * all_0 (r_0 + 0) + 0) ≤ 0) (f3 : (-1) * x6 + (1 * all_0 (r_0 + 0) + 0) ≤ 0) (f5 : 1 * texts_0 + ((-1) * x9 + 0) ≤ 5) (f7 : 1 * x9 + ((-1) * x2 + ((-36) * x5 + 0)) ≤ 0) (f8 : x7 = x4) (f9 : x5 < x6) (kz_0_170 : 0 ≤ texts_0 ∧ texts_0 ≤ 100000000) (ex2 : gx = texts_0) (ex3 : 0 ≤ gx ∧ gx ≤ 99999992) : 1 * gx + ((-1) * x2 + ((-36) * x5 + 0)) ≤ 5 := by
  first | assumption | omega | grind
def o_Mo_writeGroup_at_l4_3 : or_T := (31, 10, [(0, (2, 0, 0, [165])), (2, (0, 0, 99985891, [])), (3, (2, 0, 0, [165])), (4, (0, 4, 7, [])), (5, (0, 0, 23, [])), (6, (0, 1, 24, [])), (7, (0, 4, 7, [])), (9, (0, 0, 99999995, []))], [(23, [9, 2, 5], [0, 1, -1, -36]), (20, [7, 3, 5], [50, 1, 1, 1005, 1002, 1, 2, 1, 0, 3, 1, 2, 4, 7, 4, 3, 2, 1, 5, 0, 243, 1, 2]), (20, [6, 3], [30, 0, 1, 0, 0, -1, 3, 2005000]), (20, [6, 3], [30, 0, -1, 0, 0, 1, 3, 2005000]), (24, [0, 3], []), (20, [3, 9], [30, 5, 1, 1, 170, -1, 0, 0]), (102, [9], [7770675568902916283677847627294075626569627356208558085007249638955617140820833992704, 165170]), (23, [9, 2, 5], [0, 1, -1, -36]), (7, [7, 4], [0]), (7, [5, 6], [2])], [], [(0, 0, 99999992, [])], [(20, [3, 10], [30, 0, 1, 1, 170, -1, 0, 0]), (23, [10, 2, 5], [5, 1, -1, -36])], [], [(7, 4, 0, 0), (5, 6, -4294967296, -1)])
theorem oo_Mo_writeGroup_at_l4_3 {kA : Nat → ClassId} : or_ok PRD kA GG o_Mo_writeGroup_at_l4_3 := by
  refine or_mk fun A ta ws vs hD hth hl => ?_
  intro t0 r0 t2 k2 t3 r3 t4 k4 t5 k5 t6 k6 t7 k7 t9 k9 d0 d1 f0 f1 f2 f3 f4 f5 ta1 w1 le1 s1 f7 f8 f9
  replace f0 := shm_1908 f0
  replace f1 := shm_585 f1
  replace f2 := shm_135 f2
  replace f3 := shm_136 f3
  replace f4 := shm_5 f4
  replace f5 := shm_232 f5
  replace f7 := shm_1908 f7
  replace f8 := shm_37 f8
  replace f9 := shm_6 f9
  have q3 : n_v vs 3 = n_v vs 0 := f4.symm
  simp only [q3] at f1 f2 f3 f5
  have cr_0_2 := fdq_12 hD hth r0
  have br_0_2_F5_0_0 : w_ei ws (w_ar ws (n_v vs 0) 2) (w_fi ws (n_v vs 0) 5 + 0) = w_el ws (w_ar ws (n_v vs 0) 2) (w_fi ws (n_v vs 0) 5 + 0).toNat := rfl
  have kz_0_170 := fdq_13 hD hth r0
  have kv0 := fdq_13 hD hth r0
  obtain ⟨x, ex, hx⟩ := iv_ex (ta := ta) (lo := 0) (hi := 99999992) (z := w_fi ws (n_v vs 0) 170) (by omega) (by omega) (by omega) (by omega)
  have ex2 : v_iv (Value.int x) = w_fi ws (n_v vs 0) 170 := ex
  have ex3 : 0 ≤ v_iv (Value.int x) ∧ v_iv (Value.int x) ≤ 99999992 := tv_rng hx
  have e_2 : n_v (vs ++ [Value.int x]) 2 = n_v vs 2 := n_v_old (by rw [hl]; decide)
  have e_3 : n_v (vs ++ [Value.int x]) 3 = n_v vs 3 := n_v_old (by rw [hl]; decide)
  have e_5 : n_v (vs ++ [Value.int x]) 5 = n_v vs 5 := n_v_old (by rw [hl]; decide)
  have e_10 : n_v (vs ++ [Value.int x]) 10 = Value.int x := n_v_new hl
  have nf0 : fc_1 PRD (20, [3, 10], [30, 0, 1, 1, 170, -1, 0, 0]) ws (vs ++ [Value.int x]) := by
    refine ⟨nf_inA hl rfl, sgq_140 ?_⟩
    · show 1 * w_fi ws (n_v (vs ++ [Value.int x]) 3) 170 + ((-1) * v_iv (n_v (vs ++ [Value.int x]) 10) + 0) ≤ 0
      simp only [e_3, e_10, q3]
      exact vc_Mo_writeGroup_at_l4_3_0 (v_iv (n_v vs 2)) (v_iv (n_v vs 4)) (v_iv (n_v vs 5)) (v_iv (n_v vs 6)) (v_iv (n_v vs 7)) (v_iv (n_v vs 9)) (w_ei ws (w_ar ws (n_v vs 0) 2)) (w_fi ws (n_v vs 0) 5) (w_fi ws (n_v vs 0) 170) (v_iv (Value.int x)) k2 k4 k5 k6 k7 k9 d0 d1 f0 f1 f2 f3 f5 f7 f8 f9 kz_0_170 ex2 ex3
  have nf1 : fc_1 PRD (23, [10, 2, 5], [5, 1, -1, -36]) ws (vs ++ [Value.int x]) := by
    refine ⟨nf_inA hl rfl, sgq_1909 ?_⟩
    · show 1 * v_iv (n_v (vs ++ [Value.int x]) 10) + ((-1) * v_iv (n_v (vs ++ [Value.int x]) 2) + ((-36) * v_iv (n_v (vs ++ [Value.int x]) 5) + 0)) ≤ 5
      simp only [e_2, e_5, e_10]
      exact vc_Mo_writeGroup_at_l4_3_1 (v_iv (n_v vs 2)) (v_iv (n_v vs 4)) (v_iv (n_v vs 5)) (v_iv (n_v vs 6)) (v_iv (n_v vs 7)) (v_iv (n_v vs 9)) (w_ei ws (w_ar ws (n_v vs 0) 2)) (w_fi ws (n_v vs 0) 5) (w_fi ws (n_v vs 0) 170) (v_iv (Value.int x)) k2 k4 k5 k6 k7 k9 d0 d1 f0 f1 f2 f3 f5 f7 f8 f9 kz_0_170 ex2 ex3
  exact ⟨(fun _ h => (by cases h)), [Value.int x], ag_one hx, List.forall_mem_cons.mpr ⟨⟨show (20 : Nat) < 100 from by decide, nf0⟩, List.forall_mem_cons.mpr ⟨⟨show (23 : Nat) < 100 from by decide, nf1⟩, (fun _ h => (by cases h))⟩⟩, (fun _ h => (by cases h))⟩
set_option maxHeartbeats 4000000 in
theorem vc_Mo_writeGroup_at_l4_4_0 (x2 : Int) (x4 : Int) (x5 : Int) (x6 : Int) (x7 : Int) (x9 : Int) (x10 : Int) (x11 : Int) (x12 : Int) (all_0 : Int → Int) (r_0 : Int) (texts_0 : Int) (gx : Int) (k2 : 0 ≤ x2 ∧ x2 ≤ 99985891) (k4 : 4 ≤ x4 ∧ x4 ≤ 7) (k5 : 0 ≤ x5 ∧ x5 ≤ 23) (k6 : 1 ≤ x6 ∧ x6 ≤ 24) (k7 : 4 ≤ x7 ∧ x7 ≤ 7) (k9 : 0 ≤ x9 ∧ x9 ≤ 99999995) (k10 : 0 ≤ x10 ∧ x10 ≤ 99999992) (k11 : 0 ≤ x11 ∧ x11 ≤ 1) (k12 : 1 ≤ x12 ∧ x12 ≤ 1) (d0 : x4 + 0 ≤ x7 ∧ x7 ≤ x4 + 0) (d1 : x6 + (-4294967296) ≤ x5 ∧ x5 ≤ x6 + (-1)) (f0 : x11 ≤ x12) (f1 : x11 = all_0 (((r_0 + 219) + x5))) (f2 : 1 * x10 + ((-1) * x2 + ((-36) * x5 + 0)) ≤ 5) (f3 : 1 * x9 + ((-1) * x2 + ((-36) * x5 + 0)) ≤ 0) (f4 : x7 = all_0 (((r_0 + 243) + x5))) (f5 : 1 * x6 + ((-1) * all_0 (r_0 + 0) + 0) ≤ 0) (f6 : (-1) * x6 + (1 * all_0 (r_0 + 0) + 0) ≤ 0) (f8 : 1 * texts_0 + ((-1) * x10 + 0) ≤ 8) (f10 : 1 * x10 + ((-1) * x2 + ((-36) * x5 + 0)) ≤ 5) (f11 : 1 * x9 + ((-1) * x2 + ((-36) * x5 + 0)) ≤ 0) (f13 : 1 * x9 + ((-1) * x2 + ((-36) * x5 + 0)) ≤ 0) (f14 : x7 = x4) (f15 : x5 < x6) (kz_0_170 : 0 ≤ texts_0 ∧ texts_0 ≤ 100000000) (ex2 : gx = texts_0) (ex3 : 0 ≤ gx ∧ gx ≤ 99999998) : 1 * texts_0 + ((-1) * gx + 0) ≤ 0 := by
  first | assumption | omega | grind
set_option maxHeartbeats 4000000 in
theorem vc_Mo_writeGroup_at_l4_4_1 (x2 : Int) (x4 : Int) (x5 : Int) (x6 : Int) (x7 : Int) (x9 : Int) (x10 : Int) (x11 : Int) (x12 : Int) (all_0 : Int → Int) (r_0 : Int) (texts_0 : Int) (gx : Int) (k2 : 0 ≤ x2 ∧ x2 ≤ 99985891) (k4 : 4 ≤ x4 ∧ x4 ≤ 7) (k5 : 0 ≤ x5 ∧ x5 ≤ 23) (k6 : 1 ≤ x6 ∧ x6 ≤ 24) (k7 : 4 ≤ x7 ∧ x7 ≤ 7) (k9 : 0 ≤ x9 ∧ x9 ≤ 99999995) (k10 : 0 ≤ x10 ∧ x10 ≤ 99999992) (k11 : 0 ≤ x11 ∧ x11 ≤ 1) (k12 : 1 ≤ x12 ∧ x12 ≤ 1) (d0 : x4 + 0 ≤ x7 ∧ x7 ≤ x4 + 0) (d1 : x6 + (-4294967296) ≤ x5 ∧ x5 ≤ x6 + (-1)) (f0 : x11 ≤ x12) (f1 : x11 = all_0 (((r_0 + 219) + x5))) (f2 : 1 * x10 + ((-1) * x2 + ((-36) * x5 + 0)) ≤ 5) (f3 : 1 * x9 + ((-1) * x2 + ((-36) * x5 + 0)) ≤ 0) (f4 : x7 = all_0 (((r_0 + 243) + x5))) (f5 : 1 * x6 + ((-1) * all_0 (r_0 + 0) + 0) ≤ 0) (f6 : (-1) * x6 + (1 * all_0 (r_0 + 0) + 0) ≤ 0) (f8 : 1 * texts_0 + ((-1) * x10 + 0) ≤ 8) (f10 : 1 * x10 + ((-1) * x2 + ((-36) * x5 + 0)) ≤ 5) (f11 : 1 * x9 + ((-1) * x2 + ((-36) * x5 + 0)) ≤ 0) (f13 : 1 * x9 + ((-1) * x2 + ((-36) * x5 + 0)) ≤ 0) (f14 : x7 = x4) (f15 : x5 < x6) (kz_0_170 : 0 ≤ texts_0 ∧ texts_0 ≤ 100000000) (ex2 : gx = texts_0) (ex3 : 0 ≤ gx ∧ gx ≤ 99999998) : 1 * gx + ((-1) * x2 + ((-36) * x5 + 0)) ≤ 34 := by
  first | assumption | omega | grind
def o_Mo_writeGroup_at_l4_4 : or_T := (70, 14, [(0, (2, 0, 0, [165])), (2, (0, 0, 99985891, [])), (3, (2, 0, 0, [165])), (4, (0, 4, 7, [])), (5, (0, 0, 23, [])), (6, (0, 1, 24, [])), (7, (0, 4, 7, [])), (9, (0, 0, 99999995, [])), (10, (0, 0, 99999992, [])), (11, (0, 0, 1, [])), (12, (0, 1, 1, []))], [(7, [11, 12], [5]), (20, [11, 3, 5], [50, 1, 1, 1005, 1002, 1, 2, 1, 0, 3, 1, 2, 4, 7, 4, 3, 2, 1, 5, 0, 219, 1, 2]), (23, [10, 2, 5], [5, 1, -1, -36]), (23, [9, 2, 5], [0, 1, -1, -36]), (20, [7, 3, 5], [50, 1, 1, 1005, 1002, 1, 2, 1, 0, 3, 1, 2, 4, 7, 4, 3, 2, 1, 5, 0, 243, 1, 2]), (20, [6, 3], [30, 0, 1, 0, 0, -1, 3, 2005000]), (20, [6, 3], [30, 0, -1, 0, 0, 1, 3, 2005000]), (24, [0, 3], []), (20, [3, 10], [30, 8, 1, 1, 170, -1, 0, 0]), (102, [10], [7770675568902916283677847627294075626569627356208558085007249638955617140820833992704, 165170]), (23, [10, 2, 5], [5, 1, -1, -36]), (23, [9, 2, 5], [0, 1, -1, -36]), (102, [9], [7770675568902916283677847627294075626569627356208558085007249638955617140820833992704, 165170]), (23, [9, 2, 5], [0, 1, -1, -36]), (7, [7, 4], [0]), (7, [5, 6], [2])], [], [(0, 0, 99999998, [])], [(20, [3, 14], [30, 0, 1, 1, 170, -1, 0, 0]), (23, [14, 2, 5], [34, 1, -1, -36])], [], [(7, 4, 0, 0), (5, 6, -4294967296, -1)])
theorem oo_Mo_writeGroup_at_l4_4 {kA : Nat → ClassId} : or_ok PRD kA GG o_Mo_writeGroup_at_l4_4 := by
  refine or_mk fun A ta ws vs hD hth hl => ?_
  intro t0 r0 t2 k2 t3 r3 t4 k4 t5 k5 t6 k6 t7 k7 t9 k9 t10 k10 t11 k11 t12 k12 d0 d1 f0 f1 f2 f3 f4 f5 f6 f7 f8 ta1 w1 le1 s1 f10 f11 ta2 w2 le2 s2 f13 f14 f15
  replace f0 := shm_24 f0
  replace f1 := shm_718 f1
  replace f2 := shm_1909 f2
  replace f3 := shm_1908 f3
  replace f4 := shm_585 f4
  replace f5 := shm_135 f5
  replace f6 := shm_136 f6
  replace f7 := shm_5 f7
  replace f8 := shm_172 f8
  replace f10 := shm_1909 f10
  replace f11 := shm_1908 f11
  replace f13 := shm_1908 f13
  replace f14 := shm_37 f14
  replace f15 := shm_6 f15
  have q3 : n_v vs 3 = n_v vs 0 := f7.symm
  simp only [q3] at f1 f4 f5 f6 f8
  have cr_0_2 := fdq_12 hD hth r0
  have br_0_2_F5_0_0 : w_ei ws (w_ar ws (n_v vs 0) 2) (w_fi ws (n_v vs 0) 5 + 0) = w_el ws (w_ar ws (n_v vs 0) 2) (w_fi ws (n_v vs 0) 5 + 0).toNat := rfl
  have kz_0_170 := fdq_13 hD hth r0
  have kv0 := fdq_13 hD hth r0
  obtain ⟨x, ex, hx⟩ := iv_ex (ta := ta) (lo := 0) (hi := 99999998) (z := w_fi ws (n_v vs 0) 170) (by omega) (by omega) (by omega) (by omega)
  have ex2 : v_iv (Value.int x) = w_fi ws (n_v vs 0) 170 := ex
  have ex3 : 0 ≤ v_iv (Value.int x) ∧ v_iv (Value.int x) ≤ 99999998 := tv_rng hx
  have e_2 : n_v (vs ++ [Value.int x]) 2 = n_v vs 2 := n_v_old (by rw [hl]; decide)
  have e_3 : n_v (vs ++ [Value.int x]) 3 = n_v vs 3 := n_v_old (by rw [hl]; decide)
  have e_5 : n_v (vs ++ [Value.int x]) 5 = n_v vs 5 := n_v_old (by rw [hl]; decide)
  have e_14 : n_v (vs ++ [Value.int x]) 14 = Value.int x := n_v_new hl
  have nf0 : fc_1 PRD (20, [3, 14], [30, 0, 1, 1, 170, -1, 0, 0]) ws (vs ++ [Value.int x]) := by
    refine ⟨nf_inA hl rfl, sgq_140 ?_⟩
    · show 1 * w_fi ws (n_v (vs ++ [Value.int x]) 3) 170 + ((-1) * v_iv (n_v (vs ++ [Value.int x]) 14) + 0) ≤ 0
      simp only [e_3, e_14, q3]
      exact vc_Mo_writeGroup_at_l4_4_0 (v_iv (n_v vs 2)) (v_iv (n_v vs 4)) (v_iv (n_v vs 5)) (v_iv (n_v vs 6)) (v_iv (n_v vs 7)) (v_iv (n_v vs 9)) (v_iv (n_v vs 10)) (v_iv (n_v vs 11)) (v_iv (n_v vs 12)) (w_ei ws (w_ar ws (n_v vs 0) 2)) (w_fi ws (n_v vs 0) 5) (w_fi ws (n_v vs 0) 170) (v_iv (Value.int x)) k2 k4 k5 k6 k7 k9 k10 k11 k12 d0 d1 f0 f1 f2 f3 f4 f5 f6 f8 f10 f11 f13 f14 f15 kz_0_170 ex2 ex3
  have nf1 : fc_1 PRD (23, [14, 2, 5], [34, 1, -1, -36]) ws (vs ++ [Value.int x]) := by
    refine ⟨nf_inA hl rfl, sgq_1910 ?_⟩
    · show 1 * v_iv (n_v (vs ++ [Value.int x]) 14) + ((-1) * v_iv (n_v (vs ++ [Value.int x]) 2) + ((-36) * v_iv (n_v (vs ++ [Value.int x]) 5) + 0)) ≤ 34
      simp only [e_2, e_5, e_14]
      exact vc_Mo_writeGroup_at_l4_4_1 (v_iv (n_v vs 2)) (v_iv (n_v vs 4)) (v_iv (n_v vs 5)) (v_iv (n_v vs 6)) (v_iv (n_v vs 7)) (v_iv (n_v vs 9)) (v_iv (n_v vs 10)) (v_iv (n_v vs 11)) (v_iv (n_v vs 12)) (w_ei ws (w_ar ws (n_v vs 0) 2)) (w_fi ws (n_v vs 0) 5) (w_fi ws (n_v vs 0) 170) (v_iv (Value.int x)) k2 k4 k5 k6 k7 k9 k10 k11 k12 d0 d1 f0 f1 f2 f3 f4 f5 f6 f8 f10 f11 f13 f14 f15 kz_0_170 ex2 ex3
  exact ⟨(fun _ h => (by cases h)), [Value.int x], ag_one hx, List.forall_mem_cons.mpr ⟨⟨show (20 : Nat) < 100 from by decide, nf0⟩, List.forall_mem_cons.mpr ⟨⟨show (23 : Nat) < 100 from by decide, nf1⟩, (fun _ h => (by cases h))⟩⟩, (fun _ h => (by cases h))⟩
set_option maxHeartbeats 4000000 in
theorem vc_Mo_writeGroup_at_l4_5_0 (x2 : Int) (x4 : Int) (x5 : Int) (x6 : Int) (x7 : Int) (x9 : Int) (x10 : Int) (x11 : Int) (x12 : Int) (x14 : Int) (x15 : Int) (all_0 : Int → Int) (r_0 : Int) (texts_0 : Int) (k2 : 0 ≤ x2 ∧ x2 ≤ 99985891) (k4 : 4 ≤ x4 ∧ x4 ≤ 7) (k5 : 0 ≤ x5 ∧ x5 ≤ 23) (k6 : 1 ≤ x6 ∧ x6 ≤ 24) (k7 : 4 ≤ x7 ∧ x7 ≤ 7) (k9 : 0 ≤ x9 ∧ x9 ≤ 99999995) (k10 : 0 ≤ x10 ∧ x10 ≤ 99999992) (k11 : 0 ≤ x11 ∧ x11 ≤ 1) (k12 : 1 ≤ x12 ∧ x12 ≤ 1) (k14 : 0 ≤ x14 ∧ x14 ≤ 99999998) (k15 : 1 ≤ x15 ∧ x15 ≤ 24) (d0 : x5 + 1 ≤ x15 ∧ x15 ≤ x5 + 1) (d1 : x6 + (-4294967296) ≤ x15 ∧ x15 ≤ x6 + 0) (d2 : x4 + 0 ≤ x7 ∧ x7 ≤ x4 + 0) (d3 : x6 + (-4294967296) ≤ x5 ∧ x5 ≤ x6 + (-1)) (f0 : x15 = x5 + 1) (f1 : 1 * x14 + ((-1) * x2 + ((-36) * x5 + 0)) ≤ 34) (f2 : x11 = all_0 (((r_0 + 219) + x5))) (f3 : 1 * x10 + ((-1) * x2 + ((-36) * x5 + 0)) ≤ 5) (f4 : 1 * x9 + ((-1) * x2 + ((-36) * x5 + 0)) ≤ 0) (f5 : x7 = all_0 (((r_0 + 243) + x5))) (f6 : 1 * x6 + ((-1) * all_0 (r_0 + 0) + 0) ≤ 0) (f7 : (-1) * x6 + (1 * all_0 (r_0 + 0) + 0) ≤ 0) (f9 : 1 * texts_0 + ((-1) * x14 + 0) ≤ 2) (f11 : 1 * x14 + ((-1) * x2 + ((-36) * x5 + 0)) ≤ 34) (f12 : x11 ≤ x12) (f13 : 1 * x10 + ((-1) * x2 + ((-36) * x5 + 0)) ≤ 5) (f14 : 1 * x9 + ((-1) * x2 + ((-36) * x5 + 0)) ≤ 0) (f16 : 1 * x10 + ((-1) * x2 + ((-36) * x5 + 0)) ≤ 5) (f17 : 1 * x9 + ((-1) * x2 + ((-36) * x5 + 0)) ≤ 0) (f19 : 1 * x9 + ((-1) * x2 + ((-36) * x5 + 0)) ≤ 0) (f20 : x7 = x4) (f21 : x5 < x6) (kz_0_170 : 0 ≤ texts_0 ∧ texts_0 ≤ 100000000) : 1 * texts_0 + ((-1) * x2 + ((-36) * x15 + 0)) ≤ 0 := by
  first | assumption | omega | grind
def o_Mo_writeGroup_at_l4_5 : or_T := (2, 16, [(0, (2, 0, 0, [165])), (2, (0, 0, 99985891, [])), (4, (0, 4, 7, [])), (5, (0, 0, 23, [])), (6, (0, 1, 24, [])), (7, (0, 4, 7, [])), (9, (0, 0, 99999995, [])), (10, (0, 0, 99999992, [])), (11, (0, 0, 1, [])), (12, (0, 1, 1, [])), (14, (0, 0, 99999998, [])), (15, (0, 1, 24, []))], [(6, [15, 5], [1]), (23, [14, 2, 5], [34, 1, -1, -36]), (20, [11, 3, 5], [50, 1, 1, 1005, 1002, 1, 2, 1, 0, 3, 1, 2, 4, 7, 4, 3, 2, 1, 5, 0, 219, 1, 2]), (23, [10, 2, 5], [5, 1, -1, -36]), (23, [9, 2, 5], [0, 1, -1, -36]), (20, [7, 3, 5], [50, 1, 1, 1005, 1002, 1, 2, 1, 0, 3, 1, 2, 4, 7, 4, 3, 2, 1, 5, 0, 243, 1, 2]), (20, [6, 3], [30, 0, 1, 0, 0, -1, 3, 2005000]), (20, [6, 3], [30, 0, -1, 0, 0, 1, 3, 2005000]), (24, [0, 3], []), (20, [3, 14], [30, 2, 1, 1, 170, -1, 0, 0]), (102, [14], [7770675568902916283677847627294075626569627356208558085007249638955617140820833992704, 165170]), (23, [14, 2, 5], [34, 1, -1, -36]), (7, [11, 12], [5]), (23, [10, 2, 5], [5, 1, -1, -36]), (23, [9, 2, 5], [0, 1, -1, -36]), (102, [10], [7770675568902916283677847627294075626569627356208558085007249638955617140820833992704, 165170]), (23, [10, 2, 5], [5, 1, -1, -36]), (23, [9, 2, 5], [0, 1, -1, -36]), (102, [9], [7770675568902916283677847627294075626569627356208558085007249638955617140820833992704, 165170]), (23, [9, 2, 5], [0, 1, -1, -36]), (7, [7, 4], [0]), (7, [5, 6], [2])], [], [], [(20, [3, 2, 15], [30, 0, 1, 1, 170, -1, 0, 0, -36, 0, 0])], [], [(15, 5, 1, 1), (15, 6, -4294967296, 0), (7, 4, 0, 0), (5, 6, -4294967296, -1)])
theorem oo_Mo_writeGroup_at_l4_5 {kA : Nat → ClassId} : or_ok PRD kA GG o_Mo_writeGroup_at_l4_5 := by
  refine or_mk fun A ta ws vs hD hth hl => ?_
  intro t0 r0 t2 k2 t4 k4 t5 k5 t6 k6 t7 k7 t9 k9 t10 k10 t11 k11 t12 k12 t14 k14 t15 k15 d0 d1 d2 d3 f0 f1 f2 f3 f4 f5 f6 f7 f8 f9 ta1 w1 le1 s1 f11 f12 f13 f14 ta2 w2 le2 s2 f16 f17 ta3 w3 le3 s3 f19 f20 f21
  replace f0 := shm_4 f0
  replace f1 := shm_1910 f1
  replace f2 := shm_718 f2
  replace f3 := shm_1909 f3
  replace f4 := shm_1908 f4
  replace f5 := shm_585 f5
  replace f6 := shm_135 f6
  replace f7 := shm_136 f7
  replace f8 := shm_5 f8
  replace f9 := shm_234 f9
  replace f11 := shm_1910 f11
  replace f12 := shm_24 f12
  replace f13 := shm_1909 f13
  replace f14 := shm_1908 f14
  replace f16 := shm_1909 f16
  replace f17 := shm_1908 f17
  replace f19 := shm_1908 f19
  replace f20 := shm_37 f20
  replace f21 := shm_6 f21
  have q3 : n_v vs 3 = n_v vs 0 := f8.symm
  simp only [q3] at f2 f5 f6 f7 f9
  have kz_0_170 := fdq_13 hD hth r0
  have nf0 : fc_1 PRD (20, [3, 2, 15], [30, 0, 1, 1, 170, -1, 0, 0, -36, 0, 0]) ws (vs) := by
    refine ⟨nf_in hl rfl, sgq_1906 ?_⟩
    · show 1 * w_fi ws (n_v vs 3) 170 + ((-1) * v_iv (n_v vs 2) + ((-36) * v_iv (n_v vs 15) + 0)) ≤ 0
      rw [q3]
      exact vc_Mo_writeGroup_at_l4_5_0 (v_iv (n_v vs 2)) (v_iv (n_v vs 4)) (v_iv (n_v vs 5)) (v_iv (n_v vs 6)) (v_iv (n_v vs 7)) (v_iv (n_v vs 9)) (v_iv (n_v vs 10)) (v_iv (n_v vs 11)) (v_iv (n_v vs 12)) (v_iv (n_v vs 14)) (v_iv (n_v vs 15)) (w_ei ws (w_ar ws (n_v vs 0) 2)) (w_fi ws (n_v vs 0) 5) (w_fi ws (n_v vs 0) 170) k2 k4 k5 k6 k7 k9 k10 k11 k12 k14 k15 d0 d1 d2 d3 f0 f1 f2 f3 f4 f5 f6 f7 f9 f11 f12 f13 f14 f16 f17 f19 f20 f21 kz_0_170
  refine ⟨(fun _ h => (by cases h)), [], trivial, ?_, (fun _ h => (by cases h))⟩
  rw [List.append_nil]
  exact List.forall_mem_cons.mpr ⟨⟨show (20 : Nat) < 100 from by decide, nf0⟩, (fun _ h => (by cases h))⟩
set_option maxHeartbeats 4000000 in
theorem vc_Mo_writeGroup_at_l4_6_0 (x2 : Int) (x4 : Int) (x5 : Int) (x6 : Int) (x7 : Int) (x9 : Int) (x10 : Int) (x11 : Int) (x12 : Int) (all_0 : Int → Int) (r_0 : Int) (texts_0 : Int) (gx : Int) (k2 : 0 ≤ x2 ∧ x2 ≤ 99985891) (k4 : 4 ≤ x4 ∧ x4 ≤ 7) (k5 : 0 ≤ x5 ∧ x5 ≤ 23) (k6 : 1 ≤ x6 ∧ x6 ≤ 24) (k7 : 4 ≤ x7 ∧ x7 ≤ 7) (k9 : 0 ≤ x9 ∧ x9 ≤ 99999995) (k10 : 0 ≤ x10 ∧ x10 ≤ 99999992) (k11 : 2 ≤ x11 ∧ x11 ≤ 99) (k12 : 1 ≤ x12 ∧ x12 ≤ 1) (d0 : x4 + 0 ≤ x7 ∧ x7 ≤ x4 + 0) (d1 : x6 + (-4294967296) ≤ x5 ∧ x5 ≤ x6 + (-1)) (f0 : x12 < x11) (f1 : x11 = all_0 (((r_0 + 219) + x5))) (f2 : 1 * x10 + ((-1) * x2 + ((-36) * x5 + 0)) ≤ 5) (f3 : 1 * x9 + ((-1) * x2 + ((-36) * x5 + 0)) ≤ 0) (f4 : x7 = all_0 (((r_0 + 243) + x5))) (f5 : 1 * x6 + ((-1) * all_0 (r_0 + 0) + 0) ≤ 0) (f6 : (-1) * x6 + (1 * all_0 (r_0 + 0) + 0) ≤ 0) (f8 : 1 * texts_0 + ((-1) * x10 + 0) ≤ 8) (f10 : 1 * x10 + ((-1) * x2 + ((-36) * x5 + 0)) ≤ 5) (f11 : 1 * x9 + ((-1) * x2 + ((-36) * x5 + 0)) ≤ 0) (f13 : 1 * x9 + ((-1) * x2 + ((-36) * x5 + 0)) ≤ 0) (f14 : x7 = x4) (f15 : x5 < x6) (kz_0_170 : 0 ≤ texts_0 ∧ texts_0 ≤ 100000000) (ex2 : gx = texts_0) (ex3 : 0 ≤ gx ∧ gx ≤ 99999993) : 1 * texts_0 + ((-1) * gx + 0) ≤ 0 := by
  first | assumption | omega | grind
set_option maxHeartbeats 4000000 in
theorem vc_Mo_writeGroup_at_l4_6_1 (x2 : Int) (x4 : Int) (x5 : Int) (x6 : Int) (x7 : Int) (x9 : Int) (x10 : Int) (x11 : Int) (x12 : Int) (all_0 : Int → Int) (r_0 : Int) (texts_0 : Int) (gx : Int) (k2 : 0 ≤ x2 ∧ x2 ≤ 99985891) (k4 : 4 ≤ x4 ∧ x4 ≤ 7) (k5 : 0 ≤ x5 ∧ x5 ≤ 23) (k6 : 1 ≤ x6 ∧ x6 ≤ 24) (k7 : 4 ≤ x7 ∧ x7 ≤ 7) (k9 : 0 ≤ x9 ∧ x9 ≤ 99999995) (k10 : 0 ≤ x10 ∧ x10 ≤ 99999992) (k11 : 2 ≤ x11 ∧ x11 ≤ 99) (k12 : 1 ≤ x12 ∧ x12 ≤ 1) (d0 : x4 + 0 ≤ x7 ∧ x7 ≤ x4 + 0) (d1 : x6 + (-4294967296) ≤ x5 ∧ x5 ≤ x6 + (-1)) (f0 : x12 < x11) (f1 : x11 = all_0 (((r_0 + 219) + x5))) (f2 : 1 * x10 + ((-1) * x2 + ((-36) * x5 + 0)) ≤ 5) (f3 : 1 * x9 + ((-1) * x2 + ((-36) * x5 + 0)) ≤ 0) (f4 : x7 = all_0 (((r_0 + 243) + x5))) (f5 : 1 * x6 + ((-1) * all_0 (r_0 + 0) + 0) ≤ 0) (f6 : (-1) * x6 + (1 * all_0 (r_0 + 0) + 0) ≤ 0) (f8 : 1 * texts_0 + ((-1) * x10 + 0) ≤ 8) (f10 : 1 * x10 + ((-1) * x2 + ((-36) * x5 + 0)) ≤ 5) (f11 : 1 * x9 + ((-1) * x2 + ((-36) * x5 + 0)) ≤ 0) (f13 : 1 * x9 + ((-1) * x2 + ((-36) * x5 + 0)) ≤ 0) (f14 : x7 = x4) (f15 : x5 < x6) (kz_0_170 : 0 ≤ texts_0 ∧ texts_0 ≤ 100000000) (ex2 : gx = texts_0) (ex3 : 0 ≤ gx ∧ gx ≤ 99999993) : 1 * gx + ((-1) * x2 + ((-36) * x5 + 0)) ≤ 13 := by
  first | assumption | omega | grind
def o_Mo_writeGroup_at_l4_6 : or_T := (47, 14, [(0, (2, 0, 0, [165])), (2, (0, 0, 99985891, [])), (3, (2, 0, 0, [165])), (4, (0, 4, 7, [])), (5, (0, 0, 23, [])), (6, (0, 1, 24, [])), (7, (0, 4, 7, [])), (9, (0, 0, 99999995, [])), (10, (0, 0, 99999992, [])), (11, (0, 2, 99, [])), (12, (0, 1, 1, []))], [(7, [11, 12], [4]), (20, [11, 3, 5], [50, 1, 1, 1005, 1002, 1, 2, 1, 0, 3, 1, 2, 4, 7, 4, 3, 2, 1, 5, 0, 219, 1, 2]), (23, [10, 2, 5], [5, 1, -1, -36]), (23, [9, 2, 5], [0, 1, -1, -36]), (20, [7, 3, 5], [50, 1, 1, 1005, 1002, 1, 2, 1, 0, 3, 1, 2, 4, 7, 4, 3, 2, 1, 5, 0, 243, 1, 2]), (20, [6, 3], [30, 0, 1, 0, 0, -1, 3, 2005000]), (20, [6, 3], [30, 0, -1, 0, 0, 1, 3, 2005000]), (24, [0, 3], []), (20, [3, 10], [30, 8, 1, 1, 170, -1, 0, 0]), (102, [10], [7770675568902916283677847627294075626569627356208558085007249638955617140820833992704, 165170]), (23, [10, 2, 5], [5, 1, -1, -36]), (23, [9, 2, 5], [0, 1, -1, -36]), (102, [9], [7770675568902916283677847627294075626569627356208558085007249638955617140820833992704, 165170]), (23, [9, 2, 5], [0, 1, -1, -36]), (7, [7, 4], [0]), (7, [5, 6], [2])], [], [(0, 0, 99999993, [])], [(20, [3, 14], [30, 0, 1, 1, 170, -1, 0, 0]), (23, [14, 2, 5], [13, 1, -1, -36])], [], [(7, 4, 0, 0), (5, 6, -4294967296, -1)])
theorem oo_Mo_writeGroup_at_l4_6 {kA : Nat → ClassId} : or_ok PRD kA GG o_Mo_writeGroup_at_l4_6 := by
  refine or_mk fun A ta ws vs hD hth hl => ?_
  intro t0 r0 t2 k2 t3 r3 t4 k4 t5 k5 t6 k6 t7 k7 t9 k9 t10 k10 t11 k11 t12 k12 d0 d1 f0 f1 f2 f3 f4 f5 f6 f7 f8 ta1 w1 le1 s1 f10 f11 ta2 w2 le2 s2 f13 f14 f15
  replace f0 := shm_21 f0
  replace f1 := shm_718 f1
  replace f2 := shm_1909 f2
  replace f3 := shm_1908 f3
  replace f4 := shm_585 f4
  replace f5 := shm_135 f5
  replace f6 := shm_136 f6
  replace f7 := shm_5 f7
  replace f8 := shm_172 f8
  replace f10 := shm_1909 f10
  replace f11 := shm_1908 f11
  replace f13 := shm_1908 f13
  replace f14 := shm_37 f14
  replace f15 := shm_6 f15
  have q3 : n_v vs 3 = n_v vs 0 := f7.symm
  simp only [q3] at f1 f4 f5 f6 f8
  have cr_0_2 := fdq_12 hD hth r0
  have br_0_2_F5_0_0 : w_ei ws (w_ar ws (n_v vs 0) 2) (w_fi ws (n_v vs 0) 5 + 0) = w_el ws (w_ar ws (n_v vs 0) 2) (w_fi ws (n_v vs 0) 5 + 0).toNat := rfl
  have kz_0_170 := fdq_13 hD hth r0
  have kv0 := fdq_13 hD hth r0
  obtain ⟨x, ex, hx⟩ := iv_ex (ta := ta) (lo := 0) (hi := 99999993) (z := w_fi ws (n_v vs 0) 170) (by omega) (by omega) (by omega) (by omega)
  have ex2 : v_iv (Value.int x) = w_fi ws (n_v vs 0) 170 := ex
  have ex3 : 0 ≤ v_iv (Value.int x) ∧ v_iv (Value.int x) ≤ 99999993 := tv_rng hx
  have e_2 : n_v (vs ++ [Value.int x]) 2 = n_v vs 2 := n_v_old (by rw [hl]; decide)
  have e_3 : n_v (vs ++ [Value.int x]) 3 = n_v vs 3 := n_v_old (by rw [hl]; decide)
  have e_5 : n_v (vs ++ [Value.int x]) 5 = n_v vs 5 := n_v_old (by rw [hl]; decide)
  have e_14 : n_v (vs ++ [Value.int x]) 14 = Value.int x := n_v_new hl
  have nf0 : fc_1 PRD (20, [3, 14], [30, 0, 1, 1, 170, -1, 0, 0]) ws (vs ++ [Value.int x]) := by
    refine ⟨nf_inA hl rfl, sgq_140 ?_⟩
    · show 1 * w_fi ws (n_v (vs ++ [Value.int x]) 3) 170 + ((-1) * v_iv (n_v (vs ++ [Value.int x]) 14) + 0) ≤ 0
      simp only [e_3, e_14, q3]
      exact vc_Mo_writeGroup_at_l4_6_0 (v_iv (n_v vs 2)) (v_iv (n_v vs 4)) (v_iv (n_v vs 5)) (v_iv (n_v vs 6)) (v_iv (n_v vs 7)) (v_iv (n_v vs 9)) (v_iv (n_v vs 10)) (v_iv (n_v vs 11)) (v_iv (n_v vs 12)) (w_ei ws (w_ar ws (n_v vs 0) 2)) (w_fi ws (n_v vs 0) 5) (w_fi ws (n_v vs 0) 170) (v_iv (Value.int x)) k2 k4 k5 k6 k7 k9 k10 k11 k12 d0 d1 f0 f1 f2 f3 f4 f5 f6 f8 f10 f11 f13 f14 f15 kz_0_170 ex2 ex3
  have nf1 : fc_1 PRD (23, [14, 2, 5], [13, 1, -1, -36]) ws (vs ++ [Value.int x]) := by
    refine ⟨nf_inA hl rfl, sgq_1911 ?_⟩
    · show 1 * v_iv (n_v (vs ++ [Value.int x]) 14) + ((-1) * v_iv (n_v (vs ++ [Value.int x]) 2) + ((-36) * v_iv (n_v (vs ++ [Value.int x]) 5) + 0)) ≤ 13
      simp only [e_2, e_5, e_14]
      exact vc_Mo_writeGroup_at_l4_6_1 (v_iv (n_v vs 2)) (v_iv (n_v vs 4)) (v_iv (n_v vs 5)) (v_iv (n_v vs 6)) (v_iv (n_v vs 7)) (v_iv (n_v vs 9)) (v_iv (n_v vs 10)) (v_iv (n_v vs 11)) (v_iv (n_v vs 12)) (w_ei ws (w_ar ws (n_v vs 0) 2)) (w_fi ws (n_v vs 0) 5) (w_fi ws (n_v vs 0) 170) (v_iv (Value.int x)) k2 k4 k5 k6 k7 k9 k10 k11 k12 d0 d1 f0 f1 f2 f3 f4 f5 f6 f8 f10 f11 f13 f14 f15 kz_0_170 ex2 ex3
  exact ⟨(fun _ h => (by cases h)), [Value.int x], ag_one hx, List.forall_mem_cons.mpr ⟨⟨show (20 : Nat) < 100 from by decide, nf0⟩, List.forall_mem_cons.mpr ⟨⟨show (23 : Nat) < 100 from by decide, nf1⟩, (fun _ h => (by cases h))⟩⟩, (fun _ h => (by cases h))⟩
set_option maxHeartbeats 4000000 in
theorem vc_Mo_writeGroup_at_l4_7_0 (x2 : Int) (x4 : Int) (x5 : Int) (x6 : Int) (x7 : Int) (x9 : Int) (x10 : Int) (x11 : Int) (x12 : Int) (x14 : Int) (x15 : Int) (all_0 : Int → Int) (r_0 : Int) (texts_0 : Int) (gx : Int) (k2 : 0 ≤ x2 ∧ x2 ≤ 99985891) (k4 : 4 ≤ x4 ∧ x4 ≤ 7) (k5 : 0 ≤ x5 ∧ x5 ≤ 23) (k6 : 1 ≤ x6 ∧ x6 ≤ 24) (k7 : 4 ≤ x7 ∧ x7 ≤ 7) (k9 : 0 ≤ x9 ∧ x9 ≤ 99999995) (k10 : 0 ≤ x10 ∧ x10 ≤ 99999992) (k11 : 2 ≤ x11 ∧ x11 ≤ 99) (k12 : 1 ≤ x12 ∧ x12 ≤ 1) (k14 : 0 ≤ x14 ∧ x14 ≤ 99999993) (k15 : 0 ≤ x15 ∧ x15 ≤ 99) (d0 : x4 + 0 ≤ x7 ∧ x7 ≤ x4 + 0) (d1 : x6 + (-4294967296) ≤ x5 ∧ x5 ≤ x6 + (-1)) (f0 : x15 = all_0 (((r_0 + 219) + x5))) (f1 : 1 * x14 + ((-1) * x2 + ((-36) * x5 + 0)) ≤ 13) (f2 : x11 = all_0 (((r_0 + 219) + x5))) (f3 : 1 * x10 + ((-1) * x2 + ((-36) * x5 + 0)) ≤ 5) (f4 : 1 * x9 + ((-1) * x2 + ((-36) * x5 + 0)) ≤ 0) (f5 : x7 = all_0 (((r_0 + 243) + x5))) (f6 : 1 * x6 + ((-1) * all_0 (r_0 + 0) + 0) ≤ 0) (f7 : (-1) * x6 + (1 * all_0 (r_0 + 0) + 0) ≤ 0) (f9 : 1 * texts_0 + ((-1) * x14 + 0) ≤ 7) (f11 : 1 * x14 + ((-1) * x2 + ((-36) * x5 + 0)) ≤ 13) (f12 : x12 < x11) (f13 : 1 * x10 + ((-1) * x2 + ((-36) * x5 + 0)) ≤ 5) (f14 : 1 * x9 + ((-1) * x2 + ((-36) * x5 + 0)) ≤ 0) (f16 : 1 * x10 + ((-1) * x2 + ((-36) * x5 + 0)) ≤ 5) (f17 : 1 * x9 + ((-1) * x2 + ((-36) * x5 + 0)) ≤ 0) (f19 : 1 * x9 + ((-1) * x2 + ((-36) * x5 + 0)) ≤ 0) (f20 : x7 = x4) (f21 : x5 < x6) (kz_0_170 : 0 ≤ texts_0 ∧ texts_0 ≤ 100000000) (ex2 : gx = texts_0) (ex3 : 0 ≤ gx ∧ gx ≤ 99999987) : 1 * texts_0 + ((-1) * gx + 0) ≤ 0 := by
  first | assumption | omega | grind
set_option maxHeartbeats 4000000 in
theorem vc_Mo_writeGroup_at_l4_7_1 (x2 : Int) (x4 : Int) (x5 : Int) (x6 : Int) (x7 : Int) (x9 : Int) (x10 : Int) (x11 : Int) (x12 : Int) (x14 : Int) (x15 : Int) (all_0 : Int → Int) (r_0 : Int) (texts_0 : Int) (gx : Int) (k2 : 0 ≤ x2 ∧ x2 ≤ 99985891) (k4 : 4 ≤ x4 ∧ x4 ≤ 7) (k5 : 0 ≤ x5 ∧ x5 ≤ 23) (k6 : 1 ≤ x6 ∧ x6 ≤ 24) (k7 : 4 ≤ x7 ∧ x7 ≤ 7) (k9 : 0 ≤ x9 ∧ x9 ≤ 99999995) (k10 : 0 ≤ x10 ∧ x10 ≤ 99999992) (k11 : 2 ≤ x11 ∧ x11 ≤ 99) (k12 : 1 ≤ x12 ∧ x12 ≤ 1) (k14 : 0 ≤ x14 ∧ x14 ≤ 99999993) (k15 : 0 ≤ x15 ∧ x15 ≤ 99) (d0 : x4 + 0 ≤ x7 ∧ x7 ≤ x4 + 0) (d1 : x6 + (-4294967296) ≤ x5 ∧ x5 ≤ x6 + (-1)) (f0 : x15 = all_0 (((r_0 + 219) + x5))) (f1 : 1 * x14 + ((-1) * x2 + ((-36) * x5 + 0)) ≤ 13) (f2 : x11 = all_0 (((r_0 + 219) + x5))) (f3 : 1 * x10 + ((-1) * x2 + ((-36) * x5 + 0)) ≤ 5) (f4 : 1 * x9 + ((-1) * x2 + ((-36) * x5 + 0)) ≤ 0) (f5 : x7 = all_0 (((r_0 + 243) + x5))) (f6 : 1 * x6 + ((-1) * all_0 (r_0 + 0) + 0) ≤ 0) (f7 : (-1) * x6 + (1 * all_0 (r_0 + 0) + 0) ≤ 0) (f9 : 1 * texts_0 + ((-1) * x14 + 0) ≤ 7) (f11 : 1 * x14 + ((-1) * x2 + ((-36) * x5 + 0)) ≤ 13) (f12 : x12 < x11) (f13 : 1 * x10 + ((-1) * x2 + ((-36) * x5 + 0)) ≤ 5) (f14 : 1 * x9 + ((-1) * x2 + ((-36) * x5 + 0)) ≤ 0) (f16 : 1 * x10 + ((-1) * x2 + ((-36) * x5 + 0)) ≤ 5) (f17 : 1 * x9 + ((-1) * x2 + ((-36) * x5 + 0)) ≤ 0) (f19 : 1 * x9 + ((-1) * x2 + ((-36) * x5 + 0)) ≤ 0) (f20 : x7 = x4) (f21 : x5 < x6) (kz_0_170 : 0 ≤ texts_0 ∧ texts_0 ≤ 100000000) (ex2 : gx = texts_0) (ex3 : 0 ≤ gx ∧ gx ≤ 99999987) : 1 * gx + ((-1) * x2 + ((-36) * x5 + 0)) ≤ 20 := by
  first | assumption | omega | grind
def o_Mo_writeGroup_at_l4_7 : or_T := (56, 16, [(0, (2, 0, 0, [165])), (2, (0, 0, 99985891, [])), (3, (2, 0, 0, [165])), (4, (0, 4, 7, [])), (5, (0, 0, 23, [])), (6, (0, 1, 24, [])), (7, (0, 4, 7, [])), (9, (0, 0, 99999995, [])), (10, (0, 0, 99999992, [])), (11, (0, 2, 99, [])), (12, (0, 1, 1, [])), (14, (0, 0, 99999993, [])), (15, (0, 0, 99, []))], [(20, [15, 3, 5], [50, 1, 1, 1005, 1002, 1, 2, 1, 0, 3, 1, 2, 4, 7, 4, 3, 2, 1, 5, 0, 219, 1, 2]), (23, [14, 2, 5], [13, 1, -1, -36]), (20, [11, 3, 5], [50, 1, 1, 1005, 1002, 1, 2, 1, 0, 3, 1, 2, 4, 7, 4, 3, 2, 1, 5, 0, 219, 1, 2]), (23, [10, 2, 5], [5, 1, -1, -36]), (23, [9, 2, 5], [0, 1, -1, -36]), (20, [7, 3, 5], [50, 1, 1, 1005, 1002, 1, 2, 1, 0, 3, 1, 2, 4, 7, 4, 3, 2, 1, 5, 0, 243, 1, 2]), (20, [6, 3], [30, 0, 1, 0, 0, -1, 3, 2005000]), (20, [6, 3], [30, 0, -1, 0, 0, 1, 3, 2005000]), (24, [0, 3], []), (20, [3, 14], [30, 7, 1, 1, 170, -1, 0, 0]), (102, [14], [7770675568902916283677847627294075626569627356208558085007249638955617140820833992704, 165170]), (23, [14, 2, 5], [13, 1, -1, -36]), (7, [11, 12], [4]), (23, [10, 2, 5], [5, 1, -1, -36]), (23, [9, 2, 5], [0, 1, -1, -36]), (102, [10], [7770675568902916283677847627294075626569627356208558085007249638955617140820833992704, 165170]), (23, [10, 2, 5], [5, 1, -1, -36]), (23, [9, 2, 5], [0, 1, -1, -36]), (102, [9], [7770675568902916283677847627294075626569627356208558085007249638955617140820833992704, 165170]), (23, [9, 2, 5], [0, 1, -1, -36]), (7, [7, 4], [0]), (7, [5, 6], [2])], [], [(0, 0, 99999987, [])], [(20, [3, 16], [30, 0, 1, 1, 170, -1, 0, 0]), (23, [16, 2, 5], [20, 1, -1, -36])], [], [(7, 4, 0, 0), (5, 6, -4294967296, -1)])
theorem oo_Mo_writeGroup_at_l4_7 {kA : Nat → ClassId} : or_ok PRD kA GG o_Mo_writeGroup_at_l4_7 := by
  refine or_mk fun A ta ws vs hD hth hl => ?_
  intro t0 r0 t2 k2 t3 r3 t4 k4 t5 k5 t6 k6 t7 k7 t9 k9 t10 k10 t11 k11 t12 k12 t14 k14 t15 k15 d0 d1 f0 f1 f2 f3 f4 f5 f6 f7 f8 f9 ta1 w1 le1 s1 f11 f12 f13 f14 ta2 w2 le2 s2 f16 f17 ta3 w3 le3 s3 f19 f20 f21
  replace f0 := shm_718 f0
  replace f1 := shm_1911 f1
  replace f2 := shm_718 f2
  replace f3 := shm_1909 f3
  replace f4 := shm_1908 f4
  replace f5 := shm_585 f5
  replace f6 := shm_135 f6
  replace f7 := shm_136 f7
  replace f8 := shm_5 f8
  replace f9 := shm_233 f9
  replace f11 := shm_1911 f11
  replace f12 := shm_21 f12
  replace f13 := shm_1909 f13
  replace f14 := shm_1908 f14
  replace f16 := shm_1909 f16
  replace f17 := shm_1908 f17
  replace f19 := shm_1908 f19
  replace f20 := shm_37 f20
  replace f21 := shm_6 f21
  have q3 : n_v vs 3 = n_v vs 0 := f8.symm
  simp only [q3] at f0 f2 f5 f6 f7 f9
  have cr_0_2 := fdq_12 hD hth r0
  have br_0_2_F5_0_0 : w_ei ws (w_ar ws (n_v vs 0) 2) (w_fi ws (n_v vs 0) 5 + 0) = w_el ws (w_ar ws (n_v vs 0) 2) (w_fi ws (n_v vs 0) 5 + 0).toNat := rfl
  have kz_0_170 := fdq_13 hD hth r0
  have kv0 := fdq_13 hD hth r0
  obtain ⟨x, ex, hx⟩ := iv_ex (ta := ta) (lo := 0) (hi := 99999987) (z := w_fi ws (n_v vs 0) 170) (by omega) (by omega) (by omega) (by omega)
  have ex2 : v_iv (Value.int x) = w_fi ws (n_v vs 0) 170 := ex
  have ex3 : 0 ≤ v_iv (Value.int x) ∧ v_iv (Value.int x) ≤ 99999987 := tv_rng hx
  have e_2 : n_v (vs ++ [Value.int x]) 2 = n_v vs 2 := n_v_old (by rw [hl]; decide)
  have e_3 : n_v (vs ++ [Value.int x]) 3 = n_v vs 3 := n_v_old (by rw [hl]; decide)
  have e_5 : n_v (vs ++ [Value.int x]) 5 = n_v vs 5 := n_v_old (by rw [hl]; decide)
  have e_16 : n_v (vs ++ [Value.int x]) 16 = Value.int x := n_v_new hl
  have nf0 : fc_1 PRD (20, [3, 16], [30, 0, 1, 1, 170, -1, 0, 0]) ws (vs ++ [Value.int x]) := by
    refine ⟨nf_inA hl rfl, sgq_140 ?_⟩
    · show 1 * w_fi ws (n_v (vs ++ [Value.int x]) 3) 170 + ((-1) * v_iv (n_v (vs ++ [Value.int x]) 16) + 0) ≤ 0
      simp only [e_3, e_16, q3]
      exact vc_Mo_writeGroup_at_l4_7_0 (v_iv (n_v vs 2)) (v_iv (n_v vs 4)) (v_iv (n_v vs 5)) (v_iv (n_v vs 6)) (v_iv (n_v vs 7)) (v_iv (n_v vs 9)) (v_iv (n_v vs 10)) (v_iv (n_v vs 11)) (v_iv (n_v vs 12)) (v_iv (n_v vs 14)) (v_iv (n_v vs 15)) (w_ei ws (w_ar ws (n_v vs 0) 2)) (w_fi ws (n_v vs 0) 5) (w_fi ws (n_v vs 0) 170) (v_iv (Value.int x)) k2 k4 k5 k6 k7 k9 k10 k11 k12 k14 k15 d0 d1 f0 f1 f2 f3 f4 f5 f6 f7 f9 f11 f12 f13 f14 f16 f17 f19 f20 f21 kz_0_170 ex2 ex3
  have nf1 : fc_1 PRD (23, [16, 2, 5], [20, 1, -1, -36]) ws (vs ++ [Value.int x]) := by
    refine ⟨nf_inA hl rfl, sgq_1912 ?_⟩
    · show 1 * v_iv (n_v (vs ++ [Value.int x]) 16) + ((-1) * v_iv (n_v (vs ++ [Value.int x]) 2) + ((-36) * v_iv (n_v (vs ++ [Value.int x]) 5) + 0)) ≤ 20
      simp only [e_2, e_5, e_16]
      exact vc_Mo_writeGroup_at_l4_7_1 (v_iv (n_v vs 2)) (v_iv (n_v vs 4)) (v_iv (n_v vs 5)) (v_iv (n_v vs 6)) (v_iv (n_v vs 7)) (v_iv (n_v vs 9)) (v_iv (n_v vs 10)) (v_iv (n_v vs 11)) (v_iv (n_v vs 12)) (v_iv (n_v vs 14)) (v_iv (n_v vs 15)) (w_ei ws (w_ar ws (n_v vs 0) 2)) (w_fi ws (n_v vs 0) 5) (w_fi ws (n_v vs 0) 170) (v_iv (Value.int x)) k2 k4 k5 k6 k7 k9 k10 k11 k12 k14 k15 d0 d1 f0 f1 f2 f3 f4 f5 f6 f7 f9 f11 f12 f13 f14 f16 f17 f19 f20 f21 kz_0_170 ex2 ex3
  exact ⟨(fun _ h => (by cases h)), [Value.int x], ag_one hx, List.forall_mem_cons.mpr ⟨⟨show (20 : Nat) < 100 from by decide, nf0⟩, List.forall_mem_cons.mpr ⟨⟨show (23 : Nat) < 100 from by decide, nf1⟩, (fun _ h => (by cases h))⟩⟩, (fun _ h => (by cases h))⟩
set_option maxHeartbeats 4000000 in
theorem vc_Mo_writeGroup_at_l4_8_0 (x2 : Int) (x4 : Int) (x5 : Int) (x6 : Int) (x7 : Int) (x9 : Int) (x10 : Int) (x11 : Int) (x12 : Int) (x14 : Int) (x15 : Int) (x16 : Int) (all_0 : Int → Int) (r_0 : Int) (texts_0 : Int) (gx : Int) (k2 : 0 ≤ x2 ∧ x2 ≤ 99985891) (k4 : 4 ≤ x4 ∧ x4 ≤ 7) (k5 : 0 ≤ x5 ∧ x5 ≤ 23) (k6 : 1 ≤ x6 ∧ x6 ≤ 24) (k7 : 4 ≤ x7 ∧ x7 ≤ 7) (k9 : 0 ≤ x9 ∧ x9 ≤ 99999995) (k10 : 0 ≤ x10 ∧ x10 ≤ 99999992) (k11 : 2 ≤ x11 ∧ x11 ≤ 99) (k12 : 1 ≤ x12 ∧ x12 ≤ 1) (k14 : 0 ≤ x14 ∧ x14 ≤ 99999993) (k15 : 0 ≤ x15 ∧ x15 ≤ 99) (k16 : 0 ≤ x16 ∧ x16 ≤ 99999987) (d0 : x4 + 0 ≤ x7 ∧ x7 ≤ x4 + 0) (d1 : x6 + (-4294967296) ≤ x5 ∧ x5 ≤ x6 + (-1)) (f0 : 1 * x16 + ((-1) * x2 + ((-36) * x5 + 0)) ≤ 20) (f1 : x15 = all_0 (((r_0 + 219) + x5))) (f2 : 1 * x14 + ((-1) * x2 + ((-36) * x5 + 0)) ≤ 13) (f3 : x11 = all_0 (((r_0 + 219) + x5))) (f4 : 1 * x10 + ((-1) * x2 + ((-36) * x5 + 0)) ≤ 5) (f5 : 1 * x9 + ((-1) * x2 + ((-36) * x5 + 0)) ≤ 0) (f6 : x7 = all_0 (((r_0 + 243) + x5))) (f7 : 1 * x6 + ((-1) * all_0 (r_0 + 0) + 0) ≤ 0) (f8 : (-1) * x6 + (1 * all_0 (r_0 + 0) + 0) ≤ 0) (f10 : 1 * texts_0 + ((-1) * x16 + 0) ≤ 13) (f12 : 1 * x16 + ((-1) * x2 + ((-36) * x5 + 0)) ≤ 20) (f13 : 1 * x14 + ((-1) * x2 + ((-36) * x5 + 0)) ≤ 13) (f14 : 1 * x10 + ((-1) * x2 + ((-36) * x5 + 0)) ≤ 5) (f15 : 1 * x9 + ((-1) * x2 + ((-36) * x5 + 0)) ≤ 0) (f17 : 1 * x14 + ((-1) * x2 + ((-36) * x5 + 0)) ≤ 13) (f18 : x12 < x11) (f19 : 1 * x10 + ((-1) * x2 + ((-36) * x5 + 0)) ≤ 5) (f20 : 1 * x9 + ((-1) * x2 + ((-36) * x5 + 0)) ≤ 0) (f22 : 1 * x10 + ((-1) * x2 + ((-36) * x5 + 0)) ≤ 5) (f23 : 1 * x9 + ((-1) * x2 + ((-36) * x5 + 0)) ≤ 0) (f25 : 1 * x9 + ((-1) * x2 + ((-36) * x5 + 0)) ≤ 0) (f26 : x7 = x4) (f27 : x5 < x6) (kz_0_170 : 0 ≤ texts_0 ∧ texts_0 ≤ 100000000) (ex2 : gx = texts_0) (ex3 : 0 ≤ gx ∧ gx ≤ 99999999) : 1 * texts_0 + ((-1) * gx + 0) ≤ 0 := by
  first | assumption | omega | grind
set_option maxHeartbeats 4000000 in
theorem vc_Mo_writeGroup_at_l4_8_1 (x2 : Int) (x4 : Int) (x5 : Int) (x6 : Int) (x7 : Int) (x9 : Int) (x10 : Int) (x11 : Int) (x12 : Int) (x14 : Int) (x15 : Int) (x16 : Int) (all_0 : Int → Int) (r_0 : Int) (texts_0 : Int) (gx : Int) (k2 : 0 ≤ x2 ∧ x2 ≤ 99985891) (k4 : 4 ≤ x4 ∧ x4 ≤ 7) (k5 : 0 ≤ x5 ∧ x5 ≤ 23) (k6 : 1 ≤ x6 ∧ x6 ≤ 24) (k7 : 4 ≤ x7 ∧ x7 ≤ 7) (k9 : 0 ≤ x9 ∧ x9 ≤ 99999995) (k10 : 0 ≤ x10 ∧ x10 ≤ 99999992) (k11 : 2 ≤ x11 ∧ x11 ≤ 99) (k12 : 1 ≤ x12 ∧ x12 ≤ 1) (k14 : 0 ≤ x14 ∧ x14 ≤ 99999993) (k15 : 0 ≤ x15 ∧ x15 ≤ 99) (k16 : 0 ≤ x16 ∧ x16 ≤ 99999987) (d0 : x4 + 0 ≤ x7 ∧ x7 ≤ x4 + 0) (d1 : x6 + (-4294967296) ≤ x5 ∧ x5 ≤ x6 + (-1)) (f0 : 1 * x16 + ((-1) * x2 + ((-36) * x5 + 0)) ≤ 20) (f1 : x15 = all_0 (((r_0 + 219) + x5))) (f2 : 1 * x14 + ((-1) * x2 + ((-36) * x5 + 0)) ≤ 13) (f3 : x11 = all_0 (((r_0 + 219) + x5))) (f4 : 1 * x10 + ((-1) * x2 + ((-36) * x5 + 0)) ≤ 5) (f5 : 1 * x9 + ((-1) * x2 + ((-36) * x5 + 0)) ≤ 0) (f6 : x7 = all_0 (((r_0 + 243) + x5))) (f7 : 1 * x6 + ((-1) * all_0 (r_0 + 0) + 0) ≤ 0) (f8 : (-1) * x6 + (1 * all_0 (r_0 + 0) + 0) ≤ 0) (f10 : 1 * texts_0 + ((-1) * x16 + 0) ≤ 13) (f12 : 1 * x16 + ((-1) * x2 + ((-36) * x5 + 0)) ≤ 20) (f13 : 1 * x14 + ((-1) * x2 + ((-36) * x5 + 0)) ≤ 13) (f14 : 1 * x10 + ((-1) * x2 + ((-36) * x5 + 0)) ≤ 5) (f15 : 1 * x9 + ((-1) * x2 + ((-36) * x5 + 0)) ≤ 0) (f17 : 1 * x14 + ((-1) * x2 + ((-36) * x5 + 0)) ≤ 13) (f18 : x12 < x11) (f19 : 1 * x10 + ((-1) * x2 + ((-36) * x5 + 0)) ≤ 5) (f20 : 1 * x9 + ((-1) * x2 + ((-36) * x5 + 0)) ≤ 0) (f22 : 1 * x10 + ((-1) * x2 + ((-36) * x5 + 0)) ≤ 5) (f23 : 1 * x9 + ((-1) * x2 + ((-36) * x5 + 0)) ≤ 0) (f25 : 1 * x9 + ((-1) * x2 + ((-36) * x5 + 0)) ≤ 0) (f26 : x7 = x4) (f27 : x5 < x6) (kz_0_170 : 0 ≤ texts_0 ∧ texts_0 ≤ 100000000) (ex2 : gx = texts_0) (ex3 : 0 ≤ gx ∧ gx ≤ 99999999) : 1 * gx + ((-1) * x2 + ((-36) * x5 + 0)) ≤ 33 := by
  first | assumption | omega | grind
def o_Mo_writeGroup_at_l4_8 : or_T := (63, 18, [(0, (2, 0, 0, [165])), (2, (0, 0, 99985891, [])), (3, (2, 0, 0, [165])), (4, (0, 4, 7, [])), (5, (0, 0, 23, [])), (6, (0, 1, 24, [])), (7, (0, 4, 7, [])), (9, (0, 0, 99999995, [])), (10, (0, 0, 99999992, [])), (11, (0, 2, 99, [])), (12, (0, 1, 1, [])), (14, (0, 0, 99999993, [])), (15, (0, 0, 99, [])), (16, (0, 0, 99999987, []))], [(23, [16, 2, 5], [20, 1, -1, -36]), (20, [15, 3, 5], [50, 1, 1, 1005, 1002, 1, 2, 1, 0, 3, 1, 2, 4, 7, 4, 3, 2, 1, 5, 0, 219, 1, 2]), (23, [14, 2, 5], [13, 1, -1, -36]), (20, [11, 3, 5], [50, 1, 1, 1005, 1002, 1, 2, 1, 0, 3, 1, 2, 4, 7, 4, 3, 2, 1, 5, 0, 219, 1, 2]), (23, [10, 2, 5], [5, 1, -1, -36]), (23, [9, 2, 5], [0, 1, -1, -36]), (20, [7, 3, 5], [50, 1, 1, 1005, 1002, 1, 2, 1, 0, 3, 1, 2, 4, 7, 4, 3, 2, 1, 5, 0, 243, 1, 2]), (20, [6, 3], [30, 0, 1, 0, 0, -1, 3, 2005000]), (20, [6, 3], [30, 0, -1, 0, 0, 1, 3, 2005000]), (24, [0, 3], []), (20, [3, 16], [30, 13, 1, 1, 170, -1, 0, 0]), (102, [16], [7770675568902916283677847627294075626569627356208558085007249638955617140820833992704, 165170]), (23, [16, 2, 5], [20, 1, -1, -36]), (23, [14, 2, 5], [13, 1, -1, -36]), (23, [10, 2, 5], [5, 1, -1, -36]), (23, [9, 2, 5], [0, 1, -1, -36]), (102, [14], [7770675568902916283677847627294075626569627356208558085007249638955617140820833992704, 165170]), (23, [14, 2, 5], [13, 1, -1, -36]), (7, [11, 12], [4]), (23, [10, 2, 5], [5, 1, -1, -36]), (23, [9, 2, 5], [0, 1, -1, -36]), (102, [10], [7770675568902916283677847627294075626569627356208558085007249638955617140820833992704, 165170]), (23, [10, 2, 5], [5, 1, -1, -36]), (23, [9, 2, 5], [0, 1, -1, -36]), (102, [9], [7770675568902916283677847627294075626569627356208558085007249638955617140820833992704, 165170]), (23, [9, 2, 5], [0, 1, -1, -36]), (7, [7, 4], [0]), (7, [5, 6], [2])], [], [(0, 0, 99999999, [])], [(20, [3, 18], [30, 0, 1, 1, 170, -1, 0, 0]), (23, [18, 2, 5], [33, 1, -1, -36])], [], [(7, 4, 0, 0), (5, 6, -4294967296, -1)])
theorem oo_Mo_writeGroup_at_l4_8 {kA : Nat → ClassId} : or_ok PRD kA GG o_Mo_writeGroup_at_l4_8 := by
  refine or_mk fun A ta ws vs hD hth hl => ?_
  intro t0 r0 t2 k2 t3 r3 t4 k4 t5 k5 t6 k6 t7 k7 t9 k9 t10 k10 t11 k11 t12 k12 t14 k14 t15 k15 t16 k16 d0 d1 f0 f1 f2 f3 f4 f5 f6 f7 f8 f9 f10 ta1 w1 le1 s1 f12 f13 f14 f15 ta2 w2 le2 s2 f17 f18 f19 f20 ta3 w3 le3 s3 f22 f23 ta4 w4 le4 s4 f25 f26 f27
  replace f0 := shm_1912 f0
  replace f1 := shm_718 f1
  replace f2 := shm_1911 f2
  replace f3 := shm_718 f3
  replace f4 := shm_1909 f4
  replace f5 := shm_1908 f5
  replace f6 := shm_585 f6
  replace f7 := shm_135 f7
  replace f8 := shm_136 f8
  replace f9 := shm_5 f9
  replace f10 := shm_1026 f10
  replace f12 := shm_1912 f12
  replace f13 := shm_1911 f13
  replace f14 := shm_1909 f14
  replace f15 := shm_1908 f15
  replace f17 := shm_1911 f17
  replace f18 := shm_21 f18
  replace f19 := shm_1909 f19
  replace f20 := shm_1908 f20
  replace f22 := shm_1909 f22
  replace f23 := shm_1908 f23
  replace f25 := shm_1908 f25
  replace f26 := shm_37 f26
  replace f27 := shm_6 f27
  have q3 : n_v vs 3 = n_v vs 0 := f9.symm
  simp only [q3] at f1 f3 f6 f7 f8 f10
  have cr_0_2 := fdq_12 hD hth r0
  have br_0_2_F5_0_0 : w_ei ws (w_ar ws (n_v vs 0) 2) (w_fi ws (n_v vs 0) 5 + 0) = w_el ws (w_ar ws (n_v vs 0) 2) (w_fi ws (n_v vs 0) 5 + 0).toNat := rfl
  have kz_0_170 := fdq_13 hD hth r0
  have kv0 := fdq_13 hD hth r0
  obtain ⟨x, ex, hx⟩ := iv_ex (ta := ta) (lo := 0) (hi := 99999999) (z := w_fi ws (n_v vs 0) 170) (by omega) (by omega) (by omega) (by omega)
  have ex2 : v_iv (Value.int x) = w_fi ws (n_v vs 0) 170 := ex
  have ex3 : 0 ≤ v_iv (Value.int x) ∧ v_iv (Value.int x) ≤ 99999999 := tv_rng hx
  have e_2 : n_v (vs ++ [Value.int x]) 2 = n_v vs 2 := n_v_old (by rw [hl]; decide)
  have e_3 : n_v (vs ++ [Value.int x]) 3 = n_v vs 3 := n_v_old (by rw [hl]; decide)
  have e_5 : n_v (vs ++ [Value.int x]) 5 = n_v vs 5 := n_v_old (by rw [hl]; decide)
  have e_18 : n_v (vs ++ [Value.int x]) 18 = Value.int x := n_v_new hl
  have nf0 : fc_1 PRD (20, [3, 18], [30, 0, 1, 1, 170, -1, 0, 0]) ws (vs ++ [Value.int x]) := by
    refine ⟨nf_inA hl rfl, sgq_140 ?_⟩
    · show 1 * w_fi ws (n_v (vs ++ [Value.int x]) 3) 170 + ((-1) * v_iv (n_v (vs ++ [Value.int x]) 18) + 0) ≤ 0
      simp only [e_3, e_18, q3]
      exact vc_Mo_writeGroup_at_l4_8_0 (v_iv (n_v vs 2)) (v_iv (n_v vs 4)) (v_iv (n_v vs 5)) (v_iv (n_v vs 6)) (v_iv (n_v vs 7)) (v_iv (n_v vs 9)) (v_iv (n_v vs 10)) (v_iv (n_v vs 11)) (v_iv (n_v vs 12)) (v_iv (n_v vs 14)) (v_iv (n_v vs 15)) (v_iv (n_v vs 16)) (w_ei ws (w_ar ws (n_v vs 0) 2)) (w_fi ws (n_v vs 0) 5) (w_fi ws (n_v vs 0) 170) (v_iv (Value.int x)) k2 k4 k5 k6 k7 k9 k10 k11 k12 k14 k15 k16 d0 d1 f0 f1 f2 f3 f4 f5 f6 f7 f8 f10 f12 f13 f14 f15 f17 f18 f19 f20 f22 f23 f25 f26 f27 kz_0_170 ex2 ex3
  have nf1 : fc_1 PRD (23, [18, 2, 5], [33, 1, -1, -36]) ws (vs ++ [Value.int x]) := by
    refine ⟨nf_inA hl rfl, sgq_1913 ?_⟩
    · show 1 * v_iv (n_v (vs ++ [Value.int x]) 18) + ((-1) * v_iv (n_v (vs ++ [Value.int x]) 2) + ((-36) * v_iv (n_v (vs ++ [Value.int x]) 5) + 0)) ≤ 33
      simp only [e_2, e_5, e_18]
      exact vc_Mo_writeGroup_at_l4_8_1 (v_iv (n_v vs 2)) (v_iv (n_v vs 4)) (v_iv (n_v vs 5)) (v_iv (n_v vs 6)) (v_iv (n_v vs 7)) (v_iv (n_v vs 9)) (v_iv (n_v vs 10)) (v_iv (n_v vs 11)) (v_iv (n_v vs 12)) (v_iv (n_v vs 14)) (v_iv (n_v vs 15)) (v_iv (n_v vs 16)) (w_ei ws (w_ar ws (n_v vs 0) 2)) (w_fi ws (n_v vs 0) 5) (w_fi ws (n_v vs 0) 170) (v_iv (Value.int x)) k2 k4 k5 k6 k7 k9 k10 k11 k12 k14 k15 k16 d0 d1 f0 f1 f2 f3 f4 f5 f6 f7 f8 f10 f12 f13 f14 f15 f17 f18 f19 f20 f22 f23 f25 f26 f27 kz_0_170 ex2 ex3
  exact ⟨(fun _ h => (by cases h)), [Value.int x], ag_one hx, List.forall_mem_cons.mpr ⟨⟨show (20 : Nat) < 100 from by decide, nf0⟩, List.forall_mem_cons.mpr ⟨⟨show (23 : Nat) < 100 from by decide, nf1⟩, (fun _ h => (by cases h))⟩⟩, (fun _ h => (by cases h))⟩
set_option maxHeartbeats 4000000 in
theorem vc_Mo_writeGroup_at_l4_9_0 (x2 : Int) (x4 : Int) (x5 : Int) (x6 : Int) (x7 : Int) (x9 : Int) (x10 : Int) (x11 : Int) (x12 : Int) (x14 : Int) (x15 : Int) (x16 : Int) (x18 : Int) (all_0 : Int → Int) (r_0 : Int) (texts_0 : Int) (gx : Int) (k2 : 0 ≤ x2 ∧ x2 ≤ 99985891) (k4 : 4 ≤ x4 ∧ x4 ≤ 7) (k5 : 0 ≤ x5 ∧ x5 ≤ 23) (k6 : 1 ≤ x6 ∧ x6 ≤ 24) (k7 : 4 ≤ x7 ∧ x7 ≤ 7) (k9 : 0 ≤ x9 ∧ x9 ≤ 99999995) (k10 : 0 ≤ x10 ∧ x10 ≤ 99999992) (k11 : 2 ≤ x11 ∧ x11 ≤ 99) (k12 : 1 ≤ x12 ∧ x12 ≤ 1) (k14 : 0 ≤ x14 ∧ x14 ≤ 99999993) (k15 : 0 ≤ x15 ∧ x15 ≤ 99) (k16 : 0 ≤ x16 ∧ x16 ≤ 99999987) (k18 : 0 ≤ x18 ∧ x18 ≤ 99999999) (d0 : x4 + 0 ≤ x7 ∧ x7 ≤ x4 + 0) (d1 : x6 + (-4294967296) ≤ x5 ∧ x5 ≤ x6 + (-1)) (f0 : 1 * x18 + ((-1) * x2 + ((-36) * x5 + 0)) ≤ 33) (f1 : 1 * x16 + ((-1) * x2 + ((-36) * x5 + 0)) ≤ 20) (f2 : x15 = all_0 (((r_0 + 219) + x5))) (f3 : 1 * x14 + ((-1) * x2 + ((-36) * x5 + 0)) ≤ 13) (f4 : x11 = all_0 (((r_0 + 219) + x5))) (f5 : 1 * x10 + ((-1) * x2 + ((-36) * x5 + 0)) ≤ 5) (f6 : 1 * x9 + ((-1) * x2 + ((-36) * x5 + 0)) ≤ 0) (f7 : x7 = all_0 (((r_0 + 243) + x5))) (f8 : 1 * x6 + ((-1) * all_0 (r_0 + 0) + 0) ≤ 0) (f9 : (-1) * x6 + (1 * all_0 (r_0 + 0) + 0) ≤ 0) (f11 : 1 * texts_0 + ((-1) * x18 + 0) ≤ 1) (f13 : 1 * x18 + ((-1) * x2 + ((-36) * x5 + 0)) ≤ 33) (f14 : 1 * x16 + ((-1) * x2 + ((-36) * x5 + 0)) ≤ 20) (f15 : 1 * x14 + ((-1) * x2 + ((-36) * x5 + 0)) ≤ 13) (f16 : 1 * x10 + ((-1) * x2 + ((-36) * x5 + 0)) ≤ 5) (f17 : 1 * x9 + ((-1) * x2 + ((-36) * x5 + 0)) ≤ 0) (f19 : 1 * x16 + ((-1) * x2 + ((-36) * x5 + 0)) ≤ 20) (f20 : 1 * x14 + ((-1) * x2 + ((-36) * x5 + 0)) ≤ 13) (f21 : 1 * x10 + ((-1) * x2 + ((-36) * x5 + 0)) ≤ 5) (f22 : 1 * x9 + ((-1) * x2 + ((-36) * x5 + 0)) ≤ 0) (f24 : 1 * x14 + ((-1) * x2 + ((-36) * x5 + 0)) ≤ 13) (f25 : x12 < x11) (f26 : 1 * x10 + ((-1) * x2 + ((-36) * x5 + 0)) ≤ 5) (f27 : 1 * x9 + ((-1) * x2 + ((-36) * x5 + 0)) ≤ 0) (f29 : 1 * x10 + ((-1) * x2 + ((-36) * x5 + 0)) ≤ 5) (f30 : 1 * x9 + ((-1) * x2 + ((-36) * x5 + 0)) ≤ 0) (f32 : 1 * x9 + ((-1) * x2 + ((-36) * x5 + 0)) ≤ 0) (f33 : x7 = x4) (f34 : x5 < x6) (kz_0_170 : 0 ≤ texts_0 ∧ texts_0 ≤ 100000000) (ex2 : gx = texts_0) (ex3 : 0 ≤ gx ∧ gx ≤ 99999998) : 1 * texts_0 + ((-1) * gx + 0) ≤ 0 := by
  first | assumption | omega | grind
set_option maxHeartbeats 4000000 in
theorem vc_Mo_writeGroup_at_l4_9_1 (x2 : Int) (x4 : Int) (x5 : Int) (x6 : Int) (x7 : Int) (x9 : Int) (x10 : Int) (x11 : Int) (x12 : Int) (x14 : Int) (x15 : Int) (x16 : Int) (x18 : Int) (all_0 : Int → Int) (r_0 : Int) (texts_0 : Int) (gx : Int) (k2 : 0 ≤ x2 ∧ x2 ≤ 99985891) (k4 : 4 ≤ x4 ∧ x4 ≤ 7) (k5 : 0 ≤ x5 ∧ x5 ≤ 23) (k6 : 1 ≤ x6 ∧ x6 ≤ 24) (k7 : 4 ≤ x7 ∧ x7 ≤ 7) (k9 : 0 ≤ x9 ∧ x9 ≤ 99999995) (k10 : 0 ≤ x10 ∧ x10 ≤ 99999992) (k11 : 2 ≤ x11 ∧ x11 ≤ 99) (k12 : 1 ≤ x12 ∧ x12 ≤ 1) (k14 : 0 ≤ x14 ∧ x14 ≤ 99999993) (k15 : 0 ≤ x15 ∧ x15 ≤ 99) (k16 : 0 ≤ x16 ∧ x16 ≤ 99999987) (k18 : 0 ≤ x18 ∧ x18 ≤ 99999999) (d0 : x4 + 0 ≤ x7 ∧ x7 ≤ x4 + 0) (d1 : x6 + (-4294967296) ≤ x5 ∧ x5 ≤ x6 + (-1)) (f0 : 1 * x18 + ((-1) * x2 + ((-36) * x5 + 0)) ≤ 33) (f1 : 1 * x16 + ((-1) * x2 + ((-36) * x5 + 0)) ≤ 20) (f2 : x15 = all_0 (((r_0 + 219) + x5))) (f3 : 1 * x14 + ((-1) * x2 + ((-36) * x5 + 0)) ≤ 13) (f4 : x11 = all_0 (((r_0 + 219) + x5))) (f5 : 1 * x10 + ((-1) * x2 + ((-36) * x5 + 0)) ≤ 5) (f6 : 1 * x9 + ((-1) * x2 + ((-36) * x5 + 0)) ≤ 0) (f7 : x7 = all_0 (((r_0 + 243) + x5))) (f8 : 1 * x6 + ((-1) * all_0 (r_0 + 0) + 0) ≤ 0) (f9 : (-1) * x6 + (1 * all_0 (r_0 + 0) + 0) ≤ 0) (f11 : 1 * texts_0 + ((-1) * x18 + 0) ≤ 1) (f13 : 1 * x18 + ((-1) * x2 + ((-36) * x5 + 0)) ≤ 33) (f14 : 1 * x16 + ((-1) * x2 + ((-36) * x5 + 0)) ≤ 20) (f15 : 1 * x14 + ((-1) * x2 + ((-36) * x5 + 0)) ≤ 13) (f16 : 1 * x10 + ((-1) * x2 + ((-36) * x5 + 0)) ≤ 5) (f17 : 1 * x9 + ((-1) * x2 + ((-36) * x5 + 0)) ≤ 0) (f19 : 1 * x16 + ((-1) * x2 + ((-36) * x5 + 0)) ≤ 20) (f20 : 1 * x14 + ((-1) * x2 + ((-36) * x5 + 0)) ≤ 13) (f21 : 1 * x10 + ((-1) * x2 + ((-36) * x5 + 0)) ≤ 5) (f22 : 1 * x9 + ((-1) * x2 + ((-36) * x5 + 0)) ≤ 0) (f24 : 1 * x14 + ((-1) * x2 + ((-36) * x5 + 0)) ≤ 13) (f25 : x12 < x11) (f26 : 1 * x10 + ((-1) * x2 + ((-36) * x5 + 0)) ≤ 5) (f27 : 1 * x9 + ((-1) * x2 + ((-36) * x5 + 0)) ≤ 0) (f29 : 1 * x10 + ((-1) * x2 + ((-36) * x5 + 0)) ≤ 5) (f30 : 1 * x9 + ((-1) * x2 + ((-36) * x5 + 0)) ≤ 0) (f32 : 1 * x9 + ((-1) * x2 + ((-36) * x5 + 0)) ≤ 0) (f33 : x7 = x4) (f34 : x5 < x6) (kz_0_170 : 0 ≤ texts_0 ∧ texts_0 ≤ 100000000) (ex2 : gx = texts_0) (ex3 : 0 ≤ gx ∧ gx ≤ 99999998) : 1 * gx + ((-1) * x2 + ((-36) * x5 + 0)) ≤ 34 := by
  first | assumption | omega | grind
def o_Mo_writeGroup_at_l4_9 : or_T := (70, 20, [(0, (2, 0, 0, [165])), (2, (0, 0, 99985891, [])), (3, (2, 0, 0, [165])), (4, (0, 4, 7, [])), (5, (0, 0, 23, [])), (6, (0, 1, 24, [])), (7, (0, 4, 7, [])), (9, (0, 0, 99999995, [])), (10, (0, 0, 99999992, [])), (11, (0, 2, 99, [])), (12, (0, 1, 1, [])), (14, (0, 0, 99999993, [])), (15, (0, 0, 99, [])), (16, (0, 0, 99999987, [])), (18, (0, 0, 99999999, []))], [(23, [18, 2, 5], [33, 1, -1, -36]), (23, [16, 2, 5], [20, 1, -1, -36]), (20, [15, 3, 5], [50, 1, 1, 1005, 1002, 1, 2, 1, 0, 3, 1, 2, 4, 7, 4, 3, 2, 1, 5, 0, 219, 1, 2]), (23, [14, 2, 5], [13, 1, -1, -36]), (20, [11, 3, 5], [50, 1, 1, 1005, 1002, 1, 2, 1, 0, 3, 1, 2, 4, 7, 4, 3, 2, 1, 5, 0, 219, 1, 2]), (23, [10, 2, 5], [5, 1, -1, -36]), (23, [9, 2, 5], [0, 1, -1, -36]), (20, [7, 3, 5], [50, 1, 1, 1005, 1002, 1, 2, 1, 0, 3, 1, 2, 4, 7, 4, 3, 2, 1, 5, 0, 243, 1, 2]), (20, [6, 3], [30, 0, 1, 0, 0, -1, 3, 2005000]), (20, [6, 3], [30, 0, -1, 0, 0, 1, 3, 2005000]), (24, [0, 3], []), (20, [3, 18], [30, 1, 1, 1, 170, -1, 0, 0]), (102, [18], [7770675568902916283677847627294075626569627356208558085007249638955617140820833992704, 165170]), (23, [18, 2, 5], [33, 1, -1, -36]), (23, [16, 2, 5], [20, 1, -1, -36]), (23, [14, 2, 5], [13, 1, -1, -36]), (23, [10, 2, 5], [5, 1, -1, -36]), (23, [9, 2, 5], [0, 1, -1, -36]), (102, [16], [7770675568902916283677847627294075626569627356208558085007249638955617140820833992704, 165170]), (23, [16, 2, 5], [20, 1, -1, -36]), (23, [14, 2, 5], [13, 1, -1, -36]), (23, [10, 2, 5], [5, 1, -1, -36]), (23, [9, 2, 5], [0, 1, -1, -36]), (102, [14], [7770675568902916283677847627294075626569627356208558085007249638955617140820833992704, 165170]), (23, [14, 2, 5], [13, 1, -1, -36]), (7, [11, 12], [4]), (23, [10, 2, 5], [5, 1, -1, -36]), (23, [9, 2, 5], [0, 1, -1, -36]), (102, [10], [7770675568902916283677847627294075626569627356208558085007249638955617140820833992704, 165170]), (23, [10, 2, 5], [5, 1, -1, -36]), (23, [9, 2, 5], [0, 1, -1, -36]), (102, [9], [7770675568902916283677847627294075626569627356208558085007249638955617140820833992704, 165170]), (23, [9, 2, 5], [0, 1, -1, -36]), (7, [7, 4], [0]), (7, [5, 6], [2])], [], [(0, 0, 99999998, [])], [(20, [3, 20], [30, 0, 1, 1, 170, -1, 0, 0]), (23, [20, 2, 5], [34, 1, -1, -36])], [], [(7, 4, 0, 0), (5, 6, -4294967296, -1)])
theorem oo_Mo_writeGroup_at_l4_9 {kA : Nat → ClassId} : or_ok PRD kA GG o_Mo_writeGroup_at_l4_9 := by
  refine or_mk fun A ta ws vs hD hth hl => ?_
  intro t0 r0 t2 k2 t3 r3 t4 k4 t5 k5 t6 k6 t7 k7 t9 k9 t10 k10 t11 k11 t12 k12 t14 k14 t15 k15 t16 k16 t18 k18 d0 d1 f0 f1 f2 f3 f4 f5 f6 f7 f8 f9 f10 f11 ta1 w1 le1 s1 f13 f14 f15 f16 f17 ta2 w2 le2 s2 f19 f20 f21 f22 ta3 w3 le3 s3 f24 f25 f26 f27 ta4 w4 le4 s4 f29 f30 ta5 w5 le5 s5 f32 f33 f34
  replace f0 := shm_1913 f0
  replace f1 := shm_1912 f1
  replace f2 := shm_718 f2
  replace f3 := shm_1911 f3
  replace f4 := shm_718 f4
  replace f5 := shm_1909 f5
  replace f6 := shm_1908 f6
  replace f7 := shm_585 f7
  replace f8 := shm_135 f8
  replace f9 := shm_136 f9
  replace f10 := shm_5 f10
  replace f11 := shm_141 f11
  replace f13 := shm_1913 f13
  replace f14 := shm_1912 f14
  replace f15 := shm_1911 f15
  replace f16 := shm_1909 f16
  replace f17 := shm_1908 f17
  replace f19 := shm_1912 f19
  replace f20 := shm_1911 f20
  replace f21 := shm_1909 f21
  replace f22 := shm_1908 f22
  replace f24 := shm_1911 f24
  replace f25 := shm_21 f25
  replace f26 := shm_1909 f26
  replace f27 := shm_1908 f27
  replace f29 := shm_1909 f29
  replace f30 := shm_1908 f30
  replace f32 := shm_1908 f32
  replace f33 := shm_37 f33
  replace f34 := shm_6 f34
  have q3 : n_v vs 3 = n_v vs 0 := f10.symm
  simp only [q3] at f2 f4 f7 f8 f9 f11
  have cr_0_2 := fdq_12 hD hth r0
  have br_0_2_F5_0_0 : w_ei ws (w_ar ws (n_v vs 0) 2) (w_fi ws (n_v vs 0) 5 + 0) = w_el ws (w_ar ws (n_v vs 0) 2) (w_fi ws (n_v vs 0) 5 + 0).toNat := rfl
  have kz_0_170 := fdq_13 hD hth r0
  have kv0 := fdq_13 hD hth r0
  obtain ⟨x, ex, hx⟩ := iv_ex (ta := ta) (lo := 0) (hi := 99999998) (z := w_fi ws (n_v vs 0) 170) (by omega) (by omega) (by omega) (by omega)
  have ex2 : v_iv (Value.int x) = w_fi ws (n_v vs 0) 170 := ex
  have ex3 : 0 ≤ v_iv (Value.int x) ∧ v_iv (Value.int x) ≤ 99999998 := tv_rng hx
  have e_2 : n_v (vs ++ [Value.int x]) 2 = n_v vs 2 := n_v_old (by rw [hl]; decide)
  have e_3 : n_v (vs ++ [Value.int x]) 3 = n_v vs 3 := n_v_old (by rw [hl]; decide)
  have e_5 : n_v (vs ++ [Value.int x]) 5 = n_v vs 5 := n_v_old (by rw [hl]; decide)
  have e_20 : n_v (vs ++ [Value.int x]) 20 = Value.int x := n_v_new hl
  have nf0 : fc_1 PRD (20, [3, 20], [30, 0, 1, 1, 170, -1, 0, 0]) ws (vs ++ [Value.int x]) := by
    refine ⟨nf_inA hl rfl, sgq_140 ?_⟩
    · show 1 * w_fi ws (n_v (vs ++ [Value.int x]) 3) 170 + ((-1) * v_iv (n_v (vs ++ [Value.int x]) 20) + 0) ≤ 0
      simp only [e_3, e_20, q3]
      exact vc_Mo_writeGroup_at_l4_9_0 (v_iv (n_v vs 2)) (v_iv (n_v vs 4)) (v_iv (n_v vs 5)) (v_iv (n_v vs 6)) (v_iv (n_v vs 7)) (v_iv (n_v vs 9)) (v_iv (n_v vs 10)) (v_iv (n_v vs 11)) (v_iv (n_v vs 12)) (v_iv (n_v vs 14)) (v_iv (n_v vs 15)) (v_iv (n_v vs 16)) (v_iv (n_v vs 18)) (w_ei ws (w_ar ws (n_v vs 0) 2)) (w_fi ws (n_v vs 0) 5) (w_fi ws (n_v vs 0) 170) (v_iv (Value.int x)) k2 k4 k5 k6 k7 k9 k10 k11 k12 k14 k15 k16 k18 d0 d1 f0 f1 f2 f3 f4 f5 f6 f7 f8 f9 f11 f13 f14 f15 f16 f17 f19 f20 f21 f22 f24 f25 f26 f27 f29 f30 f32 f33 f34 kz_0_170 ex2 ex3
  have nf1 : fc_1 PRD (23, [20, 2, 5], [34, 1, -1, -36]) ws (vs ++ [Value.int x]) := by
    refine ⟨nf_inA hl rfl, sgq_1910 ?_⟩
    · show 1 * v_iv (n_v (vs ++ [Value.int x]) 20) + ((-1) * v_iv (n_v (vs ++ [Value.int x]) 2) + ((-36) * v_iv (n_v (vs ++ [Value.int x]) 5) + 0)) ≤ 34
      simp only [e_2, e_5, e_20]
      exact vc_Mo_writeGroup_at_l4_9_1 (v_iv (n_v vs 2)) (v_iv (n_v vs 4)) (v_iv (n_v vs 5)) (v_iv (n_v vs 6)) (v_iv (n_v vs 7)) (v_iv (n_v vs 9)) (v_iv (n_v vs 10)) (v_iv (n_v vs 11)) (v_iv (n_v vs 12)) (v_iv (n_v vs 14)) (v_iv (n_v vs 15)) (v_iv (n_v vs 16)) (v_iv (n_v vs 18)) (w_ei ws (w_ar ws (n_v vs 0) 2)) (w_fi ws (n_v vs 0) 5) (w_fi ws (n_v vs 0) 170) (v_iv (Value.int x)) k2 k4 k5 k6 k7 k9 k10 k11 k12 k14 k15 k16 k18 d0 d1 f0 f1 f2 f3 f4 f5 f6 f7 f8 f9 f11 f13 f14 f15 f16 f17 f19 f20 f21 f22 f24 f25 f26 f27 f29 f30 f32 f33 f34 kz_0_170 ex2 ex3
  exact ⟨(fun _ h => (by cases h)), [Value.int x], ag_one hx, List.forall_mem_cons.mpr ⟨⟨show (20 : Nat) < 100 from by decide, nf0⟩, List.forall_mem_cons.mpr ⟨⟨show (23 : Nat) < 100 from by decide, nf1⟩, (fun _ h => (by cases h))⟩⟩, (fun _ h => (by cases h))⟩
set_option maxHeartbeats 4000000 in
theorem vc_Mo_writeGroup_at_l4_10_0 (x2 : Int) (x4 : Int) (x5 : Int) (x6 : Int) (x7 : Int) (x9 : Int) (x10 : Int) (x11 : Int) (x12 : Int) (x14 : Int) (x15 : Int) (x16 : Int) (x18 : Int) (x20 : Int) (x21 : Int) (all_0 : Int → Int) (r_0 : Int) (texts_0 : Int) (k2 : 0 ≤ x2 ∧ x2 ≤ 99985891) (k4 : 4 ≤ x4 ∧ x4 ≤ 7) (k5 : 0 ≤ x5 ∧ x5 ≤ 23) (k6 : 1 ≤ x6 ∧ x6 ≤ 24) (k7 : 4 ≤ x7 ∧ x7 ≤ 7) (k9 : 0 ≤ x9 ∧ x9 ≤ 99999995) (k10 : 0 ≤ x10 ∧ x10 ≤ 99999992) (k11 : 2 ≤ x11 ∧ x11 ≤ 99) (k12 : 1 ≤ x12 ∧ x12 ≤ 1) (k14 : 0 ≤ x14 ∧ x14 ≤ 99999993) (k15 : 0 ≤ x15 ∧ x15 ≤ 99) (k16 : 0 ≤ x16 ∧ x16 ≤ 99999987) (k18 : 0 ≤ x18 ∧ x18 ≤ 99999999) (k20 : 0 ≤ x20 ∧ x20 ≤ 99999998) (k21 : 1 ≤ x21 ∧ x21 ≤ 24) (d0 : x5 + 1 ≤ x21 ∧ x21 ≤ x5 + 1) (d1 : x6 + (-4294967296) ≤ x21 ∧ x21 ≤ x6 + 0) (d2 : x4 + 0 ≤ x7 ∧ x7 ≤ x4 + 0) (d3 : x6 + (-4294967296) ≤ x5 ∧ x5 ≤ x6 + (-1)) (f0 : x21 = x5 + 1) (f1 : 1 * x20 + ((-1) * x2 + ((-36) * x5 + 0)) ≤ 34) (f2 : 1 * x18 + ((-1) * x2 + ((-36) * x5 + 0)) ≤ 33) (f3 : 1 * x16 + ((-1) * x2 + ((-36) * x5 + 0)) ≤ 20) (f4 : x15 = all_0 (((r_0 + 219) + x5))) (f5 : 1 * x14 + ((-1) * x2 + ((-36) * x5 + 0)) ≤ 13) (f6 : x11 = all_0 (((r_0 + 219) + x5))) (f7 : 1 * x10 + ((-1) * x2 + ((-36) * x5 + 0)) ≤ 5) (f8 : 1 * x9 + ((-1) * x2 + ((-36) * x5 + 0)) ≤ 0) (f9 : x7 = all_0 (((r_0 + 243) + x5))) (f10 : 1 * x6 + ((-1) * all_0 (r_0 + 0) + 0) ≤ 0) (f11 : (-1) * x6 + (1 * all_0 (r_0 + 0) + 0) ≤ 0) (f13 : 1 * texts_0 + ((-1) * x20 + 0) ≤ 2) (f15 : 1 * x20 + ((-1) * x2 + ((-36) * x5 + 0)) ≤ 34) (f16 : 1 * x18 + ((-1) * x2 + ((-36) * x5 + 0)) ≤ 33) (f17 : 1 * x16 + ((-1) * x2 + ((-36) * x5 + 0)) ≤ 20) (f18 : 1 * x14 + ((-1) * x2 + ((-36) * x5 + 0)) ≤ 13) (f19 : 1 * x10 + ((-1) * x2 + ((-36) * x5 + 0)) ≤ 5) (f20 : 1 * x9 + ((-1) * x2 + ((-36) * x5 + 0)) ≤ 0) (f22 : 1 * x18 + ((-1) * x2 + ((-36) * x5 + 0)) ≤ 33) (f23 : 1 * x16 + ((-1) * x2 + ((-36) * x5 + 0)) ≤ 20) (f24 : 1 * x14 + ((-1) * x2 + ((-36) * x5 + 0)) ≤ 13) (f25 : 1 * x10 + ((-1) * x2 + ((-36) * x5 + 0)) ≤ 5) (f26 : 1 * x9 + ((-1) * x2 + ((-36) * x5 + 0)) ≤ 0) (f28 : 1 * x16 + ((-1) * x2 + ((-36) * x5 + 0)) ≤ 20) (f29 : 1 * x14 + ((-1) * x2 + ((-36) * x5 + 0)) ≤ 13) (f30 : 1 * x10 + ((-1) * x2 + ((-36) * x5 + 0)) ≤ 5) (f31 : 1 * x9 + ((-1) * x2 + ((-36) * x5 + 0)) ≤ 0) (f33 : 1 * x14 + ((-1) * x2 + ((-36) * x5 + 0)) ≤ 13) (f34 : x12 < x11) (f35 : 1 * x10 + ((-1) * x2 + ((-36) * x5 + 0)) ≤ 5) (f36 : 1 * x9 + ((-1) * x2 + ((-36) * x5 + 0)) ≤ 0) (f38 : 1 * x10 + ((-1) * x2 + ((-36) * x5 + 0)) ≤ 5) (f39 : 1 * x9 + ((-1) * x2 + ((-36) * x5 + 0)) ≤ 0) (f41 : 1 * x9 + ((-1) * x2 + ((-36) * x5 + 0)) ≤ 0) (f42 : x7 = x4) (f43 : x5 < x6) (kz_0_170 : 0 ≤ texts_0 ∧ texts_0 ≤ 100000000) : 1 * texts_0 + ((-1) * x2 + ((-36) * x21 + 0)) ≤ 0 := by
  first | assumption | omega | grind
def o_Mo_writeGroup_at_l4_10 : or_T := (2, 22, [(0, (2, 0, 0, [165])), (2, (0, 0, 99985891, [])), (4, (0, 4, 7, [])), (5, (0, 0, 23, [])), (6, (0, 1, 24, [])), (7, (0, 4, 7, [])), (9, (0, 0, 99999995, [])), (10, (0, 0, 99999992, [])), (11, (0, 2, 99, [])), (12, (0, 1, 1, [])), (14, (0, 0, 99999993, [])), (15, (0, 0, 99, [])), (16, (0, 0, 99999987, [])), (18, (0, 0, 99999999, [])), (20, (0, 0, 99999998, [])), (21, (0, 1, 24, []))], [(6, [21, 5], [1]), (23, [20, 2, 5], [34, 1, -1, -36]), (23, [18, 2, 5], [33, 1, -1, -36]), (23, [16, 2, 5], [20, 1, -1, -36]), (20, [15, 3, 5], [50, 1, 1, 1005, 1002, 1, 2, 1, 0, 3, 1, 2, 4, 7, 4, 3, 2, 1, 5, 0, 219, 1, 2]), (23, [14, 2, 5], [13, 1, -1, -36]), (20, [11, 3, 5], [50, 1, 1, 1005, 1002, 1, 2, 1, 0, 3, 1, 2, 4, 7, 4, 3, 2, 1, 5, 0, 219, 1, 2]), (23, [10, 2, 5], [5, 1, -1, -36]), (23, [9, 2, 5], [0, 1, -1, -36]), (20, [7, 3, 5], [50, 1, 1, 1005, 1002, 1, 2, 1, 0, 3, 1, 2, 4, 7, 4, 3, 2, 1, 5, 0, 243, 1, 2]), (20, [6, 3], [30, 0, 1, 0, 0, -1, 3, 2005000]), (20, [6, 3], [30, 0, -1, 0, 0, 1, 3, 2005000]), (24, [0, 3], []), (20, [3, 20], [30, 2, 1, 1, 170, -1, 0, 0]), (102, [20], [7770675568902916283677847627294075626569627356208558085007249638955617140820833992704, 165170]), (23, [20, 2, 5], [34, 1, -1, -36]), (23, [18, 2, 5], [33, 1, -1, -36]), (23, [16, 2, 5], [20, 1, -1, -36]), (23, [14, 2, 5], [13, 1, -1, -36]), (23, [10, 2, 5], [5, 1, -1, -36]), (23, [9, 2, 5], [0, 1, -1, -36]), (102, [18], [7770675568902916283677847627294075626569627356208558085007249638955617140820833992704, 165170]), (23, [18, 2, 5], [33, 1, -1, -36]), (23, [16, 2, 5], [20, 1, -1, -36]), (23, [14, 2, 5], [13, 1, -1, -36]), (23, [10, 2, 5], [5, 1, -1, -36]), (23, [9, 2, 5], [0, 1, -1, -36]), (102, [16], [7770675568902916283677847627294075626569627356208558085007249638955617140820833992704, 165170]), (23, [16, 2, 5], [20, 1, -1, -36]), (23, [14, 2, 5], [13, 1, -1, -36]), (23, [10, 2, 5], [5, 1, -1, -36]), (23, [9, 2, 5], [0, 1, -1, -36]), (102, [14], [7770675568902916283677847627294075626569627356208558085007249638955617140820833992704, 165170]), (23, [14, 2, 5], [13, 1, -1, -36]), (7, [11, 12], [4]), (23, [10, 2, 5], [5, 1, -1, -36]), (23, [9, 2, 5], [0, 1, -1, -36]), (102, [10], [7770675568902916283677847627294075626569627356208558085007249638955617140820833992704, 165170]), (23, [10, 2, 5], [5, 1, -1, -36]), (23, [9, 2, 5], [0, 1, -1, -36]), (102, [9], [7770675568902916283677847627294075626569627356208558085007249638955617140820833992704, 165170]), (23, [9, 2, 5], [0, 1, -1, -36]), (7, [7, 4], [0]), (7, [5, 6], [2])], [], [], [(20, [3, 2, 21], [30, 0, 1, 1, 170, -1, 0, 0, -36, 0, 0])], [], [(21, 5, 1, 1), (21, 6, -4294967296, 0), (7, 4, 0, 0), (5, 6, -4294967296, -1)])
theorem oo_Mo_writeGroup_at_l4_10 {kA : Nat → ClassId} : or_ok PRD kA GG o_Mo_writeGroup_at_l4_10 := by
  refine or_mk fun A ta ws vs hD hth hl => ?_
  intro t0 r0 t2 k2 t4 k4 t5 k5 t6 k6 t7 k7 t9 k9 t10 k10 t11 k11 t12 k12 t14 k14 t15 k15 t16 k16 t18 k18 t20 k20 t21 k21 d0 d1 d2 d3 f0 f1 f2 f3 f4 f5 f6 f7 f8 f9 f10 f11 f12 f13 ta1 w1 le1 s1 f15 f16 f17 f18 f19 f20 ta2 w2 le2 s2 f22 f23 f24 f25 f26 ta3 w3 le3 s3 f28 f29 f30 f31 ta4 w4 le4 s4 f33 f34 f35 f36 ta5 w5 le5 s5 f38 f39 ta6 w6 le6 s6 f41 f42 f43
  replace f0 := shm_4 f0
  replace f1 := shm_1910 f1
  replace f2 := shm_1913 f2
  replace f3 := shm_1912 f3
  replace f4 := shm_718 f4
  replace f5 := shm_1911 f5
  replace f6 := shm_718 f6
  replace f7 := shm_1909 f7
  replace f8 := shm_1908 f8
  replace f9 := shm_585 f9
  replace f10 := shm_135 f10
  replace f11 := shm_136 f11
  replace f12 := shm_5 f12
  replace f13 := shm_234 f13
  replace f15 := shm_1910 f15
  replace f16 := shm_1913 f16
  replace f17 := shm_1912 f17
  replace f18 := shm_1911 f18
  replace f19 := shm_1909 f19
  replace f20 := shm_1908 f20
  replace f22 := shm_1913 f22
  replace f23 := shm_1912 f23
  replace f24 := shm_1911 f24
  replace f25 := shm_1909 f25
  replace f26 := shm_1908 f26
  replace f28 := shm_1912 f28
  replace f29 := shm_1911 f29
  replace f30 := shm_1909 f30
  replace f31 := shm_1908 f31
  replace f33 := shm_1911 f33
  replace f34 := shm_21 f34
  replace f35 := shm_1909 f35
  replace f36 := shm_1908 f36
  replace f38 := shm_1909 f38
  replace f39 := shm_1908 f39
  replace f41 := shm_1908 f41
  replace f42 := shm_37 f42
  replace f43 := shm_6 f43
  have q3 : n_v vs 3 = n_v vs 0 := f12.symm
  simp only [q3] at f4 f6 f9 f10 f11 f13
  have kz_0_170 := fdq_13 hD hth r0
  have nf0 : fc_1 PRD (20, [3, 2, 21], [30, 0, 1, 1, 170, -1, 0, 0, -36, 0, 0]) ws (vs) := by
    refine ⟨nf_in hl rfl, sgq_1906 ?_⟩
    · show 1 * w_fi ws (n_v vs 3) 170 + ((-1) * v_iv (n_v vs 2) + ((-36) * v_iv (n_v vs 21) + 0)) ≤ 0
      rw [q3]
      exact vc_Mo_writeGroup_at_l4_10_0 (v_iv (n_v vs 2)) (v_iv (n_v vs 4)) (v_iv (n_v vs 5)) (v_iv (n_v vs 6)) (v_iv (n_v vs 7)) (v_iv (n_v vs 9)) (v_iv (n_v vs 10)) (v_iv (n_v vs 11)) (v_iv (n_v vs 12)) (v_iv (n_v vs 14)) (v_iv (n_v vs 15)) (v_iv (n_v vs 16)) (v_iv (n_v vs 18)) (v_iv (n_v vs 20)) (v_iv (n_v vs 21)) (w_ei ws (w_ar ws (n_v vs 0) 2)) (w_fi ws (n_v vs 0) 5) (w_fi ws (n_v vs 0) 170) k2 k4 k5 k6 k7 k9 k10 k11 k12 k14 k15 k16 k18 k20 k21 d0 d1 d2 d3 f0 f1 f2 f3 f4 f5 f6 f7 f8 f9 f10 f11 f13 f15 f16 f17 f18 f19 f20 f22 f23 f24 f25 f26 f28 f29 f30 f31 f33 f34 f35 f36 f38 f39 f41 f42 f43 kz_0_170
  refine ⟨(fun _ h => (by cases h)), [], trivial, ?_, (fun _ h => (by cases h))⟩
  rw [List.append_nil]
  exact List.forall_mem_cons.mpr ⟨⟨show (20 : Nat) < 100 from by decide, nf0⟩, (fun _ h => (by cases h))⟩
set_option maxHeartbeats 4000000 in
theorem vc_Mo_writeGroup_at_l4_11_0 (x2 : Int) (x4 : Int) (x5 : Int) (x6 : Int) (x7 : Int) (x8 : Int) (all_0 : Int → Int) (r_0 : Int) (texts_0 : Int) (k2 : 0 ≤ x2 ∧ x2 ≤ 99985891) (k4 : 4 ≤ x4 ∧ x4 ≤ 7) (k5 : 0 ≤ x5 ∧ x5 ≤ 23) (k6 : 1 ≤ x6 ∧ x6 ≤ 24) (k7 : 0 ≤ x7 ∧ x7 ≤ 7) (k8 : 1 ≤ x8 ∧ x8 ≤ 24) (d0 : x5 + 1 ≤ x8 ∧ x8 ≤ x5 + 1) (d1 : x6 + (-4294967296) ≤ x8 ∧ x8 ≤ x6 + 0) (d2 : x6 + (-4294967296) ≤ x5 ∧ x5 ≤ x6 + (-1)) (f0 : x8 = x5 + 1) (f1 : x7 ≠ x4) (f2 : x7 = all_0 (((r_0 + 243) + x5))) (f3 : x5 < x6) (f4 : 1 * x6 + ((-1) * all_0 (r_0 + 0) + 0) ≤ 0) (f5 : (-1) * x6 + (1 * all_0 (r_0 + 0) + 0) ≤ 0) (f6 : 1 * texts_0 + ((-1) * x2 + ((-36) * x5 + 0)) ≤ 0) (kz_0_170 : 0 ≤ texts_0 ∧ texts_0 ≤ 100000000) : 1 * texts_0 + ((-1) * x2 + ((-36) * x8 + 0)) ≤ 0 := by
  first | assumption | omega | grind
def o_Mo_writeGroup_at_l4_11 : or_T := (2, 9, [(0, (2, 0, 0, [165])), (2, (0, 0, 99985891, [])), (4, (0, 4, 7, [])), (5, (0, 0, 23, [])), (6, (0, 1, 24, [])), (7, (0, 0, 7, [])), (8, (0, 1, 24, []))], [(6, [8, 5], [1]), (7, [7, 4], [1]), (20, [7, 3, 5], [50, 1, 1, 1005, 1002, 1, 2, 1, 0, 3, 1, 2, 4, 7, 4, 3, 2, 1, 5, 0, 243, 1, 2]), (7, [5, 6], [2]), (20, [6, 3], [30, 0, 1, 0, 0, -1, 3, 2005000]), (20, [6, 3], [30, 0, -1, 0, 0, 1, 3, 2005000]), (20, [3, 2, 5], [30, 0, 1, 1, 170, -1, 0, 0, -36, 0, 0]), (24, [0, 3], [])], [], [], [(20, [3, 2, 8], [30, 0, 1, 1, 170, -1, 0, 0, -36, 0, 0])], [], [(8, 5, 1, 1), (8, 6, -4294967296, 0), (5, 6, -4294967296, -1)])
theorem oo_Mo_writeGroup_at_l4_11 {kA : Nat → ClassId} : or_ok PRD kA GG o_Mo_writeGroup_at_l4_11 := by
  refine or_mk fun A ta ws vs hD hth hl => ?_
  intro t0 r0 t2 k2 t4 k4 t5 k5 t6 k6 t7 k7 t8 k8 d0 d1 d2 f0 f1 f2 f3 f4 f5 f6 f7
  replace f0 := shm_4 f0
  replace f1 := shm_40 f1
  replace f2 := shm_585 f2
  replace f3 := shm_6 f3
  replace f4 := shm_135 f4
  replace f5 := shm_136 f5
  replace f6 := shm_1906 f6
  replace f7 := shm_5 f7
  have q3 : n_v vs 3 = n_v vs 0 := f7.symm
  simp only [q3] at f2 f4 f5 f6
  have kz_0_170 := fdq_13 hD hth r0
  have nf0 : fc_1 PRD (20, [3, 2, 8], [30, 0, 1, 1, 170, -1, 0, 0, -36, 0, 0]) ws (vs) := by
    refine ⟨nf_in hl rfl, sgq_1906 ?_⟩
    · show 1 * w_fi ws (n_v vs 3) 170 + ((-1) * v_iv (n_v vs 2) + ((-36) * v_iv (n_v vs 8) + 0)) ≤ 0
      rw [q3]
      exact vc_Mo_writeGroup_at_l4_11_0 (v_iv (n_v vs 2)) (v_iv (n_v vs 4)) (v_iv (n_v vs 5)) (v_iv (n_v vs 6)) (v_iv (n_v vs 7)) (v_iv (n_v vs 8)) (w_ei ws (w_ar ws (n_v vs 0) 2)) (w_fi ws (n_v vs 0) 5) (w_fi ws (n_v vs 0) 170) k2 k4 k5 k6 k7 k8 d0 d1 d2 f0 f1 f2 f3 f4 f5 f6 kz_0_170
  refine ⟨(fun _ h => (by cases h)), [], trivial, ?_, (fun _ h => (by cases h))⟩
  rw [List.append_nil]
  exact List.forall_mem_cons.mpr ⟨⟨show (20 : Nat) < 100 from by decide, nf0⟩, (fun _ h => (by cases h))⟩
set_option maxHeartbeats 4000000 in
theorem vc_Mo_writeGroup_at_l4_12_0 (x2 : Int) (x4 : Int) (x5 : Int) (x6 : Int) (all_0 : Int → Int) (r_0 : Int) (texts_0 : Int) (k2 : 0 ≤ x2 ∧ x2 ≤ 99985891) (k4 : 4 ≤ x4 ∧ x4 ≤ 7) (k5 : 5 ≤ x5 ∧ x5 ≤ 8) (k6 : 0 ≤ x6 ∧ x6 ≤ 8) (d0 : x6 + 0 ≤ x5 ∧ x5 ≤ x6 + 4294967296) (d1 : x5 + (-4294967296) ≤ x4 ∧ x4 ≤ x5 + (-1)) (f0 : x6 ≤ x5) (f1 : 1 * x6 + ((-1) * all_0 (r_0 + 2) + 0) ≤ 0) (f2 : (-1) * x6 + (1 * all_0 (r_0 + 2) + 0) ≤ 0) (f3 : 1 * texts_0 + ((-1) * x2 + ((-4415) * x5 + (4415 * x4 + 0))) ≤ (-3551)) (kz_0_170 : 0 ≤ texts_0 ∧ texts_0 ≤ 100000000) : 1 * texts_0 + ((-1) * x2 + 0) ≤ 14109 := by
  first | assumption | omega | grind
def o_Mo_writeGroup_at_l4_12 : or_T := (177, 7, [(0, (2, 0, 0, [165])), (2, (0, 0, 99985891, [])), (4, (0, 4, 7, [])), (5, (0, 5, 8, [])), (6, (0, 0, 8, []))], [(7, [5, 6], [3]), (20, [6, 3], [30, 0, 1, 0, 0, -1, 3, 2005002]), (20, [6, 3], [30, 0, -1, 0, 0, 1, 3, 2005002]), (20, [3, 2, 5, 4], [30, -3551, 1, 1, 170, -1, 0, 0, -4415, 0, 0, 4415, 0, 0]), (24, [0, 3], [])], [], [], [(20, [0, 2], [30, 14109, 1, 1, 170, -1, 0, 0])], [], [(5, 6, 0, 4294967296), (4, 5, -4294967296, -1)])
theorem oo_Mo_writeGroup_at_l4_12 {kA : Nat → ClassId} : or_ok PRD kA GG o_Mo_writeGroup_at_l4_12 := by
  refine or_mk fun A ta ws vs hD hth hl => ?_
  intro t0 r0 t2 k2 t4 k4 t5 k5 t6 k6 d0 d1 f0 f1 f2 f3 f4
  replace f1 := shm_132 f1
  replace f2 := shm_133 f2
  replace f3 := shm_1942 f3
  replace f4 := shm_5 f4
  have q3 : n_v vs 3 = n_v vs 0 := f4.symm
  simp only [q3] at f1 f2 f3
  have kz_0_170 := fdq_13 hD hth r0
  have nf0 : fc_1 PRD (20, [0, 2], [30, 14109, 1, 1, 170, -1, 0, 0]) ws (vs) := ⟨nf_in hl rfl, sgq_1940 (vc_Mo_writeGroup_at_l4_12_0 (v_iv (n_v vs 2)) (v_iv (n_v vs 4)) (v_iv (n_v vs 5)) (v_iv (n_v vs 6)) (w_ei ws (w_ar ws (n_v vs 0) 2)) (w_fi ws (n_v vs 0) 5) (w_fi ws (n_v vs 0) 170) k2 k4 k5 k6 d0 d1 (shm_2 f0) f1 f2 f3 kz_0_170)⟩
  refine ⟨(fun _ h => (by cases h)), [], trivial, ?_, (fun _ h => (by cases h))⟩
  rw [List.append_nil]
  exact List.forall_mem_cons.mpr ⟨⟨show (20 : Nat) < 100 from by decide, nf0⟩, (fun _ h => (by cases h))⟩
def o_Mo_writeGroup_at_l4_13 : or_T := (117, 14, [(0, (2, 0, 0, [165])), (2, (0, 0, 99985891, [])), (3, (2, 0, 0, [165])), (4, (0, 4, 6, [])), (5, (0, 5, 7, [])), (6, (0, 6, 8, [])), (7, (2, 0, 0, [167])), (8, (0, 0, 66297, [])), (9, (0, 531, 531, [])), (10, (0, 531, 66828, [])), (11, (0, 536, 66835, [])), (12, (0, 4, 6, []))], [(7, [12, 4], [0]), (10, [12, 7, 11], []), (1, [11, 10, 5], []), (1, [10, 8, 9], []), (9, [8, 3], [5]), (9, [7, 3], [2]), (7, [5, 6], [2]), (20, [6, 3], [30, 0, 1, 0, 0, -1, 3, 2005002]), (20, [6, 3], [30, 0, -1, 0, 0, 1, 3, 2005002]), (20, [3, 2, 5, 4], [30, -3551, 1, 1, 170, -1, 0, 0, -4415, 0, 0, 4415, 0, 0]), (24, [0, 3], [])], [], [(0, 0, 99999994, [])], [(20, [3, 14], [30, 0, 1, 1, 170, -1, 0, 0]), (23, [14, 2, 5, 4], [-3551, 1, -1, -4415, 4415])], [], [(12, 4, 0, 0), (11, 5, 531, 66828), (11, 6, -4294967296, 66827), (11, 10, 5, 7), (11, 8, 536, 538), (10, 8, 531, 531), (5, 6, -4294967296, -1), (4, 5, -4294967296, -1)])
theorem oo_Mo_writeGroup_at_l4_13 {kA : Nat → ClassId} : or_ok PRD kA GG o_Mo_writeGroup_at_l4_13 := by
  refine or_mk fun A ta ws vs hD hth hl => ?_
  intro t0 r0 t2 k2 t3 r3 t4 k4 t5 k5 t6 k6 t7 r7 t8 k8 t9 k9 t10 k10 t11 k11 t12 k12 d0 d1 d2 d3 d4 d5 d6 d7 f0 f1 f2 f3 f4 f5 f6 f7 f8 f9 f10
  replace f0 := shm_37 f0
  replace f1 := shm_106 f1
  replace f2 := shm_12 f2
  replace f3 := shm_12 f3
  replace f4 := shm_109 f4
  replace f5 := shm_129 f5
  replace f6 := shm_6 f6
  replace f7 := shm_132 f7
  replace f8 := shm_133 f8
  replace f9 := shm_1942 f9
  replace f10 := shm_5 f10
  have q3 : n_v vs 3 = n_v vs 0 := f10.symm
  simp only [q3] at f4 f5 f7 f8 f9
  have cr_0_2 := fdq_12 hD hth r0
  have ad_7 : v_ad (n_v vs 7) = w_ar ws (n_v vs 0) 2 := congrArg v_ad f5
  simp only [ad_7] at f1
  have h1 : v_iv (n_v vs 12) = w_ei ws (w_ar ws (n_v vs 0) 2) (v_iv (n_v vs 11)) := f1
  have g4 : v_iv (n_v vs 8) = w_fi ws (n_v vs 0) 5 := congrArg v_iv f4
  have cg1_F5_2 : v_iv (n_v vs 11) = w_fi ws (n_v vs 0) 5 + 2 → w_el ws (w_ar ws (n_v vs 0) 2) (v_iv (n_v vs 11)).toNat = w_el ws (w_ar ws (n_v vs 0) 2) (w_fi ws (n_v vs 0) 5 + 2).toNat := fun h => by rw [h]
  have kz_0_170 := fdq_13 hD hth r0
  have kv0 := fdq_13 hD hth r0
  obtain ⟨x, ex, hx⟩ := iv_ex (ta := ta) (lo := 0) (hi := 99999994) (z := w_fi ws (n_v vs 0) 170) (by omega) (by omega) (by omega) (by omega)
  have ex2 : v_iv (Value.int x) = w_fi ws (n_v vs 0) 170 := ex
  have ex3 : 0 ≤ v_iv (Value.int x) ∧ v_iv (Value.int x) ≤ 99999994 := tv_rng hx
  have e_2 : n_v (vs ++ [Value.int x]) 2 = n_v vs 2 := n_v_old (by rw [hl]; decide)
  have e_3 : n_v (vs ++ [Value.int x]) 3 = n_v vs 3 := n_v_old (by rw [hl]; decide)
  have e_4 : n_v (vs ++ [Value.int x]) 4 = n_v vs 4 := n_v_old (by rw [hl]; decide)
  have e_5 : n_v (vs ++ [Value.int x]) 5 = n_v vs 5 := n_v_old (by rw [hl]; decide)
  have e_14 : n_v (vs ++ [Value.int x]) 14 = Value.int x := n_v_new hl
  have nf0 : fc_1 PRD (20, [3, 14], [30, 0, 1, 1, 170, -1, 0, 0]) ws (vs ++ [Value.int x]) := by
    refine ⟨nf_inA hl rfl, sgq_140 ?_⟩
    · show 1 * w_fi ws (n_v (vs ++ [Value.int x]) 3) 170 + ((-1) * v_iv (n_v (vs ++ [Value.int x]) 14) + 0) ≤ 0
      simp only [e_3, e_14, q3]
      omega
  have nf1 : fc_1 PRD (23, [14, 2, 5, 4], [-3551, 1, -1, -4415, 4415]) ws (vs ++ [Value.int x]) := by
    refine ⟨nf_inA hl rfl, sgq_1943 ?_⟩
    · show 1 * v_iv (n_v (vs ++ [Value.int x]) 14) + ((-1) * v_iv (n_v (vs ++ [Value.int x]) 2) + ((-4415) * v_iv (n_v (vs ++ [Value.int x]) 5) + (4415 * v_iv (n_v (vs ++ [Value.int x]) 4) + 0))) ≤ (-3551)
      simp only [e_2, e_4, e_5, e_14]
      omega
  exact ⟨(fun _ h => (by cases h)), [Value.int x], ag_one hx, List.forall_mem_cons.mpr ⟨⟨show (20 : Nat) < 100 from by decide, nf0⟩, List.forall_mem_cons.mpr ⟨⟨show (23 : Nat) < 100 from by decide, nf1⟩, (fun _ h => (by cases h))⟩⟩, (fun _ h => (by cases h))⟩
set_option maxHeartbeats 4000000 in
theorem vc_Mo_writeGroup_at_l4_14_0 (x2 : Int) (x4 : Int) (x5 : Int) (x6 : Int) (x8 : Int) (x12 : Int) (x14 : Int) (r_0 : Int) (all_0 : Int → Int) (texts_0 : Int) (gx : Int) (k2 : 0 ≤ x2 ∧ x2 ≤ 99985891) (k4 : 4 ≤ x4 ∧ x4 ≤ 6) (k5 : 5 ≤ x5 ∧ x5 ≤ 7) (k6 : 6 ≤ x6 ∧ x6 ≤ 8) (k8 : 0 ≤ x8 ∧ x8 ≤ 66297) (k12 : 4 ≤ x12 ∧ x12 ≤ 6) (k14 : 0 ≤ x14 ∧ x14 ≤ 99999994) (d0 : x4 + 0 ≤ x12 ∧ x12 ≤ x4 + 0) (d1 : x6 + (-4294967296) ≤ x5 ∧ x5 ≤ x6 + (-1)) (d2 : x5 + (-4294967296) ≤ x4 ∧ x4 ≤ x5 + (-1)) (g0 : x8 = r_0) (f2 : 1 * x14 + ((-1) * x2 + ((-4415) * x5 + (4415 * x4 + 0))) ≤ (-3551)) (f3 : 1 * x6 + ((-1) * all_0 (r_0 + 2) + 0) ≤ 0) (f4 : (-1) * x6 + (1 * all_0 (r_0 + 2) + 0) ≤ 0) (f6 : 1 * texts_0 + ((-1) * x14 + 0) ≤ 6) (f8 : 1 * x14 + ((-1) * x2 + ((-4415) * x5 + (4415 * x4 + 0))) ≤ (-3551)) (f9 : x12 = x4) (f10 : x5 < x6) (kz_0_170 : 0 ≤ texts_0 ∧ texts_0 ≤ 100000000) (ex2 : gx = texts_0) (ex3 : 0 ≤ gx ∧ gx ≤ 99999992) : 1 * texts_0 + ((-1) * gx + 0) ≤ 0 := by
  first | assumption | omega | grind
set_option maxHeartbeats 4000000 in
theorem vc_Mo_writeGroup_at_l4_14_1 (x2 : Int) (x4 : Int) (x5 : Int) (x6 : Int) (x8 : Int) (x12 : Int) (x14 : Int) (r_0 : Int) (all_0 : Int → Int) (texts_0 : Int) (gx : Int) (k2 : 0 ≤ x2 ∧ x2 ≤ 99985891) (k4 : 4 ≤ x4 ∧ x4 ≤ 6) (k5 : 5 ≤ x5 ∧ x5 ≤ 7) (k6 : 6 ≤ x6 ∧ x6 ≤ 8) (k8 : 0 ≤ x8 ∧ x8 ≤ 66297) (k12 : 4 ≤ x12 ∧ x12 ≤ 6) (k14 : 0 ≤ x14 ∧ x14 ≤ 99999994) (d0 : x4 + 0 ≤ x12 ∧ x12 ≤ x4 + 0) (d1 : x6 + (-4294967296) ≤ x5 ∧ x5 ≤ x6 + (-1)) (d2 : x5 + (-4294967296) ≤ x4 ∧ x4 ≤ x5 + (-1)) (g0 : x8 = r_0) (f2 : 1 * x14 + ((-1) * x2 + ((-4415) * x5 + (4415 * x4 + 0))) ≤ (-3551)) (f3 : 1 * x6 + ((-1) * all_0 (r_0 + 2) + 0) ≤ 0) (f4 : (-1) * x6 + (1 * all_0 (r_0 + 2) + 0) ≤ 0) (f6 : 1 * texts_0 + ((-1) * x14 + 0) ≤ 6) (f8 : 1 * x14 + ((-1) * x2 + ((-4415) * x5 + (4415 * x4 + 0))) ≤ (-3551)) (f9 : x12 = x4) (f10 : x5 < x6) (kz_0_170 : 0 ≤ texts_0 ∧ texts_0 ≤ 100000000) (ex2 : gx = texts_0) (ex3 : 0 ≤ gx ∧ gx ≤ 99999992) : 1 * gx + ((-1) * x2 + ((-4415) * x5 + (4415 * x4 + 0))) ≤ (-3545) := by
  first | assumption | omega | grind
def o_Mo_writeGroup_at_l4_14 : or_T := (149, 24, [(0, (2, 0, 0, [165])), (2, (0, 0, 99985891, [])), (3, (2, 0, 0, [165])), (4, (0, 4, 6, [])), (5, (0, 5, 7, [])), (6, (0, 6, 8, [])), (7, (2, 0, 0, [167])), (8, (0, 0, 66297, [])), (12, (0, 4, 6, [])), (14, (0, 0, 99999994, []))], [(9, [8, 3], [5]), (9, [7, 3], [2]), (23, [14, 2, 5, 4], [-3551, 1, -1, -4415, 4415]), (20, [6, 3], [30, 0, 1, 0, 0, -1, 3, 2005002]), (20, [6, 3], [30, 0, -1, 0, 0, 1, 3, 2005002]), (24, [0, 3], []), (20, [3, 14], [30, 6, 1, 1, 170, -1, 0, 0]), (102, [14], [7770675568902916283677847627294075626569627356208558085007249638955617140820833992704, 165170]), (23, [14, 2, 5, 4], [-3551, 1, -1, -4415, 4415]), (7, [12, 4], [0]), (7, [5, 6], [2])], [], [(0, 0, 99999992, [])], [(20, [3, 24], [30, 0, 1, 1, 170, -1, 0, 0]), (23, [24, 2, 5, 4], [-3545, 1, -1, -4415, 4415])], [], [(12, 4, 0, 0), (5, 6, -4294967296, -1), (4, 5, -4294967296, -1)])
theorem oo_Mo_writeGroup_at_l4_14 {kA : Nat → ClassId} : or_ok PRD kA GG o_Mo_writeGroup_at_l4_14 := by
  refine or_mk fun A ta ws vs hD hth hl => ?_
  intro t0 r0 t2 k2 t3 r3 t4 k4 t5 k5 t6 k6 t7 r7 t8 k8 t12 k12 t14 k14 d0 d1 d2 f0 f1 f2 f3 f4 f5 f6 ta1 w1 le1 s1 f8 f9 f10
  replace f0 := shm_109 f0
  replace f1 := shm_129 f1
  replace f2 := shm_1943 f2
  replace f3 := shm_132 f3
  replace f4 := shm_133 f4
  replace f5 := shm_5 f5
  replace f6 := shm_235 f6
  replace f8 := shm_1943 f8
  replace f9 := shm_37 f9
  replace f10 := shm_6 f10
  have q3 : n_v vs 3 = n_v vs 0 := f5.symm
  simp only [q3] at f0 f1 f3 f4 f6
  have cr_0_2 := fdq_12 hD hth r0
  have ad_7 : v_ad (n_v vs 7) = w_ar ws (n_v vs 0) 2 := congrArg v_ad f1
  have g0 : v_iv (n_v vs 8) = w_fi ws (n_v vs 0) 5 := congrArg v_iv f0
  have kz_0_170 := fdq_13 hD hth r0
  have kv0 := fdq_13 hD hth r0
  obtain ⟨x, ex, hx⟩ := iv_ex (ta := ta) (lo := 0) (hi := 99999992) (z := w_fi ws (n_v vs 0) 170) (by omega) (by omega) (by omega) (by omega)
  have ex2 : v_iv (Value.int x) = w_fi ws (n_v vs 0) 170 := ex
  have ex3 : 0 ≤ v_iv (Value.int x) ∧ v_iv (Value.int x) ≤ 99999992 := tv_rng hx
  have e_2 : n_v (vs ++ [Value.int x]) 2 = n_v vs 2 := n_v_old (by rw [hl]; decide)
  have e_3 : n_v (vs ++ [Value.int x]) 3 = n_v vs 3 := n_v_old (by rw [hl]; decide)
  have e_4 : n_v (vs ++ [Value.int x]) 4 = n_v vs 4 := n_v_old (by rw [hl]; decide)
  have e_5 : n_v (vs ++ [Value.int x]) 5 = n_v vs 5 := n_v_old (by rw [hl]; decide)
  have e_24 : n_v (vs ++ [Value.int x]) 24 = Value.int x := n_v_new hl
  have nf0 : fc_1 PRD (20, [3, 24], [30, 0, 1, 1, 170, -1, 0, 0]) ws (vs ++ [Value.int x]) := by
    refine ⟨nf_inA hl rfl, sgq_140 ?_⟩
    · show 1 * w_fi ws (n_v (vs ++ [Value.int x]) 3) 170 + ((-1) * v_iv (n_v (vs ++ [Value.int x]) 24) + 0) ≤ 0
      simp only [e_3, e_24, q3]
      exact vc_Mo_writeGroup_at_l4_14_0 (v_iv (n_v vs 2)) (v_iv (n_v vs 4)) (v_iv (n_v vs 5)) (v_iv (n_v vs 6)) (v_iv (n_v vs 8)) (v_iv (n_v vs 12)) (v_iv (n_v vs 14)) (w_fi ws (n_v vs 0) 5) (w_ei ws (w_ar ws (n_v vs 0) 2)) (w_fi ws (n_v vs 0) 170) (v_iv (Value.int x)) k2 k4 k5 k6 k8 k12 k14 d0 d1 d2 g0 f2 f3 f4 f6 f8 f9 f10 kz_0_170 ex2 ex3
  have nf1 : fc_1 PRD (23, [24, 2, 5, 4], [-3545, 1, -1, -4415, 4415]) ws (vs ++ [Value.int x]) := by
    refine ⟨nf_inA hl rfl, sgq_1944 ?_⟩
    · show 1 * v_iv (n_v (vs ++ [Value.int x]) 24) + ((-1) * v_iv (n_v (vs ++ [Value.int x]) 2) + ((-4415) * v_iv (n_v (vs ++ [Value.int x]) 5) + (4415 * v_iv (n_v (vs ++ [Value.int x]) 4) + 0))) ≤ (-3545)
      simp only [e_2, e_4, e_5, e_24]
      exact vc_Mo_writeGroup_at_l4_14_1 (v_iv (n_v vs 2)) (v_iv (n_v vs 4)) (v_iv (n_v vs 5)) (v_iv (n_v vs 6)) (v_iv (n_v vs 8)) (v_iv (n_v vs 12)) (v_iv (n_v vs 14)) (w_fi ws (n_v vs 0) 5) (w_ei ws (w_ar ws (n_v vs 0) 2)) (w_fi ws (n_v vs 0) 170) (v_iv (Value.int x)) k2 k4 k5 k6 k8 k12 k14 d0 d1 d2 g0 f2 f3 f4 f6 f8 f9 f10 kz_0_170 ex2 ex3
  exact ⟨(fun _ h => (by cases h)), [Value.int x], ag_one hx, List.forall_mem_cons.mpr ⟨⟨show (20 : Nat) < 100 from by decide, nf0⟩, List.forall_mem_cons.mpr ⟨⟨show (23 : Nat) < 100 from by decide, nf1⟩, (fun _ h => (by cases h))⟩⟩, (fun _ h => (by cases h))⟩
set_option maxHeartbeats 4000000 in
theorem vc_Mo_writeGroup_at_l4_15_0 (x2 : Int) (x4 : Int) (x5 : Int) (x6 : Int) (x12 : Int) (x14 : Int) (x24 : Int) (all_0 : Int → Int) (r_0 : Int) (texts_0 : Int) (gx : Int) (k2 : 0 ≤ x2 ∧ x2 ≤ 99985891) (k4 : 4 ≤ x4 ∧ x4 ≤ 6) (k5 : 5 ≤ x5 ∧ x5 ≤ 7) (k6 : 6 ≤ x6 ∧ x6 ≤ 8) (k12 : 4 ≤ x12 ∧ x12 ≤ 6) (k14 : 0 ≤ x14 ∧ x14 ≤ 99999994) (k24 : 0 ≤ x24 ∧ x24 ≤ 99999992) (d0 : x4 + 0 ≤ x12 ∧ x12 ≤ x4 + 0) (d1 : x6 + (-4294967296) ≤ x5 ∧ x5 ≤ x6 + (-1)) (d2 : x5 + (-4294967296) ≤ x4 ∧ x4 ≤ x5 + (-1)) (f0 : 1 * x24 + ((-1) * x2 + ((-4415) * x5 + (4415 * x4 + 0))) ≤ (-3545)) (f1 : 1 * x14 + ((-1) * x2 + ((-4415) * x5 + (4415 * x4 + 0))) ≤ (-3551)) (f2 : 1 * x6 + ((-1) * all_0 (r_0 + 2) + 0) ≤ 0) (f3 : (-1) * x6 + (1 * all_0 (r_0 + 2) + 0) ≤ 0) (f5 : 1 * texts_0 + ((-1) * x24 + 0) ≤ 8) (f7 : 1 * x24 + ((-1) * x2 + ((-4415) * x5 + (4415 * x4 + 0))) ≤ (-3545)) (f8 : 1 * x14 + ((-1) * x2 + ((-4415) * x5 + (4415 * x4 + 0))) ≤ (-3551)) (f10 : 1 * x14 + ((-1) * x2 + ((-4415) * x5 + (4415 * x4 + 0))) ≤ (-3551)) (f11 : x12 = x4) (f12 : x5 < x6) (kz_0_170 : 0 ≤ texts_0 ∧ texts_0 ≤ 100000000) (ex2 : gx = texts_0) (ex3 : 0 ≤ gx ∧ gx ≤ 99999997) : 1 * texts_0 + ((-1) * gx + 0) ≤ 0 := by
  first | assumption | omega | grind
set_option maxHeartbeats 4000000 in
theorem vc_Mo_writeGroup_at_l4_15_1 (x2 : Int) (x4 : Int) (x5 : Int) (x6 : Int) (x12 : Int) (x14 : Int) (x24 : Int) (all_0 : Int → Int) (r_0 : Int) (texts_0 : Int) (gx : Int) (k2 : 0 ≤ x2 ∧ x2 ≤ 99985891) (k4 : 4 ≤ x4 ∧ x4 ≤ 6) (k5 : 5 ≤ x5 ∧ x5 ≤ 7) (k6 : 6 ≤ x6 ∧ x6 ≤ 8) (k12 : 4 ≤ x12 ∧ x12 ≤ 6) (k14 : 0 ≤ x14 ∧ x14 ≤ 99999994) (k24 : 0 ≤ x24 ∧ x24 ≤ 99999992) (d0 : x4 + 0 ≤ x12 ∧ x12 ≤ x4 + 0) (d1 : x6 + (-4294967296) ≤ x5 ∧ x5 ≤ x6 + (-1)) (d2 : x5 + (-4294967296) ≤ x4 ∧ x4 ≤ x5 + (-1)) (f0 : 1 * x24 + ((-1) * x2 + ((-4415) * x5 + (4415 * x4 + 0))) ≤ (-3545)) (f1 : 1 * x14 + ((-1) * x2 + ((-4415) * x5 + (4415 * x4 + 0))) ≤ (-3551)) (f2 : 1 * x6 + ((-1) * all_0 (r_0 + 2) + 0) ≤ 0) (f3 : (-1) * x6 + (1 * all_0 (r_0 + 2) + 0) ≤ 0) (f5 : 1 * texts_0 + ((-1) * x24 + 0) ≤ 8) (f7 : 1 * x24 + ((-1) * x2 + ((-4415) * x5 + (4415 * x4 + 0))) ≤ (-3545)) (f8 : 1 * x14 + ((-1) * x2 + ((-4415) * x5 + (4415 * x4 + 0))) ≤ (-3551)) (f10 : 1 * x14 + ((-1) * x2 + ((-4415) * x5 + (4415 * x4 + 0))) ≤ (-3551)) (f11 : x12 = x4) (f12 : x5 < x6) (kz_0_170 : 0 ≤ texts_0 ∧ texts_0 ≤ 100000000) (ex2 : gx = texts_0) (ex3 : 0 ≤ gx ∧ gx ≤ 99999997) : 1 * gx + ((-1) * x2 + ((-4415) * x5 + (4415 * x4 + 0))) ≤ (-3537) := by
  first | assumption | omega | grind
def o_Mo_writeGroup_at_l4_15 : or_T := (156, 26, [(0, (2, 0, 0, [165])), (2, (0, 0, 99985891, [])), (3, (2, 0, 0, [165])), (4, (0, 4, 6, [])), (5, (0, 5, 7, [])), (6, (0, 6, 8, [])), (12, (0, 4, 6, [])), (14, (0, 0, 99999994, [])), (24, (0, 0, 99999992, []))], [(23, [24, 2, 5, 4], [-3545, 1, -1, -4415, 4415]), (23, [14, 2, 5, 4], [-3551, 1, -1, -4415, 4415]), (20, [6, 3], [30, 0, 1, 0, 0, -1, 3, 2005002]), (20, [6, 3], [30, 0, -1, 0, 0, 1, 3, 2005002]), (24, [0, 3], []), (20, [3, 24], [30, 8, 1, 1, 170, -1, 0, 0]), (102, [24], [7770675568902916283677847627294075626569627356208558085007249638955617140820833992704, 165170]), (23, [24, 2, 5, 4], [-3545, 1, -1, -4415, 4415]), (23, [14, 2, 5, 4], [-3551, 1, -1, -4415, 4415]), (102, [14], [7770675568902916283677847627294075626569627356208558085007249638955617140820833992704, 165170]), (23, [14, 2, 5, 4], [-3551, 1, -1, -4415, 4415]), (7, [12, 4], [0]), (7, [5, 6], [2])], [], [(0, 0, 99999997, [])], [(20, [3, 26], [30, 0, 1, 1, 170, -1, 0, 0]), (23, [26, 2, 5, 4], [-3537, 1, -1, -4415, 4415])], [], [(12, 4, 0, 0), (5, 6, -4294967296, -1), (4, 5, -4294967296, -1)])
theorem oo_Mo_writeGroup_at_l4_15 {kA : Nat → ClassId} : or_ok PRD kA GG o_Mo_writeGroup_at_l4_15 := by
  refine or_mk fun A ta ws vs hD hth hl => ?_
  intro t0 r0 t2 k2 t3 r3 t4 k4 t5 k5 t6 k6 t12 k12 t14 k14 t24 k24 d0 d1 d2 f0 f1 f2 f3 f4 f5 ta1 w1 le1 s1 f7 f8 ta2 w2 le2 s2 f10 f11 f12
  replace f0 := shm_1944 f0
  replace f1 := shm_1943 f1
  replace f2 := shm_132 f2
  replace f3 := shm_133 f3
  replace f4 := shm_5 f4
  replace f5 := shm_172 f5
  replace f7 := shm_1944 f7
  replace f8 := shm_1943 f8
  replace f10 := shm_1943 f10
  replace f11 := shm_37 f11
  replace f12 := shm_6 f12
  have q3 : n_v vs 3 = n_v vs 0 := f4.symm
  simp only [q3] at f2 f3 f5
  have cr_0_2 := fdq_12 hD hth r0
  have kz_0_170 := fdq_13 hD hth r0
  have kv0 := fdq_13 hD hth r0
  obtain ⟨x, ex, hx⟩ := iv_ex (ta := ta) (lo := 0) (hi := 99999997) (z := w_fi ws (n_v vs 0) 170) (by omega) (by omega) (by omega) (by omega)
  have ex2 : v_iv (Value.int x) = w_fi ws (n_v vs 0) 170 := ex
  have ex3 : 0 ≤ v_iv (Value.int x) ∧ v_iv (Value.int x) ≤ 99999997 := tv_rng hx
  have e_2 : n_v (vs ++ [Value.int x]) 2 = n_v vs 2 := n_v_old (by rw [hl]; decide)
  have e_3 : n_v (vs ++ [Value.int x]) 3 = n_v vs 3 := n_v_old (by rw [hl]; decide)
  have e_4 : n_v (vs ++ [Value.int x]) 4 = n_v vs 4 := n_v_old (by rw [hl]; decide)
  have e_5 : n_v (vs ++ [Value.int x]) 5 = n_v vs 5 := n_v_old (by rw [hl]; decide)
  have e_26 : n_v (vs ++ [Value.int x]) 26 = Value.int x := n_v_new hl
  have nf0 : fc_1 PRD (20, [3, 26], [30, 0, 1, 1, 170, -1, 0, 0]) ws (vs ++ [Value.int x]) := by
    refine ⟨nf_inA hl rfl, sgq_140 ?_⟩
    · show 1 * w_fi ws (n_v (vs ++ [Value.int x]) 3) 170 + ((-1) * v_iv (n_v (vs ++ [Value.int x]) 26) + 0) ≤ 0
      simp only [e_3, e_26, q3]
      exact vc_Mo_writeGroup_at_l4_15_0 (v_iv (n_v vs 2)) (v_iv (n_v vs 4)) (v_iv (n_v vs 5)) (v_iv (n_v vs 6)) (v_iv (n_v vs 12)) (v_iv (n_v vs 14)) (v_iv (n_v vs 24)) (w_ei ws (w_ar ws (n_v vs 0) 2)) (w_fi ws (n_v vs 0) 5) (w_fi ws (n_v vs 0) 170) (v_iv (Value.int x)) k2 k4 k5 k6 k12 k14 k24 d0 d1 d2 f0 f1 f2 f3 f5 f7 f8 f10 f11 f12 kz_0_170 ex2 ex3
  have nf1 : fc_1 PRD (23, [26, 2, 5, 4], [-3537, 1, -1, -4415, 4415]) ws (vs ++ [Value.int x]) := by
    refine ⟨nf_inA hl rfl, sgq_1945 ?_⟩
    · show 1 * v_iv (n_v (vs ++ [Value.int x]) 26) + ((-1) * v_iv (n_v (vs ++ [Value.int x]) 2) + ((-4415) * v_iv (n_v (vs ++ [Value.int x]) 5) + (4415 * v_iv (n_v (vs ++ [Value.int x]) 4) + 0))) ≤ (-3537)
      simp only [e_2, e_4, e_5, e_26]
      exact vc_Mo_writeGroup_at_l4_15_1 (v_iv (n_v vs 2)) (v_iv (n_v vs 4)) (v_iv (n_v vs 5)) (v_iv (n_v vs 6)) (v_iv (n_v vs 12)) (v_iv (n_v vs 14)) (v_iv (n_v vs 24)) (w_ei ws (w_ar ws (n_v vs 0) 2)) (w_fi ws (n_v vs 0) 5) (w_fi ws (n_v vs 0) 170) (v_iv (Value.int x)) k2 k4 k5 k6 k12 k14 k24 d0 d1 d2 f0 f1 f2 f3 f5 f7 f8 f10 f11 f12 kz_0_170 ex2 ex3
  exact ⟨(fun _ h => (by cases h)), [Value.int x], ag_one hx, List.forall_mem_cons.mpr ⟨⟨show (20 : Nat) < 100 from by decide, nf0⟩, List.forall_mem_cons.mpr ⟨⟨show (23 : Nat) < 100 from by decide, nf1⟩, (fun _ h => (by cases h))⟩⟩, (fun _ h => (by cases h))⟩
set_option maxHeartbeats 4000000 in
theorem vc_Mo_writeGroup_at_l4_16_0 (x2 : Int) (x4 : Int) (x5 : Int) (x6 : Int) (x12 : Int) (x14 : Int) (x24 : Int) (x26 : Int) (all_0 : Int → Int) (r_0 : Int) (texts_0 : Int) (gx : Int) (k2 : 0 ≤ x2 ∧ x2 ≤ 99985891) (k4 : 4 ≤ x4 ∧ x4 ≤ 6) (k5 : 5 ≤ x5 ∧ x5 ≤ 7) (k6 : 6 ≤ x6 ∧ x6 ≤ 8) (k12 : 4 ≤ x12 ∧ x12 ≤ 6) (k14 : 0 ≤ x14 ∧ x14 ≤ 99999994) (k24 : 0 ≤ x24 ∧ x24 ≤ 99999992) (k26 : 0 ≤ x26 ∧ x26 ≤ 99999997) (d0 : x4 + 0 ≤ x12 ∧ x12 ≤ x4 + 0) (d1 : x6 + (-4294967296) ≤ x5 ∧ x5 ≤ x6 + (-1)) (d2 : x5 + (-4294967296) ≤ x4 ∧ x4 ≤ x5 + (-1)) (f0 : 1 * x26 + ((-1) * x2 + ((-4415) * x5 + (4415 * x4 + 0))) ≤ (-3537)) (f1 : 1 * x24 + ((-1) * x2 + ((-4415) * x5 + (4415 * x4 + 0))) ≤ (-3545)) (f2 : 1 * x14 + ((-1) * x2 + ((-4415) * x5 + (4415 * x4 + 0))) ≤ (-3551)) (f3 : 1 * x6 + ((-1) * all_0 (r_0 + 2) + 0) ≤ 0) (f4 : (-1) * x6 + (1 * all_0 (r_0 + 2) + 0) ≤ 0) (f6 : 1 * texts_0 + ((-1) * x26 + 0) ≤ 3) (f8 : 1 * x26 + ((-1) * x2 + ((-4415) * x5 + (4415 * x4 + 0))) ≤ (-3537)) (f9 : 1 * x24 + ((-1) * x2 + ((-4415) * x5 + (4415 * x4 + 0))) ≤ (-3545)) (f10 : 1 * x14 + ((-1) * x2 + ((-4415) * x5 + (4415 * x4 + 0))) ≤ (-3551)) (f12 : 1 * x24 + ((-1) * x2 + ((-4415) * x5 + (4415 * x4 + 0))) ≤ (-3545)) (f13 : 1 * x14 + ((-1) * x2 + ((-4415) * x5 + (4415 * x4 + 0))) ≤ (-3551)) (f15 : 1 * x14 + ((-1) * x2 + ((-4415) * x5 + (4415 * x4 + 0))) ≤ (-3551)) (f16 : x12 = x4) (f17 : x5 < x6) (kz_0_170 : 0 ≤ texts_0 ∧ texts_0 ≤ 100000000) (ex2 : gx = texts_0) (ex3 : 0 ≤ gx ∧ gx ≤ 99995604) : 1 * texts_0 + ((-1) * gx + 0) ≤ 0 := by
  first | assumption | omega | grind
set_option maxHeartbeats 4000000 in
theorem vc_Mo_writeGroup_at_l4_16_1 (x2 : Int) (x4 : Int) (x5 : Int) (x6 : Int) (x12 : Int) (x14 : Int) (x24 : Int) (x26 : Int) (all_0 : Int → Int) (r_0 : Int) (texts_0 : Int) (gx : Int) (k2 : 0 ≤ x2 ∧ x2 ≤ 99985891) (k4 : 4 ≤ x4 ∧ x4 ≤ 6) (k5 : 5 ≤ x5 ∧ x5 ≤ 7) (k6 : 6 ≤ x6 ∧ x6 ≤ 8) (k12 : 4 ≤ x12 ∧ x12 ≤ 6) (k14 : 0 ≤ x14 ∧ x14 ≤ 99999994) (k24 : 0 ≤ x24 ∧ x24 ≤ 99999992) (k26 : 0 ≤ x26 ∧ x26 ≤ 99999997) (d0 : x4 + 0 ≤ x12 ∧ x12 ≤ x4 + 0) (d1 : x6 + (-4294967296) ≤ x5 ∧ x5 ≤ x6 + (-1)) (d2 : x5 + (-4294967296) ≤ x4 ∧ x4 ≤ x5 + (-1)) (f0 : 1 * x26 + ((-1) * x2 + ((-4415) * x5 + (4415 * x4 + 0))) ≤ (-3537)) (f1 : 1 * x24 + ((-1) * x2 + ((-4415) * x5 + (4415 * x4 + 0))) ≤ (-3545)) (f2 : 1 * x14 + ((-1) * x2 + ((-4415) * x5 + (4415 * x4 + 0))) ≤ (-3551)) (f3 : 1 * x6 + ((-1) * all_0 (r_0 + 2) + 0) ≤ 0) (f4 : (-1) * x6 + (1 * all_0 (r_0 + 2) + 0) ≤ 0) (f6 : 1 * texts_0 + ((-1) * x26 + 0) ≤ 3) (f8 : 1 * x26 + ((-1) * x2 + ((-4415) * x5 + (4415 * x4 + 0))) ≤ (-3537)) (f9 : 1 * x24 + ((-1) * x2 + ((-4415) * x5 + (4415 * x4 + 0))) ≤ (-3545)) (f10 : 1 * x14 + ((-1) * x2 + ((-4415) * x5 + (4415 * x4 + 0))) ≤ (-3551)) (f12 : 1 * x24 + ((-1) * x2 + ((-4415) * x5 + (4415 * x4 + 0))) ≤ (-3545)) (f13 : 1 * x14 + ((-1) * x2 + ((-4415) * x5 + (4415 * x4 + 0))) ≤ (-3551)) (f15 : 1 * x14 + ((-1) * x2 + ((-4415) * x5 + (4415 * x4 + 0))) ≤ (-3551)) (f16 : x12 = x4) (f17 : x5 < x6) (kz_0_170 : 0 ≤ texts_0 ∧ texts_0 ≤ 100000000) (ex2 : gx = texts_0) (ex3 : 0 ≤ gx ∧ gx ≤ 99995604) : 1 * gx + ((-1) * x2 + ((-4415) * x5 + (4415 * x4 + 0))) ≤ (-3534) := by
  first | assumption | omega | grind
def o_Mo_writeGroup_at_l4_16 : or_T := (161, 27, [(0, (2, 0, 0, [165])), (2, (0, 0, 99985891, [])), (3, (2, 0, 0, [165])), (4, (0, 4, 6, [])), (5, (0, 5, 7, [])), (6, (0, 6, 8, [])), (12, (0, 4, 6, [])), (14, (0, 0, 99999994, [])), (24, (0, 0, 99999992, [])), (26, (0, 0, 99999997, []))], [(23, [26, 2, 5, 4], [-3537, 1, -1, -4415, 4415]), (23, [24, 2, 5, 4], [-3545, 1, -1, -4415, 4415]), (23, [14, 2, 5, 4], [-3551, 1, -1, -4415, 4415]), (20, [6, 3], [30, 0, 1, 0, 0, -1, 3, 2005002]), (20, [6, 3], [30, 0, -1, 0, 0, 1, 3, 2005002]), (24, [0, 3], []), (20, [3, 26], [30, 3, 1, 1, 170, -1, 0, 0]), (102, [26], [7770675568902916283677847627294075626569627356208558085007249638955617140820833992704, 165170]), (23, [26, 2, 5, 4], [-3537, 1, -1, -4415, 4415]), (23, [24, 2, 5, 4], [-3545, 1, -1, -4415, 4415]), (23, [14, 2, 5, 4], [-3551, 1, -1, -4415, 4415]), (102, [24], [7770675568902916283677847627294075626569627356208558085007249638955617140820833992704, 165170]), (23, [24, 2, 5, 4], [-3545, 1, -1, -4415, 4415]), (23, [14, 2, 5, 4], [-3551, 1, -1, -4415, 4415]), (102, [14], [7770675568902916283677847627294075626569627356208558085007249638955617140820833992704, 165170]), (23, [14, 2, 5, 4], [-3551, 1, -1, -4415, 4415]), (7, [12, 4], [0]), (7, [5, 6], [2])], [], [(0, 0, 99995604, [])], [(20, [3, 27], [30, 0, 1, 1, 170, -1, 0, 0]), (23, [27, 2, 5, 4], [-3534, 1, -1, -4415, 4415])], [], [(12, 4, 0, 0), (5, 6, -4294967296, -1), (4, 5, -4294967296, -1)])
theorem oo_Mo_writeGroup_at_l4_16 {kA : Nat → ClassId} : or_ok PRD kA GG o_Mo_writeGroup_at_l4_16 := by
  refine or_mk fun A ta ws vs hD hth hl => ?_
  intro t0 r0 t2 k2 t3 r3 t4 k4 t5 k5 t6 k6 t12 k12 t14 k14 t24 k24 t26 k26 d0 d1 d2 f0 f1 f2 f3 f4 f5 f6 ta1 w1 le1 s1 f8 f9 f10 ta2 w2 le2 s2 f12 f13 ta3 w3 le3 s3 f15 f16 f17
  replace f0 := shm_1945 f0
  replace f1 := shm_1944 f1
  replace f2 := shm_1943 f2
  replace f3 := shm_132 f3
  replace f4 := shm_133 f4
  replace f5 := shm_5 f5
  replace f6 := shm_236 f6
  replace f8 := shm_1945 f8
  replace f9 := shm_1944 f9
  replace f10 := shm_1943 f10
  replace f12 := shm_1944 f12
  replace f13 := shm_1943 f13
  replace f15 := shm_1943 f15
  replace f16 := shm_37 f16
  replace f17 := shm_6 f17
  have q3 : n_v vs 3 = n_v vs 0 := f5.symm
  simp only [q3] at f3 f4 f6
  have cr_0_2 := fdq_12 hD hth r0
  have kz_0_170 := fdq_13 hD hth r0
  have kv0 := fdq_13 hD hth r0
  obtain ⟨x, ex, hx⟩ := iv_ex (ta := ta) (lo := 0) (hi := 99995604) (z := w_fi ws (n_v vs 0) 170) (by omega) (by omega) (by omega) (by omega)
  have ex2 : v_iv (Value.int x) = w_fi ws (n_v vs 0) 170 := ex
  have ex3 : 0 ≤ v_iv (Value.int x) ∧ v_iv (Value.int x) ≤ 99995604 := tv_rng hx
  have e_2 : n_v (vs ++ [Value.int x]) 2 = n_v vs 2 := n_v_old (by rw [hl]; decide)
  have e_3 : n_v (vs ++ [Value.int x]) 3 = n_v vs 3 := n_v_old (by rw [hl]; decide)
  have e_4 : n_v (vs ++ [Value.int x]) 4 = n_v vs 4 := n_v_old (by rw [hl]; decide)
  have e_5 : n_v (vs ++ [Value.int x]) 5 = n_v vs 5 := n_v_old (by rw [hl]; decide)
  have e_27 : n_v (vs ++ [Value.int x]) 27 = Value.int x := n_v_new hl
  have nf0 : fc_1 PRD (20, [3, 27], [30, 0, 1, 1, 170, -1, 0, 0]) ws (vs ++ [Value.int x]) := by
    refine ⟨nf_inA hl rfl, sgq_140 ?_⟩
    · show 1 * w_fi ws (n_v (vs ++ [Value.int x]) 3) 170 + ((-1) * v_iv (n_v (vs ++ [Value.int x]) 27) + 0) ≤ 0
      simp only [e_3, e_27, q3]
      exact vc_Mo_writeGroup_at_l4_16_0 (v_iv (n_v vs 2)) (v_iv (n_v vs 4)) (v_iv (n_v vs 5)) (v_iv (n_v vs 6)) (v_iv (n_v vs 12)) (v_iv (n_v vs 14)) (v_iv (n_v vs 24)) (v_iv (n_v vs 26)) (w_ei ws (w_ar ws (n_v vs 0) 2)) (w_fi ws (n_v vs 0) 5) (w_fi ws (n_v vs 0) 170) (v_iv (Value.int x)) k2 k4 k5 k6 k12 k14 k24 k26 d0 d1 d2 f0 f1 f2 f3 f4 f6 f8 f9 f10 f12 f13 f15 f16 f17 kz_0_170 ex2 ex3
  have nf1 : fc_1 PRD (23, [27, 2, 5, 4], [-3534, 1, -1, -4415, 4415]) ws (vs ++ [Value.int x]) := by
    refine ⟨nf_inA hl rfl, sgq_1946 ?_⟩
    · show 1 * v_iv (n_v (vs ++ [Value.int x]) 27) + ((-1) * v_iv (n_v (vs ++ [Value.int x]) 2) + ((-4415) * v_iv (n_v (vs ++ [Value.int x]) 5) + (4415 * v_iv (n_v (vs ++ [Value.int x]) 4) + 0))) ≤ (-3534)
      simp only [e_2, e_4, e_5, e_27]
      exact vc_Mo_writeGroup_at_l4_16_1 (v_iv (n_v vs 2)) (v_iv (n_v vs 4)) (v_iv (n_v vs 5)) (v_iv (n_v vs 6)) (v_iv (n_v vs 12)) (v_iv (n_v vs 14)) (v_iv (n_v vs 24)) (v_iv (n_v vs 26)) (w_ei ws (w_ar ws (n_v vs 0) 2)) (w_fi ws (n_v vs 0) 5) (w_fi ws (n_v vs 0) 170) (v_iv (Value.int x)) k2 k4 k5 k6 k12 k14 k24 k26 d0 d1 d2 f0 f1 f2 f3 f4 f6 f8 f9 f10 f12 f13 f15 f16 f17 kz_0_170 ex2 ex3
  exact ⟨(fun _ h => (by cases h)), [Value.int x], ag_one hx, List.forall_mem_cons.mpr ⟨⟨show (20 : Nat) < 100 from by decide, nf0⟩, List.forall_mem_cons.mpr ⟨⟨show (23 : Nat) < 100 from by decide, nf1⟩, (fun _ h => (by cases h))⟩⟩, (fun _ h => (by cases h))⟩
set_option maxHeartbeats 4000000 in
theorem vc_Mo_writeGroup_at_l4_17_0 (x2 : Int) (x4 : Int) (x5 : Int) (x6 : Int) (x12 : Int) (x14 : Int) (x24 : Int) (x26 : Int) (x27 : Int) (all_0 : Int → Int) (r_0 : Int) (texts_0 : Int) (gx : Int) (k2 : 0 ≤ x2 ∧ x2 ≤ 99985891) (k4 : 4 ≤ x4 ∧ x4 ≤ 6) (k5 : 5 ≤ x5 ∧ x5 ≤ 7) (k6 : 6 ≤ x6 ∧ x6 ≤ 8) (k12 : 4 ≤ x12 ∧ x12 ≤ 6) (k14 : 0 ≤ x14 ∧ x14 ≤ 99999994) (k24 : 0 ≤ x24 ∧ x24 ≤ 99999992) (k26 : 0 ≤ x26 ∧ x26 ≤ 99999997) (k27 : 0 ≤ x27 ∧ x27 ≤ 99995604) (d0 : x4 + 0 ≤ x12 ∧ x12 ≤ x4 + 0) (d1 : x6 + (-4294967296) ≤ x5 ∧ x5 ≤ x6 + (-1)) (d2 : x5 + (-4294967296) ≤ x4 ∧ x4 ≤ x5 + (-1)) (f0 : 1 * x27 + ((-1) * x2 + ((-4415) * x5 + (4415 * x4 + 0))) ≤ (-3534)) (f1 : 1 * x26 + ((-1) * x2 + ((-4415) * x5 + (4415 * x4 + 0))) ≤ (-3537)) (f2 : 1 * x24 + ((-1) * x2 + ((-4415) * x5 + (4415 * x4 + 0))) ≤ (-3545)) (f3 : 1 * x14 + ((-1) * x2 + ((-4415) * x5 + (4415 * x4 + 0))) ≤ (-3551)) (f4 : 1 * x6 + ((-1) * all_0 (r_0 + 2) + 0) ≤ 0) (f5 : (-1) * x6 + (1 * all_0 (r_0 + 2) + 0) ≤ 0) (f7 : 1 * texts_0 + ((-1) * x27 + 0) ≤ 4396) (f9 : 1 * x27 + ((-1) * x2 + ((-4415) * x5 + (4415 * x4 + 0))) ≤ (-3534)) (f10 : 1 * x26 + ((-1) * x2 + ((-4415) * x5 + (4415 * x4 + 0))) ≤ (-3537)) (f11 : 1 * x24 + ((-1) * x2 + ((-4415) * x5 + (4415 * x4 + 0))) ≤ (-3545)) (f12 : 1 * x14 + ((-1) * x2 + ((-4415) * x5 + (4415 * x4 + 0))) ≤ (-3551)) (f14 : 1 * x26 + ((-1) * x2 + ((-4415) * x5 + (4415 * x4 + 0))) ≤ (-3537)) (f15 : 1 * x24 + ((-1) * x2 + ((-4415) * x5 + (4415 * x4 + 0))) ≤ (-3545)) (f16 : 1 * x14 + ((-1) * x2 + ((-4415) * x5 + (4415 * x4 + 0))) ≤ (-3551)) (f18 : 1 * x24 + ((-1) * x2 + ((-4415) * x5 + (4415 * x4 + 0))) ≤ (-3545)) (f19 : 1 * x14 + ((-1) * x2 + ((-4415) * x5 + (4415 * x4 + 0))) ≤ (-3551)) (f21 : 1 * x14 + ((-1) * x2 + ((-4415) * x5 + (4415 * x4 + 0))) ≤ (-3551)) (f22 : x12 = x4) (f23 : x5 < x6) (kz_0_170 : 0 ≤ texts_0 ∧ texts_0 ≤ 100000000) (ex2 : gx = texts_0) (ex3 : 0 ≤ gx ∧ gx ≤ 99999998) : 1 * texts_0 + ((-1) * gx + 0) ≤ 0 := by
  first | assumption | omega | grind
set_option maxHeartbeats 4000000 in
theorem vc_Mo_writeGroup_at_l4_17_1 (x2 : Int) (x4 : Int) (x5 : Int) (x6 : Int) (x12 : Int) (x14 : Int) (x24 : Int) (x26 : Int) (x27 : Int) (all_0 : Int → Int) (r_0 : Int) (texts_0 : Int) (gx : Int) (k2 : 0 ≤ x2 ∧ x2 ≤ 99985891) (k4 : 4 ≤ x4 ∧ x4 ≤ 6) (k5 : 5 ≤ x5 ∧ x5 ≤ 7) (k6 : 6 ≤ x6 ∧ x6 ≤ 8) (k12 : 4 ≤ x12 ∧ x12 ≤ 6) (k14 : 0 ≤ x14 ∧ x14 ≤ 99999994) (k24 : 0 ≤ x24 ∧ x24 ≤ 99999992) (k26 : 0 ≤ x26 ∧ x26 ≤ 99999997) (k27 : 0 ≤ x27 ∧ x27 ≤ 99995604) (d0 : x4 + 0 ≤ x12 ∧ x12 ≤ x4 + 0) (d1 : x6 + (-4294967296) ≤ x5 ∧ x5 ≤ x6 + (-1)) (d2 : x5 + (-4294967296) ≤ x4 ∧ x4 ≤ x5 + (-1)) (f0 : 1 * x27 + ((-1) * x2 + ((-4415) * x5 + (4415 * x4 + 0))) ≤ (-3534)) (f1 : 1 * x26 + ((-1) * x2 + ((-4415) * x5 + (4415 * x4 + 0))) ≤ (-3537)) (f2 : 1 * x24 + ((-1) * x2 + ((-4415) * x5 + (4415 * x4 + 0))) ≤ (-3545)) (f3 : 1 * x14 + ((-1) * x2 + ((-4415) * x5 + (4415 * x4 + 0))) ≤ (-3551)) (f4 : 1 * x6 + ((-1) * all_0 (r_0 + 2) + 0) ≤ 0) (f5 : (-1) * x6 + (1 * all_0 (r_0 + 2) + 0) ≤ 0) (f7 : 1 * texts_0 + ((-1) * x27 + 0) ≤ 4396) (f9 : 1 * x27 + ((-1) * x2 + ((-4415) * x5 + (4415 * x4 + 0))) ≤ (-3534)) (f10 : 1 * x26 + ((-1) * x2 + ((-4415) * x5 + (4415 * x4 + 0))) ≤ (-3537)) (f11 : 1 * x24 + ((-1) * x2 + ((-4415) * x5 + (4415 * x4 + 0))) ≤ (-3545)) (f12 : 1 * x14 + ((-1) * x2 + ((-4415) * x5 + (4415 * x4 + 0))) ≤ (-3551)) (f14 : 1 * x26 + ((-1) * x2 + ((-4415) * x5 + (4415 * x4 + 0))) ≤ (-3537)) (f15 : 1 * x24 + ((-1) * x2 + ((-4415) * x5 + (4415 * x4 + 0))) ≤ (-3545)) (f16 : 1 * x14 + ((-1) * x2 + ((-4415) * x5 + (4415 * x4 + 0))) ≤ (-3551)) (f18 : 1 * x24 + ((-1) * x2 + ((-4415) * x5 + (4415 * x4 + 0))) ≤ (-3545)) (f19 : 1 * x14 + ((-1) * x2 + ((-4415) * x5 + (4415 * x4 + 0))) ≤ (-3551)) (f21 : 1 * x14 + ((-1) * x2 + ((-4415) * x5 + (4415 * x4 + 0))) ≤ (-3551)) (f22 : x12 = x4) (f23 : x5 < x6) (kz_0_170 : 0 ≤ texts_0 ∧ texts_0 ≤ 100000000) (ex2 : gx = texts_0) (ex3 : 0 ≤ gx ∧ gx ≤ 99999998) : 1 * gx + ((-1) * x2 + ((-4415) * x5 + (4415 * x4 + 0))) ≤ 862 := by
  first | assumption | omega | grind
def o_Mo_writeGroup_at_l4_17 : or_T := (168, 29, [(0, (2, 0, 0, [165])), (2, (0, 0, 99985891, [])), (3, (2, 0, 0, [165])), (4, (0, 4, 6, [])), (5, (0, 5, 7, [])), (6, (0, 6, 8, [])), (12, (0, 4, 6, [])), (14, (0, 0, 99999994, [])), (24, (0, 0, 99999992, [])), (26, (0, 0, 99999997, [])), (27, (0, 0, 99995604, []))], [(23, [27, 2, 5, 4], [-3534, 1, -1, -4415, 4415]), (23, [26, 2, 5, 4], [-3537, 1, -1, -4415, 4415]), (23, [24, 2, 5, 4], [-3545, 1, -1, -4415, 4415]), (23, [14, 2, 5, 4], [-3551, 1, -1, -4415, 4415]), (20, [6, 3], [30, 0, 1, 0, 0, -1, 3, 2005002]), (20, [6, 3], [30, 0, -1, 0, 0, 1, 3, 2005002]), (24, [0, 3], []), (20, [3, 27], [30, 4396, 1, 1, 170, -1, 0, 0]), (102, [27], [7770675568902916283677847627294075626569627356208558085007249638955617140820833992704, 165170]), (23, [27, 2, 5, 4], [-3534, 1, -1, -4415, 4415]), (23, [26, 2, 5, 4], [-3537, 1, -1, -4415, 4415]), (23, [24, 2, 5, 4], [-3545, 1, -1, -4415, 4415]), (23, [14, 2, 5, 4], [-3551, 1, -1, -4415, 4415]), (102, [26], [7770675568902916283677847627294075626569627356208558085007249638955617140820833992704, 165170]), (23, [26, 2, 5, 4], [-3537, 1, -1, -4415, 4415]), (23, [24, 2, 5, 4], [-3545, 1, -1, -4415, 4415]), (23, [14, 2, 5, 4], [-3551, 1, -1, -4415, 4415]), (102, [24], [7770675568902916283677847627294075626569627356208558085007249638955617140820833992704, 165170]), (23, [24, 2, 5, 4], [-3545, 1, -1, -4415, 4415]), (23, [14, 2, 5, 4], [-3551, 1, -1, -4415, 4415]), (102, [14], [7770675568902916283677847627294075626569627356208558085007249638955617140820833992704, 165170]), (23, [14, 2, 5, 4], [-3551, 1, -1, -4415, 4415]), (7, [12, 4], [0]), (7, [5, 6], [2])], [], [(0, 0, 99999998, [])], [(20, [3, 29], [30, 0, 1, 1, 170, -1, 0, 0]), (23, [29, 2, 5, 4], [862, 1, -1, -4415, 4415])], [], [(12, 4, 0, 0), (5, 6, -4294967296, -1), (4, 5, -4294967296, -1)])
theorem oo_Mo_writeGroup_at_l4_17 {kA : Nat → ClassId} : or_ok PRD kA GG o_Mo_writeGroup_at_l4_17 := by
  refine or_mk fun A ta ws vs hD hth hl => ?_
  intro t0 r0 t2 k2 t3 r3 t4 k4 t5 k5 t6 k6 t12 k12 t14 k14 t24 k24 t26 k26 t27 k27 d0 d1 d2 f0 f1 f2 f3 f4 f5 f6 f7 ta1 w1 le1 s1 f9 f10 f11 f12 ta2 w2 le2 s2 f14 f15 f16 ta3 w3 le3 s3 f18 f19 ta4 w4 le4 s4 f21 f22 f23
  replace f0 := shm_1946 f0
  replace f1 := shm_1945 f1
  replace f2 := shm_1944 f2
  replace f3 := shm_1943 f3
  replace f4 := shm_132 f4
  replace f5 := shm_133 f5
  replace f6 := shm_5 f6
  replace f7 := shm_1947 f7
  replace f9 := shm_1946 f9
  replace f10 := shm_1945 f10
  replace f11 := shm_1944 f11
  replace f12 := shm_1943 f12
  replace f14 := shm_1945 f14
  replace f15 := shm_1944 f15
  replace f16 := shm_1943 f16
  replace f18 := shm_1944 f18
  replace f19 := shm_1943 f19
  replace f21 := shm_1943 f21
  replace f22 := shm_37 f22
  replace f23 := shm_6 f23
  have q3 : n_v vs 3 = n_v vs 0 := f6.symm
  simp only [q3] at f4 f5 f7
  have cr_0_2 := fdq_12 hD hth r0
  have kz_0_170 := fdq_13 hD hth r0
  have kv0 := fdq_13 hD hth r0
  obtain ⟨x, ex, hx⟩ := iv_ex (ta := ta) (lo := 0) (hi := 99999998) (z := w_fi ws (n_v vs 0) 170) (by omega) (by omega) (by omega) (by omega)
  have ex2 : v_iv (Value.int x) = w_fi ws (n_v vs 0) 170 := ex
  have ex3 : 0 ≤ v_iv (Value.int x) ∧ v_iv (Value.int x) ≤ 99999998 := tv_rng hx
  have e_2 : n_v (vs ++ [Value.int x]) 2 = n_v vs 2 := n_v_old (by rw [hl]; decide)
  have e_3 : n_v (vs ++ [Value.int x]) 3 = n_v vs 3 := n_v_old (by rw [hl]; decide)
  have e_4 : n_v (vs ++ [Value.int x]) 4 = n_v vs 4 := n_v_old (by rw [hl]; decide)
  have e_5 : n_v (vs ++ [Value.int x]) 5 = n_v vs 5 := n_v_old (by rw [hl]; decide)
  have e_29 : n_v (vs ++ [Value.int x]) 29 = Value.int x := n_v_new hl
  have nf0 : fc_1 PRD (20, [3, 29], [30, 0, 1, 1, 170, -1, 0, 0]) ws (vs ++ [Value.int x]) := by
    refine ⟨nf_inA hl rfl, sgq_140 ?_⟩
    · show 1 * w_fi ws (n_v (vs ++ [Value.int x]) 3) 170 + ((-1) * v_iv (n_v (vs ++ [Value.int x]) 29) + 0) ≤ 0
      simp only [e_3, e_29, q3]
      exact vc_Mo_writeGroup_at_l4_17_0 (v_iv (n_v vs 2)) (v_iv (n_v vs 4)) (v_iv (n_v vs 5)) (v_iv (n_v vs 6)) (v_iv (n_v vs 12)) (v_iv (n_v vs 14)) (v_iv (n_v vs 24)) (v_iv (n_v vs 26)) (v_iv (n_v vs 27)) (w_ei ws (w_ar ws (n_v vs 0) 2)) (w_fi ws (n_v vs 0) 5) (w_fi ws (n_v vs 0) 170) (v_iv (Value.int x)) k2 k4 k5 k6 k12 k14 k24 k26 k27 d0 d1 d2 f0 f1 f2 f3 f4 f5 f7 f9 f10 f11 f12 f14 f15 f16 f18 f19 f21 f22 f23 kz_0_170 ex2 ex3
  have nf1 : fc_1 PRD (23, [29, 2, 5, 4], [862, 1, -1, -4415, 4415]) ws (vs ++ [Value.int x]) := by
    refine ⟨nf_inA hl rfl, sgq_1948 ?_⟩
    · show 1 * v_iv (n_v (vs ++ [Value.int x]) 29) + ((-1) * v_iv (n_v (vs ++ [Value.int x]) 2) + ((-4415) * v_iv (n_v (vs ++ [Value.int x]) 5) + (4415 * v_iv (n_v (vs ++ [Value.int x]) 4) + 0))) ≤ 862
      simp only [e_2, e_4, e_5, e_29]
      exact vc_Mo_writeGroup_at_l4_17_1 (v_iv (n_v vs 2)) (v_iv (n_v vs 4)) (v_iv (n_v vs 5)) (v_iv (n_v vs 6)) (v_iv (n_v vs 12)) (v_iv (n_v vs 14)) (v_iv (n_v vs 24)) (v_iv (n_v vs 26)) (v_iv (n_v vs 27)) (w_ei ws (w_ar ws (n_v vs 0) 2)) (w_fi ws (n_v vs 0) 5) (w_fi ws (n_v vs 0) 170) (v_iv (Value.int x)) k2 k4 k5 k6 k12 k14 k24 k26 k27 d0 d1 d2 f0 f1 f2 f3 f4 f5 f7 f9 f10 f11 f12 f14 f15 f16 f18 f19 f21 f22 f23 kz_0_170 ex2 ex3
  exact ⟨(fun _ h => (by cases h)), [Value.int x], ag_one hx, List.forall_mem_cons.mpr ⟨⟨show (20 : Nat) < 100 from by decide, nf0⟩, List.forall_mem_cons.mpr ⟨⟨show (23 : Nat) < 100 from by decide, nf1⟩, (fun _ h => (by cases h))⟩⟩, (fun _ h => (by cases h))⟩
set_option maxHeartbeats 4000000 in
theorem vc_Mo_writeGroup_at_l4_18_0 (x2 : Int) (x4 : Int) (x5 : Int) (x6 : Int) (x12 : Int) (x14 : Int) (x24 : Int) (x26 : Int) (x27 : Int) (x29 : Int) (x30 : Int) (all_0 : Int → Int) (r_0 : Int) (texts_0 : Int) (k2 : 0 ≤ x2 ∧ x2 ≤ 99985891) (k4 : 4 ≤ x4 ∧ x4 ≤ 6) (k5 : 5 ≤ x5 ∧ x5 ≤ 7) (k6 : 6 ≤ x6 ∧ x6 ≤ 8) (k12 : 4 ≤ x12 ∧ x12 ≤ 6) (k14 : 0 ≤ x14 ∧ x14 ≤ 99999994) (k24 : 0 ≤ x24 ∧ x24 ≤ 99999992) (k26 : 0 ≤ x26 ∧ x26 ≤ 99999997) (k27 : 0 ≤ x27 ∧ x27 ≤ 99995604) (k29 : 0 ≤ x29 ∧ x29 ≤ 99999998) (k30 : 6 ≤ x30 ∧ x30 ≤ 8) (d0 : x5 + 1 ≤ x30 ∧ x30 ≤ x5 + 1) (d1 : x6 + (-4294967296) ≤ x30 ∧ x30 ≤ x6 + 0) (d2 : x4 + 0 ≤ x12 ∧ x12 ≤ x4 + 0) (d3 : x6 + (-4294967296) ≤ x5 ∧ x5 ≤ x6 + (-1)) (d4 : x5 + (-4294967296) ≤ x4 ∧ x4 ≤ x5 + (-1)) (f0 : x30 = x5 + 1) (f1 : 1 * x29 + ((-1) * x2 + ((-4415) * x5 + (4415 * x4 + 0))) ≤ 862) (f2 : 1 * x27 + ((-1) * x2 + ((-4415) * x5 + (4415 * x4 + 0))) ≤ (-3534)) (f3 : 1 * x26 + ((-1) * x2 + ((-4415) * x5 + (4415 * x4 + 0))) ≤ (-3537)) (f4 : 1 * x24 + ((-1) * x2 + ((-4415) * x5 + (4415 * x4 + 0))) ≤ (-3545)) (f5 : 1 * x14 + ((-1) * x2 + ((-4415) * x5 + (4415 * x4 + 0))) ≤ (-3551)) (f6 : 1 * x6 + ((-1) * all_0 (r_0 + 2) + 0) ≤ 0) (f7 : (-1) * x6 + (1 * all_0 (r_0 + 2) + 0) ≤ 0) (f9 : 1 * texts_0 + ((-1) * x29 + 0) ≤ 2) (f11 : 1 * x29 + ((-1) * x2 + ((-4415) * x5 + (4415 * x4 + 0))) ≤ 862) (f12 : 1 * x27 + ((-1) * x2 + ((-4415) * x5 + (4415 * x4 + 0))) ≤ (-3534)) (f13 : 1 * x26 + ((-1) * x2 + ((-4415) * x5 + (4415 * x4 + 0))) ≤ (-3537)) (f14 : 1 * x24 + ((-1) * x2 + ((-4415) * x5 + (4415 * x4 + 0))) ≤ (-3545)) (f15 : 1 * x14 + ((-1) * x2 + ((-4415) * x5 + (4415 * x4 + 0))) ≤ (-3551)) (f17 : 1 * x27 + ((-1) * x2 + ((-4415) * x5 + (4415 * x4 + 0))) ≤ (-3534)) (f18 : 1 * x26 + ((-1) * x2 + ((-4415) * x5 + (4415 * x4 + 0))) ≤ (-3537)) (f19 : 1 * x24 + ((-1) * x2 + ((-4415) * x5 + (4415 * x4 + 0))) ≤ (-3545)) (f20 : 1 * x14 + ((-1) * x2 + ((-4415) * x5 + (4415 * x4 + 0))) ≤ (-3551)) (f22 : 1 * x26 + ((-1) * x2 + ((-4415) * x5 + (4415 * x4 + 0))) ≤ (-3537)) (f23 : 1 * x24 + ((-1) * x2 + ((-4415) * x5 + (4415 * x4 + 0))) ≤ (-3545)) (f24 : 1 * x14 + ((-1) * x2 + ((-4415) * x5 + (4415 * x4 + 0))) ≤ (-3551)) (f26 : 1 * x24 + ((-1) * x2 + ((-4415) * x5 + (4415 * x4 + 0))) ≤ (-3545)) (f27 : 1 * x14 + ((-1) * x2 + ((-4415) * x5 + (4415 * x4 + 0))) ≤ (-3551)) (f29 : 1 * x14 + ((-1) * x2 + ((-4415) * x5 + (4415 * x4 + 0))) ≤ (-3551)) (f30 : x12 = x4) (f31 : x5 < x6) (kz_0_170 : 0 ≤ texts_0 ∧ texts_0 ≤ 100000000) : 1 * texts_0 + ((-1) * x2 + ((-4415) * x30 + (4415 * x4 + 0))) ≤ (-3551) := by
  first | assumption | omega | grind
def o_Mo_writeGroup_at_l4_18 : or_T := (83, 31, [(0, (2, 0, 0, [165])), (2, (0, 0, 99985891, [])), (4, (0, 4, 6, [])), (5, (0, 5, 7, [])), (6, (0, 6, 8, [])), (12, (0, 4, 6, [])), (14, (0, 0, 99999994, [])), (24, (0, 0, 99999992, [])), (26, (0, 0, 99999997, [])), (27, (0, 0, 99995604, [])), (29, (0, 0, 99999998, [])), (30, (0, 6, 8, []))], [(6, [30, 5], [1]), (23, [29, 2, 5, 4], [862, 1, -1, -4415, 4415]), (23, [27, 2, 5, 4], [-3534, 1, -1, -4415, 4415]), (23, [26, 2, 5, 4], [-3537, 1, -1, -4415, 4415]), (23, [24, 2, 5, 4], [-3545, 1, -1, -4415, 4415]), (23, [14, 2, 5, 4], [-3551, 1, -1, -4415, 4415]), (20, [6, 3], [30, 0, 1, 0, 0, -1, 3, 2005002]), (20, [6, 3], [30, 0, -1, 0, 0, 1, 3, 2005002]), (24, [0, 3], []), (20, [3, 29], [30, 2, 1, 1, 170, -1, 0, 0]), (102, [29], [7770675568902916283677847627294075626569627356208558085007249638955617140820833992704, 165170]), (23, [29, 2, 5, 4], [862, 1, -1, -4415, 4415]), (23, [27, 2, 5, 4], [-3534, 1, -1, -4415, 4415]), (23, [26, 2, 5, 4], [-3537, 1, -1, -4415, 4415]), (23, [24, 2, 5, 4], [-3545, 1, -1, -4415, 4415]), (23, [14, 2, 5, 4], [-3551, 1, -1, -4415, 4415]), (102, [27], [7770675568902916283677847627294075626569627356208558085007249638955617140820833992704, 165170]), (23, [27, 2, 5, 4], [-3534, 1, -1, -4415, 4415]), (23, [26, 2, 5, 4], [-3537, 1, -1, -4415, 4415]), (23, [24, 2, 5, 4], [-3545, 1, -1, -4415, 4415]), (23, [14, 2, 5, 4], [-3551, 1, -1, -4415, 4415]), (102, [26], [7770675568902916283677847627294075626569627356208558085007249638955617140820833992704, 165170]), (23, [26, 2, 5, 4], [-3537, 1, -1, -4415, 4415]), (23, [24, 2, 5, 4], [-3545, 1, -1, -4415, 4415]), (23, [14, 2, 5, 4], [-3551, 1, -1, -4415, 4415]), (102, [24], [7770675568902916283677847627294075626569627356208558085007249638955617140820833992704, 165170]), (23, [24, 2, 5, 4], [-3545, 1, -1, -4415, 4415]), (23, [14, 2, 5, 4], [-3551, 1, -1, -4415, 4415]), (102, [14], [7770675568902916283677847627294075626569627356208558085007249638955617140820833992704, 165170]), (23, [14, 2, 5, 4], [-3551, 1, -1, -4415, 4415]), (7, [12, 4], [0]), (7, [5, 6], [2])], [], [], [(20, [3, 2, 30, 4], [30, -3551, 1, 1, 170, -1, 0, 0, -4415, 0, 0, 4415, 0, 0])], [], [(30, 5, 1, 1), (30, 6, -4294967296, 0), (12, 4, 0, 0), (5, 6, -4294967296, -1), (4, 5, -4294967296, -1)])
theorem oo_Mo_writeGroup_at_l4_18 {kA : Nat → ClassId} : or_ok PRD kA GG o_Mo_writeGroup_at_l4_18 := by
  refine or_mk fun A ta ws vs hD hth hl => ?_
  intro t0 r0 t2 k2 t4 k4 t5 k5 t6 k6 t12 k12 t14 k14 t24 k24 t26 k26 t27 k27 t29 k29 t30 k30 d0 d1 d2 d3 d4 f0 f1 f2 f3 f4 f5 f6 f7 f8 f9 ta1 w1 le1 s1 f11 f12 f13 f14 f15 ta2 w2 le2 s2 f17 f18 f19 f20 ta3 w3 le3 s3 f22 f23 f24 ta4 w4 le4 s4 f26 f27 ta5 w5 le5 s5 f29 f30 f31
  replace f0 := shm_4 f0
  replace f1 := shm_1948 f1
  replace f2 := shm_1946 f2
  replace f3 := shm_1945 f3
  replace f4 := shm_1944 f4
  replace f5 := shm_1943 f5
  replace f6 := shm_132 f6
  replace f7 := shm_133 f7
  replace f8 := shm_5 f8
  replace f9 := shm_234 f9
  replace f11 := shm_1948 f11
  replace f12 := shm_1946 f12
  replace f13 := shm_1945 f13
  replace f14 := shm_1944 f14
  replace f15 := shm_1943 f15
  replace f17 := shm_1946 f17
  replace f18 := shm_1945 f18
  replace f19 := shm_1944 f19
  replace f20 := shm_1943 f20
  replace f22 := shm_1945 f22
  replace f23 := shm_1944 f23
  replace f24 := shm_1943 f24
  replace f26 := shm_1944 f26
  replace f27 := shm_1943 f27
  replace f29 := shm_1943 f29
  replace f30 := shm_37 f30
  replace f31 := shm_6 f31
  have q3 : n_v vs 3 = n_v vs 0 := f8.symm
  simp only [q3] at f6 f7 f9
  have kz_0_170 := fdq_13 hD hth r0
  have nf0 : fc_1 PRD (20, [3, 2, 30, 4], [30, -3551, 1, 1, 170, -1, 0, 0, -4415, 0, 0, 4415, 0, 0]) ws (vs) := by
    refine ⟨nf_in hl rfl, sgq_1942 ?_⟩
    · show 1 * w_fi ws (n_v vs 3) 170 + ((-1) * v_iv (n_v vs 2) + ((-4415) * v_iv (n_v vs 30) + (4415 * v_iv (n_v vs 4) + 0))) ≤ (-3551)
      rw [q3]
      exact vc_Mo_writeGroup_at_l4_18_0 (v_iv (n_v vs 2)) (v_iv (n_v vs 4)) (v_iv (n_v vs 5)) (v_iv (n_v vs 6)) (v_iv (n_v vs 12)) (v_iv (n_v vs 14)) (v_iv (n_v vs 24)) (v_iv (n_v vs 26)) (v_iv (n_v vs 27)) (v_iv (n_v vs 29)) (v_iv (n_v vs 30)) (w_ei ws (w_ar ws (n_v vs 0) 2)) (w_fi ws (n_v vs 0) 5) (w_fi ws (n_v vs 0) 170) k2 k4 k5 k6 k12 k14 k24 k26 k27 k29 k30 d0 d1 d2 d3 d4 f0 f1 f2 f3 f4 f5 f6 f7 f9 f11 f12 f13 f14 f15 f17 f18 f19 f20 f22 f23 f24 f26 f27 f29 f30 f31 kz_0_170
  refine ⟨(fun _ h => (by cases h)), [], trivial, ?_, (fun _ h => (by cases h))⟩
  rw [List.append_nil]
  exact List.forall_mem_cons.mpr ⟨⟨show (20 : Nat) < 100 from by decide, nf0⟩, (fun _ h => (by cases h))⟩
def o_Mo_writeGroup_at_l4_19 : or_T := (83, 14, [(0, (2, 0, 0, [165])), (2, (0, 0, 99985891, [])), (3, (2, 0, 0, [165])), (4, (0, 4, 6, [])), (5, (0, 5, 7, [])), (6, (0, 6, 8, [])), (7, (2, 0, 0, [167])), (8, (0, 0, 66297, [])), (9, (0, 531, 531, [])), (10, (0, 531, 66828, [])), (11, (0, 536, 66835, [])), (12, (0, -1, 6, [])), (13, (0, 6, 8, []))], [(6, [13, 5], [1]), (7, [12, 4], [1]), (10, [12, 7, 11], []), (1, [11, 10, 5], []), (1, [10, 8, 9], []), (9, [8, 3], [5]), (9, [7, 3], [2]), (7, [5, 6], [2]), (20, [6, 3], [30, 0, 1, 0, 0, -1, 3, 2005002]), (20, [6, 3], [30, 0, -1, 0, 0, 1, 3, 2005002]), (20, [3, 2, 5, 4], [30, -3551, 1, 1, 170, -1, 0, 0, -4415, 0, 0, 4415, 0, 0]), (24, [0, 3], [])], [], [], [(20, [3, 2, 13, 4], [30, -3551, 1, 1, 170, -1, 0, 0, -4415, 0, 0, 4415, 0, 0])], [], [(13, 5, 1, 1), (13, 6, -4294967296, 0), (11, 5, 531, 66828), (11, 6, -4294967296, 66827), (11, 10, 5, 7), (11, 8, 536, 538), (10, 8, 531, 531), (5, 6, -4294967296, -1), (4, 5, -4294967296, -1)])
theorem oo_Mo_writeGroup_at_l4_19 {kA : Nat → ClassId} : or_ok PRD kA GG o_Mo_writeGroup_at_l4_19 := by
  refine or_mk fun A ta ws vs hD hth hl => ?_
  intro t0 r0 t2 k2 t3 r3 t4 k4 t5 k5 t6 k6 t7 r7 t8 k8 t9 k9 t10 k10 t11 k11 t12 k12 t13 k13 d0 d1 d2 d3 d4 d5 d6 d7 d8 f0 f1 f2 f3 f4 f5 f6 f7 f8 f9 f10 f11
  replace f0 := shm_4 f0
  replace f1 := shm_40 f1
  replace f2 := shm_106 f2
  replace f3 := shm_12 f3
  replace f4 := shm_12 f4
  replace f5 := shm_109 f5
  replace f6 := shm_129 f6
  replace f7 := shm_6 f7
  replace f8 := shm_132 f8
  replace f9 := shm_133 f9
  replace f10 := shm_1942 f10
  replace f11 := shm_5 f11
  have q3 : n_v vs 3 = n_v vs 0 := f11.symm
  simp only [q3] at f5 f6 f8 f9 f10
  have cr_0_2 := fdq_12 hD hth r0
  have ad_7 : v_ad (n_v vs 7) = w_ar ws (n_v vs 0) 2 := congrArg v_ad f6
  simp only [ad_7] at f2
  have h2 : v_iv (n_v vs 12) = w_ei ws (w_ar ws (n_v vs 0) 2) (v_iv (n_v vs 11)) := f2
  have g5 : v_iv (n_v vs 8) = w_fi ws (n_v vs 0) 5 := congrArg v_iv f5
  have cg2_F5_2 : v_iv (n_v vs 11) = w_fi ws (n_v vs 0) 5 + 2 → w_el ws (w_ar ws (n_v vs 0) 2) (v_iv (n_v vs 11)).toNat = w_el ws (w_ar ws (n_v vs 0) 2) (w_fi ws (n_v vs 0) 5 + 2).toNat := fun h => by rw [h]
  have kz_0_170 := fdq_13 hD hth r0
  have nf0 : fc_1 PRD (20, [3, 2, 13, 4], [30, -3551, 1, 1, 170, -1, 0, 0, -4415, 0, 0, 4415, 0, 0]) ws (vs) := by
    refine ⟨nf_in hl rfl, sgq_1942 ?_⟩
    · show 1 * w_fi ws (n_v vs 3) 170 + ((-1) * v_iv (n_v vs 2) + ((-4415) * v_iv (n_v vs 13) + (4415 * v_iv (n_v vs 4) + 0))) ≤ (-3551)
      rw [q3]
      omega
  refine ⟨(fun _ h => (by cases h)), [], trivial, ?_, (fun _ h => (by cases h))⟩
  rw [List.append_nil]
  exact List.forall_mem_cons.mpr ⟨⟨show (20 : Nat) < 100 from by decide, nf0⟩, (fun _ h => (by cases h))⟩
def n_Mo_writeGroup_at_l4_an : List an_T := [(2, [(0, (2, 0, 0, [165])), (1, (0, 4, 7, [])), (2, (0, 0, 24, []))], [], (0, 0), [(0, 0, 99998), (1, 5, 24), (0, 0, 100000)], [(1, 4, (Int.negSucc 999999999999), 0), (4, 1, (Int.negSucc 999999999999), 0)], [], [(2, 0, 0, [165]), (0, 4, 7, []), (0, 0, 99985891, [])], 0, [], [(20, [3, 2, 5], [30, 0, 1, 1, 170, (Int.negSucc 0), 0, 0, (Int.negSucc 35), 0, 0]), (24, [0, 3], [])]), (83, [(0, (2, 0, 0, [165])), (1, (0, 4, 7, [])), (2, (0, 5, 8, []))], [], (0, 0), [(0, 0, 99917), (1, 5, 8), (0, 0, 100000)], [(1, 4, (Int.negSucc 999999999999), 0), (1, 5, (Int.negSucc 999999999999), (Int.negSucc 0)), (4, 1, (Int.negSucc 999999999999), 0), (4, 5, (Int.negSucc 999999999999), (Int.negSucc 0))], [], [(2, 0, 0, [165]), (0, 4, 7, []), (0, 0, 99985891, [])], 0, [], [(20, [3, 2, 5, 4], [30, (Int.negSucc 3550), 1, 1, 170, (Int.negSucc 0), 0, 0, (Int.negSucc 4414), 0, 0, 4415, 0, 0]), (24, [0, 3], [])])]
def t_Mo_writeGroup_at_l4_ct : ct_L := [(1, 475, e_Mo_nodes), (1, 509, e_Mo_groups), (1, 723, e_Mo_size), (1, 725, e_Mo_groupOf), (1, 1285, e_Mo_writeName), (1, 1293, e_Mo_writeNode), (1, 1298, e_Mo_writeNumber), (82, 1290, e_Mo_write_at_s5013), (145, 1290, e_Mo_write_at_s5014), (193, 1290, e_Mo_write_at_s5045), (214, 1290, e_Mo_write_at_s5015), (355, 1290, e_Mo_write_at_s5016), (472, 1290, e_Mo_write_at_s5017), (487, 1309, e_Mo_writeGroup_at_l5), (508, 1290, e_Mo_write_at_s5018), (1000001, 1288, en_ro [] (2, 0, 0, [5013])), (1000001, 1296, en_ro [] (2, 0, 0, [5014])), (1000001, 1301, en_ro [] (2, 0, 0, [5045])), (1000001, 1303, en_ro [] (2, 0, 0, [5015])), (1000001, 1305, en_ro [] (2, 0, 0, [5016])), (1000001, 1307, en_ro [] (2, 0, 0, [5017])), (1000001, 1312, en_ro [] (2, 0, 0, [5018]))]
set_option maxRecDepth 100000 in
theorem c_Mo_writeGroup_at_l4 {l : Launch} {D : va_G} {kA : Nat → ClassId} (h_Mo_groupOf : ct_ok PRD l D kA GG y_Mo_groupOf z_Mo_groupOf e_Mo_groupOf) (h_Mo_groups : ct_ok PRD l D kA GG y_Mo_groups z_Mo_groups e_Mo_groups) (h_Mo_nodes : ct_ok PRD l D kA GG y_Mo_nodes z_Mo_nodes e_Mo_nodes) (h_Mo_size : ct_ok PRD l D kA GG y_Mo_size z_Mo_size e_Mo_size) (h_Mo_writeGroup_at_l5 : ct_ok PRD l D kA GG y_Mo_writeGroup_at_l5 z_Mo_writeGroup_at_l5 e_Mo_writeGroup_at_l5) (h_Mo_writeName : ct_ok PRD l D kA GG y_Mo_writeName z_Mo_writeName e_Mo_writeName) (h_Mo_writeNode : ct_ok PRD l D kA GG y_Mo_writeNode z_Mo_writeNode e_Mo_writeNode) (h_Mo_writeNumber : ct_ok PRD l D kA GG y_Mo_writeNumber z_Mo_writeNumber e_Mo_writeNumber) (h_Mo_write_at_s5013 : ct_ok PRD l D kA GG y_Mo_write_at_s5013 z_Mo_write_at_s5013 e_Mo_write_at_s5013) (h_Mo_write_at_s5014 : ct_ok PRD l D kA GG y_Mo_write_at_s5014 z_Mo_write_at_s5014 e_Mo_write_at_s5014) (h_Mo_write_at_s5015 : ct_ok PRD l D kA GG y_Mo_write_at_s5015 z_Mo_write_at_s5015 e_Mo_write_at_s5015) (h_Mo_write_at_s5016 : ct_ok PRD l D kA GG y_Mo_write_at_s5016 z_Mo_write_at_s5016 e_Mo_write_at_s5016) (h_Mo_write_at_s5017 : ct_ok PRD l D kA GG y_Mo_write_at_s5017 z_Mo_write_at_s5017 e_Mo_write_at_s5017) (h_Mo_write_at_s5018 : ct_ok PRD l D kA GG y_Mo_write_at_s5018 z_Mo_write_at_s5018 e_Mo_write_at_s5018) (h_Mo_write_at_s5045 : ct_ok PRD l D kA GG y_Mo_write_at_s5045 z_Mo_write_at_s5045 e_Mo_write_at_s5045) : ct_ok PRD l D kA GG y_Mo_writeGroup_at_l4 z_Mo_writeGroup_at_l4 e_Mo_writeGroup_at_l4 := chk_all_ok (FT := [(16, 13, 2), (391, 13, 5)]) (PT := []) (CT := t_Mo_writeGroup_at_l4_ct) (KT := []) (NT := []) (AN := n_Mo_writeGroup_at_l4_an) (OT := [o_Mo_writeGroup_at_l4_0, o_Mo_writeGroup_at_l4_1, o_Mo_writeGroup_at_l4_2, o_Mo_writeGroup_at_l4_3, o_Mo_writeGroup_at_l4_4, o_Mo_writeGroup_at_l4_5, o_Mo_writeGroup_at_l4_6, o_Mo_writeGroup_at_l4_7, o_Mo_writeGroup_at_l4_8, o_Mo_writeGroup_at_l4_9, o_Mo_writeGroup_at_l4_10, o_Mo_writeGroup_at_l4_11, o_Mo_writeGroup_at_l4_12, o_Mo_writeGroup_at_l4_13, o_Mo_writeGroup_at_l4_14, o_Mo_writeGroup_at_l4_15, o_Mo_writeGroup_at_l4_16, o_Mo_writeGroup_at_l4_17, o_Mo_writeGroup_at_l4_18, o_Mo_writeGroup_at_l4_19]) 3 408 (List.forall_mem_cons.mpr ⟨oo_Mo_writeGroup_at_l4_0, List.forall_mem_cons.mpr ⟨oo_Mo_writeGroup_at_l4_1, List.forall_mem_cons.mpr ⟨oo_Mo_writeGroup_at_l4_2, List.forall_mem_cons.mpr ⟨oo_Mo_writeGroup_at_l4_3, List.forall_mem_cons.mpr ⟨oo_Mo_writeGroup_at_l4_4, List.forall_mem_cons.mpr ⟨oo_Mo_writeGroup_at_l4_5, List.forall_mem_cons.mpr ⟨oo_Mo_writeGroup_at_l4_6, List.forall_mem_cons.mpr ⟨oo_Mo_writeGroup_at_l4_7, List.forall_mem_cons.mpr ⟨oo_Mo_writeGroup_at_l4_8, List.forall_mem_cons.mpr ⟨oo_Mo_writeGroup_at_l4_9, List.forall_mem_cons.mpr ⟨oo_Mo_writeGroup_at_l4_10, List.forall_mem_cons.mpr ⟨oo_Mo_writeGroup_at_l4_11, List.forall_mem_cons.mpr ⟨oo_Mo_writeGroup_at_l4_12, List.forall_mem_cons.mpr ⟨oo_Mo_writeGroup_at_l4_13, List.forall_mem_cons.mpr ⟨oo_Mo_writeGroup_at_l4_14, List.forall_mem_cons.mpr ⟨oo_Mo_writeGroup_at_l4_15, List.forall_mem_cons.mpr ⟨oo_Mo_writeGroup_at_l4_16, List.forall_mem_cons.mpr ⟨oo_Mo_writeGroup_at_l4_17, List.forall_mem_cons.mpr ⟨oo_Mo_writeGroup_at_l4_18, List.forall_mem_cons.mpr ⟨oo_Mo_writeGroup_at_l4_19, List.forall_mem_nil _⟩⟩⟩⟩⟩⟩⟩⟩⟩⟩⟩⟩⟩⟩⟩⟩⟩⟩⟩⟩) (by decide +kernel) ⟨List.forall_mem_cons.mpr ⟨gf_Mo_16, List.forall_mem_cons.mpr ⟨gf_Mo_391, List.forall_mem_nil _⟩⟩, List.forall_mem_nil _, List.forall_mem_cons.mpr ⟨cl_virtual (y := y_Mo_nodes) (ci := 13) rfl rfl ⟨_, _, rfl⟩ (by decide +kernel) h_Mo_nodes wm_3025 wm_9 wm_3022 wm_3024 wv_13_3 ⟨by decide, by decide, by decide +kernel⟩ (by decide), List.forall_mem_cons.mpr ⟨cl_virtual (y := y_Mo_groups) (ci := 13) rfl rfl ⟨_, _, rfl⟩ (by decide +kernel) h_Mo_groups wm_3070 wm_9 wm_3067 wm_3069 wv_13_14 ⟨by decide, by decide, by decide +kernel⟩ (by decide), List.forall_mem_cons.mpr ⟨cl_virtual (y := y_Mo_size) (ci := 13) rfl rfl ⟨_, _, rfl⟩ (by decide +kernel) h_Mo_size wm_3307 wm_9 wm_3304 wm_3306 wv_17_0 ⟨by decide, by decide, by decide +kernel⟩ (by decide), List.forall_mem_cons.mpr ⟨cl_virtual (y := y_Mo_groupOf) (ci := 13) rfl rfl ⟨_, _, rfl⟩ (by decide +kernel) h_Mo_groupOf wm_3311 wm_9 wm_3308 wm_3310 wv_17_1 ⟨by decide, by decide, by decide +kernel⟩ (by decide), List.forall_mem_cons.mpr ⟨cl_virtual (y := y_Mo_writeName) (ci := 13) rfl rfl ⟨_, _, rfl⟩ (by decide +kernel) h_Mo_writeName wm_3922 wm_9 wm_3919 wm_3921 wv_24_10 ⟨by decide, by decide, by decide +kernel⟩ (by decide), List.forall_mem_cons.mpr ⟨cl_virtual (y := y_Mo_writeNode) (ci := 13) rfl rfl ⟨_, _, rfl⟩ (by decide +kernel) h_Mo_writeNode wm_3918 wm_9 wm_3915 wm_3917 wv_24_9 ⟨by decide, by decide, by decide +kernel⟩ (by decide), List.forall_mem_cons.mpr ⟨cl_virtual (y := y_Mo_writeNumber) (ci := 13) rfl rfl ⟨_, _, rfl⟩ (by decide +kernel) h_Mo_writeNumber wm_3927 wm_9 wm_3924 wm_3926 wv_24_11 ⟨by decide, by decide, by decide +kernel⟩ (by decide), List.forall_mem_cons.mpr ⟨cl_virtual (y := y_Mo_write_at_s5013) (ci := 13) rfl rfl ⟨_, _, rfl⟩ (by decide +kernel) h_Mo_write_at_s5013 wm_3910 wm_9 wm_3907 wm_3909 wv_24_7 ⟨by decide, by decide, by decide +kernel⟩ (by decide), List.forall_mem_cons.mpr ⟨cl_virtual (y := y_Mo_write_at_s5014) (ci := 13) rfl rfl ⟨_, _, rfl⟩ (by decide +kernel) h_Mo_write_at_s5014 wm_3910 wm_9 wm_3907 wm_3909 wv_24_7 ⟨by decide, by decide, by decide +kernel⟩ (by decide), List.forall_mem_cons.mpr ⟨cl_virtual (y := y_Mo_write_at_s5045) (ci := 13) rfl rfl ⟨_, _, rfl⟩ (by decide +kernel) h_Mo_write_at_s5045 wm_3910 wm_9 wm_3907 wm_3909 wv_24_7 ⟨by decide, by decide, by decide +kernel⟩ (by decide), List.forall_mem_cons.mpr ⟨cl_virtual (y := y_Mo_write_at_s5015) (ci := 13) rfl rfl ⟨_, _, rfl⟩ (by decide +kernel) h_Mo_write_at_s5015 wm_3910 wm_9 wm_3907 wm_3909 wv_24_7 ⟨by decide, by decide, by decide +kernel⟩ (by decide), List.forall_mem_cons.mpr ⟨cl_virtual (y := y_Mo_write_at_s5016) (ci := 13) rfl rfl ⟨_, _, rfl⟩ (by decide +kernel) h_Mo_write_at_s5016 wm_3910 wm_9 wm_3907 wm_3909 wv_24_7 ⟨by decide, by decide, by decide +kernel⟩ (by decide), List.forall_mem_cons.mpr ⟨cl_virtual (y := y_Mo_write_at_s5017) (ci := 13) rfl rfl ⟨_, _, rfl⟩ (by decide +kernel) h_Mo_write_at_s5017 wm_3910 wm_9 wm_3907 wm_3909 wv_24_7 ⟨by decide, by decide, by decide +kernel⟩ (by decide), List.forall_mem_cons.mpr ⟨cl_virtual (y := y_Mo_writeGroup_at_l5) (ci := 13) rfl rfl ⟨_, _, rfl⟩ (by decide +kernel) h_Mo_writeGroup_at_l5 wm_3905 wm_9 wm_3902 wm_3904 wv_24_6 ⟨by decide, by decide, by decide +kernel⟩ (by decide), List.forall_mem_cons.mpr ⟨cl_virtual (y := y_Mo_write_at_s5018) (ci := 13) rfl rfl ⟨_, _, rfl⟩ (by decide +kernel) h_Mo_write_at_s5018 wm_3910 wm_9 wm_3907 wm_3909 wv_24_7 ⟨by decide, by decide, by decide +kernel⟩ (by decide), List.forall_mem_cons.mpr ⟨cl_ldcw (own := "DrawingHouseModel") (idx := 1288) (i := 13) (tx := "node ") (by decide +kernel) (by decide +kernel) (by decide +kernel), List.forall_mem_cons.mpr ⟨cl_ldcw (own := "DrawingHouseModel") (idx := 1296) (i := 14) (tx := " [size=") (by decide +kernel) (by decide +kernel) (by decide +kernel), List.forall_mem_cons.mpr ⟨cl_ldcw (own := "DrawingHouseModel") (idx := 1301) (i := 45) (tx := "]") (by decide +kernel) (by decide +kernel) (by decide +kernel), List.forall_mem_cons.mpr ⟨cl_ldcw (own := "DrawingHouseModel") (idx := 1303) (i := 15) (tx := ";\n") (by decide +kernel) (by decide +kernel) (by decide +kernel), List.forall_mem_cons.mpr ⟨cl_ldcw (own := "DrawingHouseModel") (idx := 1305) (i := 16) (tx := "group ") (by decide +kernel) (by decide +kernel) (by decide +kernel), List.forall_mem_cons.mpr ⟨cl_ldcw (own := "DrawingHouseModel") (idx := 1307) (i := 17) (tx := " {\n") (by decide +kernel) (by decide +kernel) (by decide +kernel), List.forall_mem_cons.mpr ⟨cl_ldcw (own := "DrawingHouseModel") (idx := 1312) (i := 18) (tx := "}\n") (by decide +kernel) (by decide +kernel) (by decide +kernel), List.forall_mem_nil _⟩⟩⟩⟩⟩⟩⟩⟩⟩⟩⟩⟩⟩⟩⟩⟩⟩⟩⟩⟩⟩⟩, List.forall_mem_nil _, List.forall_mem_nil _, GG_pl⟩ (by decide +kernel)

set_option maxHeartbeats 4000000 in
theorem vc_Mo_writeGroup_at_l5_0_0 (x2 : Int) (x3 : Int) (texts_0 : Int) (k2 : 0 ≤ x2 ∧ x2 ≤ 99995604) (k3 : 0 ≤ x3 ∧ x3 ≤ 0) (f0 : 1 * texts_0 + ((-1) * x2 + 0) ≤ 0) (kz_0_170 : 0 ≤ texts_0 ∧ texts_0 ≤ 100000000) : 1 * texts_0 + ((-1) * x2 + ((-36) * x3 + 0)) ≤ 0 := by
  first | assumption | omega | grind
def o_Mo_writeGroup_at_l5_0 : or_T := (2, 4, [(0, (2, 0, 0, [165])), (2, (0, 0, 99995604, [])), (3, (0, 0, 0, []))], [(20, [0, 2], [30, 0, 1, 1, 170, -1, 0, 0])], [], [], [(20, [0, 2, 3], [30, 0, 1, 1, 170, -1, 0, 0, -36, 0, 0]), (24, [0, 0], [])], [], [])
theorem oo_Mo_writeGroup_at_l5_0 {kA : Nat → ClassId} : or_ok PRD kA GG o_Mo_writeGroup_at_l5_0 := by
  refine or_mk fun A ta ws vs hD hth hl => ?_
  intro t0 r0 t2 k2 t3 k3 f0
  have kz_0_170 := fdq_13 hD hth r0
  have nf0 : fc_1 PRD (20, [0, 2, 3], [30, 0, 1, 1, 170, -1, 0, 0, -36, 0, 0]) ws (vs) := ⟨nf_in hl rfl, sgq_1906 (vc_Mo_writeGroup_at_l5_0_0 (v_iv (n_v vs 2)) (v_iv (n_v vs 3)) (w_fi ws (n_v vs 0) 170) k2 k3 (shm_140 f0) kz_0_170)⟩
  have nf1 : fc_1 PRD (24, [0, 0], []) ws (vs) := by
    refine ⟨nf_in hl rfl, sgq_1 ?_⟩
    · show n_v vs 0 = n_v vs 0
      first | rfl | simp only [true_and]
  refine ⟨(fun _ h => (by cases h)), [], trivial, ?_, (fun _ h => (by cases h))⟩
  rw [List.append_nil]
  exact List.forall_mem_cons.mpr ⟨⟨show (20 : Nat) < 100 from by decide, nf0⟩, List.forall_mem_cons.mpr ⟨⟨show (24 : Nat) < 100 from by decide, nf1⟩, (fun _ h => (by cases h))⟩⟩
set_option maxHeartbeats 4000000 in
theorem vc_Mo_writeGroup_at_l5_1_0 (x2 : Int) (x4 : Int) (x5 : Int) (x6 : Int) (x7 : Int) (x8 : Int) (all_0 : Int → Int) (r_0 : Int) (texts_0 : Int) (k2 : 0 ≤ x2 ∧ x2 ≤ 99995604) (k4 : 5 ≤ x4 ∧ x4 ≤ 7) (k5 : 0 ≤ x5 ∧ x5 ≤ 24) (k6 : 0 ≤ x6 ∧ x6 ≤ 24) (k7 : 1 ≤ x7 ∧ x7 ≤ 1) (k8 : 6 ≤ x8 ∧ x8 ≤ 8) (d0 : x4 + 1 ≤ x8 ∧ x8 ≤ x4 + 1) (d1 : x6 + 0 ≤ x5 ∧ x5 ≤ x6 + 4294967296) (f0 : x8 = x4 + x7) (f1 : x6 ≤ x5) (f2 : 1 * x6 + ((-1) * all_0 (r_0 + 0) + 0) ≤ 0) (f3 : (-1) * x6 + (1 * all_0 (r_0 + 0) + 0) ≤ 0) (f4 : 1 * texts_0 + ((-1) * x2 + ((-36) * x5 + 0)) ≤ 0) (kz_0_170 : 0 ≤ texts_0 ∧ texts_0 ≤ 100000000) : 1 * texts_0 + ((-1) * x2 + ((-1766) * x8 + (1766 * x4 + 0))) ≤ (-902) := by
  first | assumption | omega | grind
def o_Mo_writeGroup_at_l5_1 : or_T := (83, 9, [(0, (2, 0, 0, [165])), (2, (0, 0, 99995604, [])), (4, (0, 5, 7, [])), (5, (0, 0, 24, [])), (6, (0, 0, 24, [])), (7, (0, 1, 1, [])), (8, (0, 6, 8, []))], [(1, [8, 4, 7], []), (7, [5, 6], [3]), (20, [6, 3], [30, 0, 1, 0, 0, -1, 3, 2005000]), (20, [6, 3], [30, 0, -1, 0, 0, 1, 3, 2005000]), (20, [3, 2, 5], [30, 0, 1, 1, 170, -1, 0, 0, -36, 0, 0]), (24, [0, 3], [])], [], [], [(20, [3, 2, 8, 4], [30, -902, 1, 1, 170, -1, 0, 0, -1766, 0, 0, 1766, 0, 0])], [], [(8, 4, 1, 1), (5, 6, 0, 4294967296)])
theorem oo_Mo_writeGroup_at_l5_1 {kA : Nat → ClassId} : or_ok PRD kA GG o_Mo_writeGroup_at_l5_1 := by
  refine or_mk fun A ta ws vs hD hth hl => ?_
  intro t0 r0 t2 k2 t4 k4 t5 k5 t6 k6 t7 k7 t8 k8 d0 d1 f0 f1 f2 f3 f4 f5
  replace f0 := shm_12 f0
  replace f1 := shm_2 f1
  replace f2 := shm_135 f2
  replace f3 := shm_136 f3
  replace f4 := shm_1906 f4
  replace f5 := shm_5 f5
  have q3 : n_v vs 3 = n_v vs 0 := f5.symm
  simp only [q3] at f2 f3 f4
  have kz_0_170 := fdq_13 hD hth r0
  have nf0 : fc_1 PRD (20, [3, 2, 8, 4], [30, -902, 1, 1, 170, -1, 0, 0, -1766, 0, 0, 1766, 0, 0]) ws (vs) := by
    refine ⟨nf_in hl rfl, sgq_1949 ?_⟩
    · show 1 * w_fi ws (n_v vs 3) 170 + ((-1) * v_iv (n_v vs 2) + ((-1766) * v_iv (n_v vs 8) + (1766 * v_iv (n_v vs 4) + 0))) ≤ (-902)
      rw [q3]
      exact vc_Mo_writeGroup_at_l5_1_0 (v_iv (n_v vs 2)) (v_iv (n_v vs 4)) (v_iv (n_v vs 5)) (v_iv (n_v vs 6)) (v_iv (n_v vs 7)) (v_iv (n_v vs 8)) (w_ei ws (w_ar ws (n_v vs 0) 2)) (w_fi ws (n_v vs 0) 5) (w_fi ws (n_v vs 0) 170) k2 k4 k5 k6 k7 k8 d0 d1 f0 f1 f2 f3 f4 kz_0_170
  refine ⟨(fun _ h => (by cases h)), [], trivial, ?_, (fun _ h => (by cases h))⟩
  rw [List.append_nil]
  exact List.forall_mem_cons.mpr ⟨⟨show (20 : Nat) < 100 from by decide, nf0⟩, (fun _ h => (by cases h))⟩
set_option maxHeartbeats 4000000 in
theorem vc_Mo_writeGroup_at_l5_2_0 (x2 : Int) (x4 : Int) (x5 : Int) (x6 : Int) (x7 : Int) (all_0 : Int → Int) (r_0 : Int) (texts_0 : Int) (gx : Int) (k2 : 0 ≤ x2 ∧ x2 ≤ 99995604) (k4 : 5 ≤ x4 ∧ x4 ≤ 7) (k5 : 0 ≤ x5 ∧ x5 ≤ 23) (k6 : 1 ≤ x6 ∧ x6 ≤ 24) (k7 : 5 ≤ x7 ∧ x7 ≤ 7) (d0 : x4 + 0 ≤ x7 ∧ x7 ≤ x4 + 0) (d1 : x6 + (-4294967296) ≤ x5 ∧ x5 ≤ x6 + (-1)) (f0 : x7 = x4) (f1 : x7 = all_0 (((r_0 + 243) + x5))) (f2 : x5 < x6) (f3 : 1 * x6 + ((-1) * all_0 (r_0 + 0) + 0) ≤ 0) (f4 : (-1) * x6 + (1 * all_0 (r_0 + 0) + 0) ≤ 0) (f5 : 1 * texts_0 + ((-1) * x2 + ((-36) * x5 + 0)) ≤ 0) (kz_0_170 : 0 ≤ texts_0 ∧ texts_0 ≤ 100000000) (ex2 : gx = texts_0) (ex3 : 0 ≤ gx ∧ gx ≤ 99999995) : 1 * texts_0 + ((-1) * gx + 0) ≤ 0 := by
  first | assumption | omega | grind
set_option maxHeartbeats 4000000 in
theorem vc_Mo_writeGroup_at_l5_2_1 (x2 : Int) (x4 : Int) (x5 : Int) (x6 : Int) (x7 : Int) (all_0 : Int → Int) (r_0 : Int) (texts_0 : Int) (gx : Int) (k2 : 0 ≤ x2 ∧ x2 ≤ 99995604) (k4 : 5 ≤ x4 ∧ x4 ≤ 7) (k5 : 0 ≤ x5 ∧ x5 ≤ 23) (k6 : 1 ≤ x6 ∧ x6 ≤ 24) (k7 : 5 ≤ x7 ∧ x7 ≤ 7) (d0 : x4 + 0 ≤ x7 ∧ x7 ≤ x4 + 0) (d1 : x6 + (-4294967296) ≤ x5 ∧ x5 ≤ x6 + (-1)) (f0 : x7 = x4) (f1 : x7 = all_0 (((r_0 + 243) + x5))) (f2 : x5 < x6) (f3 : 1 * x6 + ((-1) * all_0 (r_0 + 0) + 0) ≤ 0) (f4 : (-1) * x6 + (1 * all_0 (r_0 + 0) + 0) ≤ 0) (f5 : 1 * texts_0 + ((-1) * x2 + ((-36) * x5 + 0)) ≤ 0) (kz_0_170 : 0 ≤ texts_0 ∧ texts_0 ≤ 100000000) (ex2 : gx = texts_0) (ex3 : 0 ≤ gx ∧ gx ≤ 99999995) : 1 * gx + ((-1) * x2 + ((-36) * x5 + 0)) ≤ 0 := by
  first | assumption | omega | grind
def o_Mo_writeGroup_at_l5_2 : or_T := (26, 9, [(0, (2, 0, 0, [165])), (2, (0, 0, 99995604, [])), (3, (2, 0, 0, [165])), (4, (0, 5, 7, [])), (5, (0, 0, 23, [])), (6, (0, 1, 24, [])), (7, (0, 5, 7, []))], [(7, [7, 4], [0]), (20, [7, 3, 5], [50, 1, 1, 1005, 1002, 1, 2, 1, 0, 3, 1, 2, 4, 7, 4, 3, 2, 1, 5, 0, 243, 1, 2]), (7, [5, 6], [2]), (20, [6, 3], [30, 0, 1, 0, 0, -1, 3, 2005000]), (20, [6, 3], [30, 0, -1, 0, 0, 1, 3, 2005000]), (20, [3, 2, 5], [30, 0, 1, 1, 170, -1, 0, 0, -36, 0, 0]), (24, [0, 3], [])], [], [(0, 0, 99999995, [])], [(20, [3, 9], [30, 0, 1, 1, 170, -1, 0, 0]), (23, [9, 2, 5], [0, 1, -1, -36])], [], [(7, 4, 0, 0), (5, 6, -4294967296, -1)])
theorem oo_Mo_writeGroup_at_l5_2 {kA : Nat → ClassId} : or_ok PRD kA GG o_Mo_writeGroup_at_l5_2 := by
  refine or_mk fun A ta ws vs hD hth hl => ?_
  intro t0 r0 t2 k2 t3 r3 t4 k4 t5 k5 t6 k6 t7 k7 d0 d1 f0 f1 f2 f3 f4 f5 f6
  replace f0 := shm_37 f0
  replace f1 := shm_585 f1
  replace f2 := shm_6 f2
  replace f3 := shm_135 f3
  replace f4 := shm_136 f4
  replace f5 := shm_1906 f5
  replace f6 := shm_5 f6
  have q3 : n_v vs 3 = n_v vs 0 := f6.symm
  simp only [q3] at f1 f3 f4 f5
  have cr_0_2 := fdq_12 hD hth r0
  have br_0_2_F5_0_0 : w_ei ws (w_ar ws (n_v vs 0) 2) (w_fi ws (n_v vs 0) 5 + 0) = w_el ws (w_ar ws (n_v vs 0) 2) (w_fi ws (n_v vs 0) 5 + 0).toNat := rfl
  have kz_0_170 := fdq_13 hD hth r0
  have kv0 := fdq_13 hD hth r0
  obtain ⟨x, ex, hx⟩ := iv_ex (ta := ta) (lo := 0) (hi := 99999995) (z := w_fi ws (n_v vs 0) 170) (by omega) (by omega) (by omega) (by omega)
  have ex2 : v_iv (Value.int x) = w_fi ws (n_v vs 0) 170 := ex
  have ex3 : 0 ≤ v_iv (Value.int x) ∧ v_iv (Value.int x) ≤ 99999995 := tv_rng hx
  have e_2 : n_v (vs ++ [Value.int x]) 2 = n_v vs 2 := n_v_old (by rw [hl]; decide)
  have e_3 : n_v (vs ++ [Value.int x]) 3 = n_v vs 3 := n_v_old (by rw [hl]; decide)
  have e_5 : n_v (vs ++ [Value.int x]) 5 = n_v vs 5 := n_v_old (by rw [hl]; decide)
  have e_9 : n_v (vs ++ [Value.int x]) 9 = Value.int x := n_v_new hl
  have nf0 : fc_1 PRD (20, [3, 9], [30, 0, 1, 1, 170, -1, 0, 0]) ws (vs ++ [Value.int x]) := by
    refine ⟨nf_inA hl rfl, sgq_140 ?_⟩
    · show 1 * w_fi ws (n_v (vs ++ [Value.int x]) 3) 170 + ((-1) * v_iv (n_v (vs ++ [Value.int x]) 9) + 0) ≤ 0
      simp only [e_3, e_9, q3]
      exact vc_Mo_writeGroup_at_l5_2_0 (v_iv (n_v vs 2)) (v_iv (n_v vs 4)) (v_iv (n_v vs 5)) (v_iv (n_v vs 6)) (v_iv (n_v vs 7)) (w_ei ws (w_ar ws (n_v vs 0) 2)) (w_fi ws (n_v vs 0) 5) (w_fi ws (n_v vs 0) 170) (v_iv (Value.int x)) k2 k4 k5 k6 k7 d0 d1 f0 f1 f2 f3 f4 f5 kz_0_170 ex2 ex3
  have nf1 : fc_1 PRD (23, [9, 2, 5], [0, 1, -1, -36]) ws (vs ++ [Value.int x]) := by
    refine ⟨nf_inA hl rfl, sgq_1908 ?_⟩
    · show 1 * v_iv (n_v (vs ++ [Value.int x]) 9) + ((-1) * v_iv (n_v (vs ++ [Value.int x]) 2) + ((-36) * v_iv (n_v (vs ++ [Value.int x]) 5) + 0)) ≤ 0
      simp only [e_2, e_5, e_9]
      exact vc_Mo_writeGroup_at_l5_2_1 (v_iv (n_v vs 2)) (v_iv (n_v vs 4)) (v_iv (n_v vs 5)) (v_iv (n_v vs 6)) (v_iv (n_v vs 7)) (w_ei ws (w_ar ws (n_v vs 0) 2)) (w_fi ws (n_v vs 0) 5) (w_fi ws (n_v vs 0) 170) (v_iv (Value.int x)) k2 k4 k5 k6 k7 d0 d1 f0 f1 f2 f3 f4 f5 kz_0_170 ex2 ex3
  exact ⟨(fun _ h => (by cases h)), [Value.int x], ag_one hx, List.forall_mem_cons.mpr ⟨⟨show (20 : Nat) < 100 from by decide, nf0⟩, List.forall_mem_cons.mpr ⟨⟨show (23 : Nat) < 100 from by decide, nf1⟩, (fun _ h => (by cases h))⟩⟩, (fun _ h => (by cases h))⟩
set_option maxHeartbeats 4000000 in
theorem vc_Mo_writeGroup_at_l5_3_0 (x2 : Int) (x4 : Int) (x5 : Int) (x6 : Int) (x7 : Int) (x9 : Int) (all_0 : Int → Int) (r_0 : Int) (texts_0 : Int) (gx : Int) (k2 : 0 ≤ x2 ∧ x2 ≤ 99995604) (k4 : 5 ≤ x4 ∧ x4 ≤ 7) (k5 : 0 ≤ x5 ∧ x5 ≤ 23) (k6 : 1 ≤ x6 ∧ x6 ≤ 24) (k7 : 5 ≤ x7 ∧ x7 ≤ 7) (k9 : 0 ≤ x9 ∧ x9 ≤ 99999995) (d0 : x4 + 0 ≤ x7 ∧ x7 ≤ x4 + 0) (d1 : x6 + (-4294967296) ≤ x5 ∧ x5 ≤ x6 + (-1)) (f0 : 1 * x9 + ((-1) * x2 + ((-36) * x5 + 0)) ≤ 0) (f1 : x7 = all_0 (((r_0 + 243) + x5))) (f2 : 1 * x6 + ((-1) * all_0 (r_0 + 0) + 0) ≤ 0) (f3 : (-1) * x6 + (1 * all_0 (r_0 + 0) + 0) ≤ 0) (f5 : 1 * texts_0 + ((-1) * x9 + 0) ≤ 5) (f7 : 1 * x9 + ((-1) * x2 + ((-36) * x5 + 0)) ≤ 0) (f8 : x7 = x4) (f9 : x5 < x6) (kz_0_170 : 0 ≤ texts_0 ∧ texts_0 ≤ 100000000) (ex2 : gx = texts_0) (ex3 : 0 ≤ gx ∧ gx ≤ 99999992) : 1 * texts_0 + ((-1) * gx + 0) ≤ 0 := by
  first | assumption | omega | grind
set_option maxHeartbeats 4000000 in
theorem vc_Mo_writeGroup_at_l5_3_1 (x2 : Int) (x4 : Int) (x5 : Int) (x6 : Int) (x7 : Int) (x9 : Int) (all_0 : Int → Int) (r_0 : Int) (texts_0 : Int) (gx : Int) (k2 : 0 ≤ x2 ∧ x2 ≤ 99995604) (k4 : 5 ≤ x4 ∧ x4 ≤ 7) (k5 : 0 ≤ x5 ∧ x5 ≤ 23) (k6 : 1 ≤ x6 ∧ x6 ≤ 24) (k7 : 5 ≤ x7 ∧ x7 ≤ 7) (k9 : 0 ≤ x9 ∧ x9 ≤ 99999995) (d0 : x4 + 0 ≤ x7 ∧ x7 ≤ x4 + 0) (d1 : x6 + (-4294967296) ≤ x5 ∧ x5 ≤ x6 + (-1)) (f0 : 1 * x9 + ((-1) * x2 + ((-36) * x5 + 0)) ≤ 0) (f1 : x7 = all_0 (((r_0 + 243) + x5))) (f2 : 1 * x6 + ((-1) * all_0 (r_0 + 0) + 0) ≤ 0) (f3 : (-1) * x6 + (1 * all_0 (r_0 + 0) + 0) ≤ 0) (f5 : 1 * texts_0 + ((-1) * x9 + 0) ≤ 5) (f7 : 1 * x9 + ((-1) * x2 + ((-36) * x5 + 0)) ≤ 0) (f8 : x7 = x4) (f9 : x5 < x6) (kz_0_170 : 0 ≤ texts_0 ∧ texts_0 ≤ 100000000) (ex2 : gx = texts_0) (ex3 : 0 ≤ gx ∧ gx ≤ 99999992) : 1 * gx + ((-1) * x2 + ((-36) * x5 + 0)) ≤ 5 := by
  first | assumption | omega | grind
def o_Mo_writeGroup_at_l5_3 : or_T := (31, 10, [(0, (2, 0, 0, [165])), (2, (0, 0, 99995604, [])), (3, (2, 0, 0, [165])), (4, (0, 5, 7, [])), (5, (0, 0, 23, [])), (6, (0, 1, 24, [])), (7, (0, 5, 7, [])), (9, (0, 0, 99999995, []))], [(23, [9, 2, 5], [0, 1, -1, -36]), (20, [7, 3, 5], [50, 1, 1, 1005, 1002, 1, 2, 1, 0, 3, 1, 2, 4, 7, 4, 3, 2, 1, 5, 0, 243, 1, 2]), (20, [6, 3], [30, 0, 1, 0, 0, -1, 3, 2005000]), (20, [6, 3], [30, 0, -1, 0, 0, 1, 3, 2005000]), (24, [0, 3], []), (20, [3, 9], [30, 5, 1, 1, 170, -1, 0, 0]), (102, [9], [7770675568902916283677847627294075626569627356208558085007249638955617140820833992704, 165170]), (23, [9, 2, 5], [0, 1, -1, -36]), (7, [7, 4], [0]), (7, [5, 6], [2])], [], [(0, 0, 99999992, [])], [(20, [3, 10], [30, 0, 1, 1, 170, -1, 0, 0]), (23, [10, 2, 5], [5, 1, -1, -36])], [], [(7, 4, 0, 0), (5, 6, -4294967296, -1)])
theorem oo_Mo_writeGroup_at_l5_3 {kA : Nat → ClassId} : or_ok PRD kA GG o_Mo_writeGroup_at_l5_3 := by
  refine or_mk fun A ta ws vs hD hth hl => ?_
  intro t0 r0 t2 k2 t3 r3 t4 k4 t5 k5 t6 k6 t7 k7 t9 k9 d0 d1 f0 f1 f2 f3 f4 f5 ta1 w1 le1 s1 f7 f8 f9
  replace f0 := shm_1908 f0
  replace f1 := shm_585 f1
  replace f2 := shm_135 f2
  replace f3 := shm_136 f3
  replace f4 := shm_5 f4
  replace f5 := shm_232 f5
  replace f7 := shm_1908 f7
  replace f8 := shm_37 f8
  replace f9 := shm_6 f9
  have q3 : n_v vs 3 = n_v vs 0 := f4.symm
  simp only [q3] at f1 f2 f3 f5
  have cr_0_2 := fdq_12 hD hth r0
  have br_0_2_F5_0_0 : w_ei ws (w_ar ws (n_v vs 0) 2) (w_fi ws (n_v vs 0) 5 + 0) = w_el ws (w_ar ws (n_v vs 0) 2) (w_fi ws (n_v vs 0) 5 + 0).toNat := rfl
  have kz_0_170 := fdq_13 hD hth r0
  have kv0 := fdq_13 hD hth r0
  obtain ⟨x, ex, hx⟩ := iv_ex (ta := ta) (lo := 0) (hi := 99999992) (z := w_fi ws (n_v vs 0) 170) (by omega) (by omega) (by omega) (by omega)
  have ex2 : v_iv (Value.int x) = w_fi ws (n_v vs 0) 170 := ex
  have ex3 : 0 ≤ v_iv (Value.int x) ∧ v_iv (Value.int x) ≤ 99999992 := tv_rng hx
  have e_2 : n_v (vs ++ [Value.int x]) 2 = n_v vs 2 := n_v_old (by rw [hl]; decide)
  have e_3 : n_v (vs ++ [Value.int x]) 3 = n_v vs 3 := n_v_old (by rw [hl]; decide)
  have e_5 : n_v (vs ++ [Value.int x]) 5 = n_v vs 5 := n_v_old (by rw [hl]; decide)
  have e_10 : n_v (vs ++ [Value.int x]) 10 = Value.int x := n_v_new hl
  have nf0 : fc_1 PRD (20, [3, 10], [30, 0, 1, 1, 170, -1, 0, 0]) ws (vs ++ [Value.int x]) := by
    refine ⟨nf_inA hl rfl, sgq_140 ?_⟩
    · show 1 * w_fi ws (n_v (vs ++ [Value.int x]) 3) 170 + ((-1) * v_iv (n_v (vs ++ [Value.int x]) 10) + 0) ≤ 0
      simp only [e_3, e_10, q3]
      exact vc_Mo_writeGroup_at_l5_3_0 (v_iv (n_v vs 2)) (v_iv (n_v vs 4)) (v_iv (n_v vs 5)) (v_iv (n_v vs 6)) (v_iv (n_v vs 7)) (v_iv (n_v vs 9)) (w_ei ws (w_ar ws (n_v vs 0) 2)) (w_fi ws (n_v vs 0) 5) (w_fi ws (n_v vs 0) 170) (v_iv (Value.int x)) k2 k4 k5 k6 k7 k9 d0 d1 f0 f1 f2 f3 f5 f7 f8 f9 kz_0_170 ex2 ex3
  have nf1 : fc_1 PRD (23, [10, 2, 5], [5, 1, -1, -36]) ws (vs ++ [Value.int x]) := by
    refine ⟨nf_inA hl rfl, sgq_1909 ?_⟩
    · show 1 * v_iv (n_v (vs ++ [Value.int x]) 10) + ((-1) * v_iv (n_v (vs ++ [Value.int x]) 2) + ((-36) * v_iv (n_v (vs ++ [Value.int x]) 5) + 0)) ≤ 5
      simp only [e_2, e_5, e_10]
      exact vc_Mo_writeGroup_at_l5_3_1 (v_iv (n_v vs 2)) (v_iv (n_v vs 4)) (v_iv (n_v vs 5)) (v_iv (n_v vs 6)) (v_iv (n_v vs 7)) (v_iv (n_v vs 9)) (w_ei ws (w_ar ws (n_v vs 0) 2)) (w_fi ws (n_v vs 0) 5) (w_fi ws (n_v vs 0) 170) (v_iv (Value.int x)) k2 k4 k5 k6 k7 k9 d0 d1 f0 f1 f2 f3 f5 f7 f8 f9 kz_0_170 ex2 ex3
  exact ⟨(fun _ h => (by cases h)), [Value.int x], ag_one hx, List.forall_mem_cons.mpr ⟨⟨show (20 : Nat) < 100 from by decide, nf0⟩, List.forall_mem_cons.mpr ⟨⟨show (23 : Nat) < 100 from by decide, nf1⟩, (fun _ h => (by cases h))⟩⟩, (fun _ h => (by cases h))⟩
set_option maxHeartbeats 4000000 in
theorem vc_Mo_writeGroup_at_l5_4_0 (x2 : Int) (x4 : Int) (x5 : Int) (x6 : Int) (x7 : Int) (x9 : Int) (x10 : Int) (x11 : Int) (x12 : Int) (all_0 : Int → Int) (r_0 : Int) (texts_0 : Int) (gx : Int) (k2 : 0 ≤ x2 ∧ x2 ≤ 99995604) (k4 : 5 ≤ x4 ∧ x4 ≤ 7) (k5 : 0 ≤ x5 ∧ x5 ≤ 23) (k6 : 1 ≤ x6 ∧ x6 ≤ 24) (k7 : 5 ≤ x7 ∧ x7 ≤ 7) (k9 : 0 ≤ x9 ∧ x9 ≤ 99999995) (k10 : 0 ≤ x10 ∧ x10 ≤ 99999992) (k11 : 0 ≤ x11 ∧ x11 ≤ 1) (k12 : 1 ≤ x12 ∧ x12 ≤ 1) (d0 : x4 + 0 ≤ x7 ∧ x7 ≤ x4 + 0) (d1 : x6 + (-4294967296) ≤ x5 ∧ x5 ≤ x6 + (-1)) (f0 : x11 ≤ x12) (f1 : x11 = all_0 (((r_0 + 219) + x5))) (f2 : 1 * x10 + ((-1) * x2 + ((-36) * x5 + 0)) ≤ 5) (f3 : 1 * x9 + ((-1) * x2 + ((-36) * x5 + 0)) ≤ 0) (f4 : x7 = all_0 (((r_0 + 243) + x5))) (f5 : 1 * x6 + ((-1) * all_0 (r_0 + 0) + 0) ≤ 0) (f6 : (-1) * x6 + (1 * all_0 (r_0 + 0) + 0) ≤ 0) (f8 : 1 * texts_0 + ((-1) * x10 + 0) ≤ 8) (f10 : 1 * x10 + ((-1) * x2 + ((-36) * x5 + 0)) ≤ 5) (f11 : 1 * x9 + ((-1) * x2 + ((-36) * x5 + 0)) ≤ 0) (f13 : 1 * x9 + ((-1) * x2 + ((-36) * x5 + 0)) ≤ 0) (f14 : x7 = x4) (f15 : x5 < x6) (kz_0_170 : 0 ≤ texts_0 ∧ texts_0 ≤ 100000000) (ex2 : gx = texts_0) (ex3 : 0 ≤ gx ∧ gx ≤ 99999998) : 1 * texts_0 + ((-1) * gx + 0) ≤ 0 := by
  first | assumption | omega | grind
set_option maxHeartbeats 4000000 in
theorem vc_Mo_writeGroup_at_l5_4_1 (x2 : Int) (x4 : Int) (x5 : Int) (x6 : Int) (x7 : Int) (x9 : Int) (x10 : Int) (x11 : Int) (x12 : Int) (all_0 : Int → Int) (r_0 : Int) (texts_0 : Int) (gx : Int) (k2 : 0 ≤ x2 ∧ x2 ≤ 99995604) (k4 : 5 ≤ x4 ∧ x4 ≤ 7) (k5 : 0 ≤ x5 ∧ x5 ≤ 23) (k6 : 1 ≤ x6 ∧ x6 ≤ 24) (k7 : 5 ≤ x7 ∧ x7 ≤ 7) (k9 : 0 ≤ x9 ∧ x9 ≤ 99999995) (k10 : 0 ≤ x10 ∧ x10 ≤ 99999992) (k11 : 0 ≤ x11 ∧ x11 ≤ 1) (k12 : 1 ≤ x12 ∧ x12 ≤ 1) (d0 : x4 + 0 ≤ x7 ∧ x7 ≤ x4 + 0) (d1 : x6 + (-4294967296) ≤ x5 ∧ x5 ≤ x6 + (-1)) (f0 : x11 ≤ x12) (f1 : x11 = all_0 (((r_0 + 219) + x5))) (f2 : 1 * x10 + ((-1) * x2 + ((-36) * x5 + 0)) ≤ 5) (f3 : 1 * x9 + ((-1) * x2 + ((-36) * x5 + 0)) ≤ 0) (f4 : x7 = all_0 (((r_0 + 243) + x5))) (f5 : 1 * x6 + ((-1) * all_0 (r_0 + 0) + 0) ≤ 0) (f6 : (-1) * x6 + (1 * all_0 (r_0 + 0) + 0) ≤ 0) (f8 : 1 * texts_0 + ((-1) * x10 + 0) ≤ 8) (f10 : 1 * x10 + ((-1) * x2 + ((-36) * x5 + 0)) ≤ 5) (f11 : 1 * x9 + ((-1) * x2 + ((-36) * x5 + 0)) ≤ 0) (f13 : 1 * x9 + ((-1) * x2 + ((-36) * x5 + 0)) ≤ 0) (f14 : x7 = x4) (f15 : x5 < x6) (kz_0_170 : 0 ≤ texts_0 ∧ texts_0 ≤ 100000000) (ex2 : gx = texts_0) (ex3 : 0 ≤ gx ∧ gx ≤ 99999998) : 1 * gx + ((-1) * x2 + ((-36) * x5 + 0)) ≤ 34 := by
  first | assumption | omega | grind
def o_Mo_writeGroup_at_l5_4 : or_T := (70, 14, [(0, (2, 0, 0, [165])), (2, (0, 0, 99995604, [])), (3, (2, 0, 0, [165])), (4, (0, 5, 7, [])), (5, (0, 0, 23, [])), (6, (0, 1, 24, [])), (7, (0, 5, 7, [])), (9, (0, 0, 99999995, [])), (10, (0, 0, 99999992, [])), (11, (0, 0, 1, [])), (12, (0, 1, 1, []))], [(7, [11, 12], [5]), (20, [11, 3, 5], [50, 1, 1, 1005, 1002, 1, 2, 1, 0, 3, 1, 2, 4, 7, 4, 3, 2, 1, 5, 0, 219, 1, 2]), (23, [10, 2, 5], [5, 1, -1, -36]), (23, [9, 2, 5], [0, 1, -1, -36]), (20, [7, 3, 5], [50, 1, 1, 1005, 1002, 1, 2, 1, 0, 3, 1, 2, 4, 7, 4, 3, 2, 1, 5, 0, 243, 1, 2]), (20, [6, 3], [30, 0, 1, 0, 0, -1, 3, 2005000]), (20, [6, 3], [30, 0, -1, 0, 0, 1, 3, 2005000]), (24, [0, 3], []), (20, [3, 10], [30, 8, 1, 1, 170, -1, 0, 0]), (102, [10], [7770675568902916283677847627294075626569627356208558085007249638955617140820833992704, 165170]), (23, [10, 2, 5], [5, 1, -1, -36]), (23, [9, 2, 5], [0, 1, -1, -36]), (102, [9], [7770675568902916283677847627294075626569627356208558085007249638955617140820833992704, 165170]), (23, [9, 2, 5], [0, 1, -1, -36]), (7, [7, 4], [0]), (7, [5, 6], [2])], [], [(0, 0, 99999998, [])], [(20, [3, 14], [30, 0, 1, 1, 170, -1, 0, 0]), (23, [14, 2, 5], [34, 1, -1, -36])], [], [(7, 4, 0, 0), (5, 6, -4294967296, -1)])
theorem oo_Mo_writeGroup_at_l5_4 {kA : Nat → ClassId} : or_ok PRD kA GG o_Mo_writeGroup_at_l5_4 := by
  refine or_mk fun A ta ws vs hD hth hl => ?_
  intro t0 r0 t2 k2 t3 r3 t4 k4 t5 k5 t6 k6 t7 k7 t9 k9 t10 k10 t11 k11 t12 k12 d0 d1 f0 f1 f2 f3 f4 f5 f6 f7 f8 ta1 w1 le1 s1 f10 f11 ta2 w2 le2 s2 f13 f14 f15
  replace f0 := shm_24 f0
  replace f1 := shm_718 f1
  replace f2 := shm_1909 f2
  replace f3 := shm_1908 f3
  replace f4 := shm_585 f4
  replace f5 := shm_135 f5
  replace f6 := shm_136 f6
  replace f7 := shm_5 f7
  replace f8 := shm_172 f8
  replace f10 := shm_1909 f10
  replace f11 := shm_1908 f11
  replace f13 := shm_1908 f13
  replace f14 := shm_37 f14
  replace f15 := shm_6 f15
  have q3 : n_v vs 3 = n_v vs 0 := f7.symm
  simp only [q3] at f1 f4 f5 f6 f8
  have cr_0_2 := fdq_12 hD hth r0
  have br_0_2_F5_0_0 : w_ei ws (w_ar ws (n_v vs 0) 2) (w_fi ws (n_v vs 0) 5 + 0) = w_el ws (w_ar ws (n_v vs 0) 2) (w_fi ws (n_v vs 0) 5 + 0).toNat := rfl
  have kz_0_170 := fdq_13 hD hth r0
  have kv0 := fdq_13 hD hth r0
  obtain ⟨x, ex, hx⟩ := iv_ex (ta := ta) (lo := 0) (hi := 99999998) (z := w_fi ws (n_v vs 0) 170) (by omega) (by omega) (by omega) (by omega)
  have ex2 : v_iv (Value.int x) = w_fi ws (n_v vs 0) 170 := ex
  have ex3 : 0 ≤ v_iv (Value.int x) ∧ v_iv (Value.int x) ≤ 99999998 := tv_rng hx
  have e_2 : n_v (vs ++ [Value.int x]) 2 = n_v vs 2 := n_v_old (by rw [hl]; decide)
  have e_3 : n_v (vs ++ [Value.int x]) 3 = n_v vs 3 := n_v_old (by rw [hl]; decide)
  have e_5 : n_v (vs ++ [Value.int x]) 5 = n_v vs 5 := n_v_old (by rw [hl]; decide)
  have e_14 : n_v (vs ++ [Value.int x]) 14 = Value.int x := n_v_new hl
  have nf0 : fc_1 PRD (20, [3, 14], [30, 0, 1, 1, 170, -1, 0, 0]) ws (vs ++ [Value.int x]) := by
    refine ⟨nf_inA hl rfl, sgq_140 ?_⟩
    · show 1 * w_fi ws (n_v (vs ++ [Value.int x]) 3) 170 + ((-1) * v_iv (n_v (vs ++ [Value.int x]) 14) + 0) ≤ 0
      simp only [e_3, e_14, q3]
      exact vc_Mo_writeGroup_at_l5_4_0 (v_iv (n_v vs 2)) (v_iv (n_v vs 4)) (v_iv (n_v vs 5)) (v_iv (n_v vs 6)) (v_iv (n_v vs 7)) (v_iv (n_v vs 9)) (v_iv (n_v vs 10)) (v_iv (n_v vs 11)) (v_iv (n_v vs 12)) (w_ei ws (w_ar ws (n_v vs 0) 2)) (w_fi ws (n_v vs 0) 5) (w_fi ws (n_v vs 0) 170) (v_iv (Value.int x)) k2 k4 k5 k6 k7 k9 k10 k11 k12 d0 d1 f0 f1 f2 f3 f4 f5 f6 f8 f10 f11 f13 f14 f15 kz_0_170 ex2 ex3
  have nf1 : fc_1 PRD (23, [14, 2, 5], [34, 1, -1, -36]) ws (vs ++ [Value.int x]) := by
    refine ⟨nf_inA hl rfl, sgq_1910 ?_⟩
    · show 1 * v_iv (n_v (vs ++ [Value.int x]) 14) + ((-1) * v_iv (n_v (vs ++ [Value.int x]) 2) + ((-36) * v_iv (n_v (vs ++ [Value.int x]) 5) + 0)) ≤ 34
      simp only [e_2, e_5, e_14]
      exact vc_Mo_writeGroup_at_l5_4_1 (v_iv (n_v vs 2)) (v_iv (n_v vs 4)) (v_iv (n_v vs 5)) (v_iv (n_v vs 6)) (v_iv (n_v vs 7)) (v_iv (n_v vs 9)) (v_iv (n_v vs 10)) (v_iv (n_v vs 11)) (v_iv (n_v vs 12)) (w_ei ws (w_ar ws (n_v vs 0) 2)) (w_fi ws (n_v vs 0) 5) (w_fi ws (n_v vs 0) 170) (v_iv (Value.int x)) k2 k4 k5 k6 k7 k9 k10 k11 k12 d0 d1 f0 f1 f2 f3 f4 f5 f6 f8 f10 f11 f13 f14 f15 kz_0_170 ex2 ex3
  exact ⟨(fun _ h => (by cases h)), [Value.int x], ag_one hx, List.forall_mem_cons.mpr ⟨⟨show (20 : Nat) < 100 from by decide, nf0⟩, List.forall_mem_cons.mpr ⟨⟨show (23 : Nat) < 100 from by decide, nf1⟩, (fun _ h => (by cases h))⟩⟩, (fun _ h => (by cases h))⟩
set_option maxHeartbeats 4000000 in
theorem vc_Mo_writeGroup_at_l5_5_0 (x2 : Int) (x4 : Int) (x5 : Int) (x6 : Int) (x7 : Int) (x9 : Int) (x10 : Int) (x11 : Int) (x12 : Int) (x14 : Int) (x15 : Int) (all_0 : Int → Int) (r_0 : Int) (texts_0 : Int) (k2 : 0 ≤ x2 ∧ x2 ≤ 99995604) (k4 : 5 ≤ x4 ∧ x4 ≤ 7) (k5 : 0 ≤ x5 ∧ x5 ≤ 23) (k6 : 1 ≤ x6 ∧ x6 ≤ 24) (k7 : 5 ≤ x7 ∧ x7 ≤ 7) (k9 : 0 ≤ x9 ∧ x9 ≤ 99999995) (k10 : 0 ≤ x10 ∧ x10 ≤ 99999992) (k11 : 0 ≤ x11 ∧ x11 ≤ 1) (k12 : 1 ≤ x12 ∧ x12 ≤ 1) (k14 : 0 ≤ x14 ∧ x14 ≤ 99999998) (k15 : 1 ≤ x15 ∧ x15 ≤ 24) (d0 : x5 + 1 ≤ x15 ∧ x15 ≤ x5 + 1) (d1 : x6 + (-4294967296) ≤ x15 ∧ x15 ≤ x6 + 0) (d2 : x4 + 0 ≤ x7 ∧ x7 ≤ x4 + 0) (d3 : x6 + (-4294967296) ≤ x5 ∧ x5 ≤ x6 + (-1)) (f0 : x15 = x5 + 1) (f1 : 1 * x14 + ((-1) * x2 + ((-36) * x5 + 0)) ≤ 34) (f2 : x11 = all_0 (((r_0 + 219) + x5))) (f3 : 1 * x10 + ((-1) * x2 + ((-36) * x5 + 0)) ≤ 5) (f4 : 1 * x9 + ((-1) * x2 + ((-36) * x5 + 0)) ≤ 0) (f5 : x7 = all_0 (((r_0 + 243) + x5))) (f6 : 1 * x6 + ((-1) * all_0 (r_0 + 0) + 0) ≤ 0) (f7 : (-1) * x6 + (1 * all_0 (r_0 + 0) + 0) ≤ 0) (f9 : 1 * texts_0 + ((-1) * x14 + 0) ≤ 2) (f11 : 1 * x14 + ((-1) * x2 + ((-36) * x5 + 0)) ≤ 34) (f12 : x11 ≤ x12) (f13 : 1 * x10 + ((-1) * x2 + ((-36) * x5 + 0)) ≤ 5) (f14 : 1 * x9 + ((-1) * x2 + ((-36) * x5 + 0)) ≤ 0) (f16 : 1 * x10 + ((-1) * x2 + ((-36) * x5 + 0)) ≤ 5) (f17 : 1 * x9 + ((-1) * x2 + ((-36) * x5 + 0)) ≤ 0) (f19 : 1 * x9 + ((-1) * x2 + ((-36) * x5 + 0)) ≤ 0) (f20 : x7 = x4) (f21 : x5 < x6) (kz_0_170 : 0 ≤ texts_0 ∧ texts_0 ≤ 100000000) : 1 * texts_0 + ((-1) * x2 + ((-36) * x15 + 0)) ≤ 0 := by
  first | assumption | omega | grind
def o_Mo_writeGroup_at_l5_5 : or_T := (2, 16, [(0, (2, 0, 0, [165])), (2, (0, 0, 99995604, [])), (4, (0, 5, 7, [])), (5, (0, 0, 23, [])), (6, (0, 1, 24, [])), (7, (0, 5, 7, [])), (9, (0, 0, 99999995, [])), (10, (0, 0, 99999992, [])), (11, (0, 0, 1, [])), (12, (0, 1, 1, [])), (14, (0, 0, 99999998, [])), (15, (0, 1, 24, []))], [(6, [15, 5], [1]), (23, [14, 2, 5], [34, 1, -1, -36]), (20, [11, 3, 5], [50, 1, 1, 1005, 1002, 1, 2, 1, 0, 3, 1, 2, 4, 7, 4, 3, 2, 1, 5, 0, 219, 1, 2]), (23, [10, 2, 5], [5, 1, -1, -36]), (23, [9, 2, 5], [0, 1, -1, -36]), (20, [7, 3, 5], [50, 1, 1, 1005, 1002, 1, 2, 1, 0, 3, 1, 2, 4, 7, 4, 3, 2, 1, 5, 0, 243, 1, 2]), (20, [6, 3], [30, 0, 1, 0, 0, -1, 3, 2005000]), (20, [6, 3], [30, 0, -1, 0, 0, 1, 3, 2005000]), (24, [0, 3], []), (20, [3, 14], [30, 2, 1, 1, 170, -1, 0, 0]), (102, [14], [7770675568902916283677847627294075626569627356208558085007249638955617140820833992704, 165170]), (23, [14, 2, 5], [34, 1, -1, -36]), (7, [11, 12], [5]), (23, [10, 2, 5], [5, 1, -1, -36]), (23, [9, 2, 5], [0, 1, -1, -36]), (102, [10], [7770675568902916283677847627294075626569627356208558085007249638955617140820833992704, 165170]), (23, [10, 2, 5], [5, 1, -1, -36]), (23, [9, 2, 5], [0, 1, -1, -36]), (102, [9], [7770675568902916283677847627294075626569627356208558085007249638955617140820833992704, 165170]), (23, [9, 2, 5], [0, 1, -1, -36]), (7, [7, 4], [0]), (7, [5, 6], [2])], [], [], [(20, [3, 2, 15], [30, 0, 1, 1, 170, -1, 0, 0, -36, 0, 0])], [], [(15, 5, 1, 1), (15, 6, -4294967296, 0), (7, 4, 0, 0), (5, 6, -4294967296, -1)])
theorem oo_Mo_writeGroup_at_l5_5 {kA : Nat → ClassId} : or_ok PRD kA GG o_Mo_writeGroup_at_l5_5 := by
  refine or_mk fun A ta ws vs hD hth hl => ?_
  intro t0 r0 t2 k2 t4 k4 t5 k5 t6 k6 t7 k7 t9 k9 t10 k10 t11 k11 t12 k12 t14 k14 t15 k15 d0 d1 d2 d3 f0 f1 f2 f3 f4 f5 f6 f7 f8 f9 ta1 w1 le1 s1 f11 f12 f13 f14 ta2 w2 le2 s2 f16 f17 ta3 w3 le3 s3 f19 f20 f21
  replace f0 := shm_4 f0
  replace f1 := shm_1910 f1
  replace f2 := shm_718 f2
  replace f3 := shm_1909 f3
  replace f4 := shm_1908 f4
  replace f5 := shm_585 f5
  replace f6 := shm_135 f6
  replace f7 := shm_136 f7
  replace f8 := shm_5 f8
  replace f9 := shm_234 f9
  replace f11 := shm_1910 f11
  replace f12 := shm_24 f12
  replace f13 := shm_1909 f13
  replace f14 := shm_1908 f14
  replace f16 := shm_1909 f16
  replace f17 := shm_1908 f17
  replace f19 := shm_1908 f19
  replace f20 := shm_37 f20
  replace f21 := shm_6 f21
  have q3 : n_v vs 3 = n_v vs 0 := f8.symm
  simp only [q3] at f2 f5 f6 f7 f9
  have kz_0_170 := fdq_13 hD hth r0
  have nf0 : fc_1 PRD (20, [3, 2, 15], [30, 0, 1, 1, 170, -1, 0, 0, -36, 0, 0]) ws (vs) := by
    refine ⟨nf_in hl rfl, sgq_1906 ?_⟩
    · show 1 * w_fi ws (n_v vs 3) 170 + ((-1) * v_iv (n_v vs 2) + ((-36) * v_iv (n_v vs 15) + 0)) ≤ 0
      rw [q3]
      exact vc_Mo_writeGroup_at_l5_5_0 (v_iv (n_v vs 2)) (v_iv (n_v vs 4)) (v_iv (n_v vs 5)) (v_iv (n_v vs 6)) (v_iv (n_v vs 7)) (v_iv (n_v vs 9)) (v_iv (n_v vs 10)) (v_iv (n_v vs 11)) (v_iv (n_v vs 12)) (v_iv (n_v vs 14)) (v_iv (n_v vs 15)) (w_ei ws (w_ar ws (n_v vs 0) 2)) (w_fi ws (n_v vs 0) 5) (w_fi ws (n_v vs 0) 170) k2 k4 k5 k6 k7 k9 k10 k11 k12 k14 k15 d0 d1 d2 d3 f0 f1 f2 f3 f4 f5 f6 f7 f9 f11 f12 f13 f14 f16 f17 f19 f20 f21 kz_0_170
  refine ⟨(fun _ h => (by cases h)), [], trivial, ?_, (fun _ h => (by cases h))⟩
  rw [List.append_nil]
  exact List.forall_mem_cons.mpr ⟨⟨show (20 : Nat) < 100 from by decide, nf0⟩, (fun _ h => (by cases h))⟩
set_option maxHeartbeats 4000000 in
theorem vc_Mo_writeGroup_at_l5_6_0 (x2 : Int) (x4 : Int) (x5 : Int) (x6 : Int) (x7 : Int) (x9 : Int) (x10 : Int) (x11 : Int) (x12 : Int) (all_0 : Int → Int) (r_0 : Int) (texts_0 : Int) (gx : Int) (k2 : 0 ≤ x2 ∧ x2 ≤ 99995604) (k4 : 5 ≤ x4 ∧ x4 ≤ 7) (k5 : 0 ≤ x5 ∧ x5 ≤ 23) (k6 : 1 ≤ x6 ∧ x6 ≤ 24) (k7 : 5 ≤ x7 ∧ x7 ≤ 7) (k9 : 0 ≤ x9 ∧ x9 ≤ 99999995) (k10 : 0 ≤ x10 ∧ x10 ≤ 99999992) (k11 : 2 ≤ x11 ∧ x11 ≤ 99) (k12 : 1 ≤ x12 ∧ x12 ≤ 1) (d0 : x4 + 0 ≤ x7 ∧ x7 ≤ x4 + 0) (d1 : x6 + (-4294967296) ≤ x5 ∧ x5 ≤ x6 + (-1)) (f0 : x12 < x11) (f1 : x11 = all_0 (((r_0 + 219) + x5))) (f2 : 1 * x10 + ((-1) * x2 + ((-36) * x5 + 0)) ≤ 5) (f3 : 1 * x9 + ((-1) * x2 + ((-36) * x5 + 0)) ≤ 0) (f4 : x7 = all_0 (((r_0 + 243) + x5))) (f5 : 1 * x6 + ((-1) * all_0 (r_0 + 0) + 0) ≤ 0) (f6 : (-1) * x6 + (1 * all_0 (r_0 + 0) + 0) ≤ 0) (f8 : 1 * texts_0 + ((-1) * x10 + 0) ≤ 8) (f10 : 1 * x10 + ((-1) * x2 + ((-36) * x5 + 0)) ≤ 5) (f11 : 1 * x9 + ((-1) * x2 + ((-36) * x5 + 0)) ≤ 0) (f13 : 1 * x9 + ((-1) * x2 + ((-36) * x5 + 0)) ≤ 0) (f14 : x7 = x4) (f15 : x5 < x6) (kz_0_170 : 0 ≤ texts_0 ∧ texts_0 ≤ 100000000) (ex2 : gx = texts_0) (ex3 : 0 ≤ gx ∧ gx ≤ 99999993) : 1 * texts_0 + ((-1) * gx + 0) ≤ 0 := by
  first | assumption | omega | grind
set_option maxHeartbeats 4000000 in
theorem vc_Mo_writeGroup_at_l5_6_1 (x2 : Int) (x4 : Int) (x5 : Int) (x6 : Int) (x7 : Int) (x9 : Int) (x10 : Int) (x11 : Int) (x12 : Int) (all_0 : Int → Int) (r_0 : Int) (texts_0 : Int) (gx : Int) (k2 : 0 ≤ x2 ∧ x2 ≤ 99995604) (k4 : 5 ≤ x4 ∧ x4 ≤ 7) (k5 : 0 ≤ x5 ∧ x5 ≤ 23) (k6 : 1 ≤ x6 ∧ x6 ≤ 24) (k7 : 5 ≤ x7 ∧ x7 ≤ 7) (k9 : 0 ≤ x9 ∧ x9 ≤ 99999995) (k10 : 0 ≤ x10 ∧ x10 ≤ 99999992) (k11 : 2 ≤ x11 ∧ x11 ≤ 99) (k12 : 1 ≤ x12 ∧ x12 ≤ 1) (d0 : x4 + 0 ≤ x7 ∧ x7 ≤ x4 + 0) (d1 : x6 + (-4294967296) ≤ x5 ∧ x5 ≤ x6 + (-1)) (f0 : x12 < x11) (f1 : x11 = all_0 (((r_0 + 219) + x5))) (f2 : 1 * x10 + ((-1) * x2 + ((-36) * x5 + 0)) ≤ 5) (f3 : 1 * x9 + ((-1) * x2 + ((-36) * x5 + 0)) ≤ 0) (f4 : x7 = all_0 (((r_0 + 243) + x5))) (f5 : 1 * x6 + ((-1) * all_0 (r_0 + 0) + 0) ≤ 0) (f6 : (-1) * x6 + (1 * all_0 (r_0 + 0) + 0) ≤ 0) (f8 : 1 * texts_0 + ((-1) * x10 + 0) ≤ 8) (f10 : 1 * x10 + ((-1) * x2 + ((-36) * x5 + 0)) ≤ 5) (f11 : 1 * x9 + ((-1) * x2 + ((-36) * x5 + 0)) ≤ 0) (f13 : 1 * x9 + ((-1) * x2 + ((-36) * x5 + 0)) ≤ 0) (f14 : x7 = x4) (f15 : x5 < x6) (kz_0_170 : 0 ≤ texts_0 ∧ texts_0 ≤ 100000000) (ex2 : gx = texts_0) (ex3 : 0 ≤ gx ∧ gx ≤ 99999993) : 1 * gx + ((-1) * x2 + ((-36) * x5 + 0)) ≤ 13 := by
  first | assumption | omega | grind
def o_Mo_writeGroup_at_l5_6 : or_T := (47, 14, [(0, (2, 0, 0, [165])), (2, (0, 0, 99995604, [])), (3, (2, 0, 0, [165])), (4, (0, 5, 7, [])), (5, (0, 0, 23, [])), (6, (0, 1, 24, [])), (7, (0, 5, 7, [])), (9, (0, 0, 99999995, [])), (10, (0, 0, 99999992, [])), (11, (0, 2, 99, [])), (12, (0, 1, 1, []))], [(7, [11, 12], [4]), (20, [11, 3, 5], [50, 1, 1, 1005, 1002, 1, 2, 1, 0, 3, 1, 2, 4, 7, 4, 3, 2, 1, 5, 0, 219, 1, 2]), (23, [10, 2, 5], [5, 1, -1, -36]), (23, [9, 2, 5], [0, 1, -1, -36]), (20, [7, 3, 5], [50, 1, 1, 1005, 1002, 1, 2, 1, 0, 3, 1, 2, 4, 7, 4, 3, 2, 1, 5, 0, 243, 1, 2]), (20, [6, 3], [30, 0, 1, 0, 0, -1, 3, 2005000]), (20, [6, 3], [30, 0, -1, 0, 0, 1, 3, 2005000]), (24, [0, 3], []), (20, [3, 10], [30, 8, 1, 1, 170, -1, 0, 0]), (102, [10], [7770675568902916283677847627294075626569627356208558085007249638955617140820833992704, 165170]), (23, [10, 2, 5], [5, 1, -1, -36]), (23, [9, 2, 5], [0, 1, -1, -36]), (102, [9], [7770675568902916283677847627294075626569627356208558085007249638955617140820833992704, 165170]), (23, [9, 2, 5], [0, 1, -1, -36]), (7, [7, 4], [0]), (7, [5, 6], [2])], [], [(0, 0, 99999993, [])], [(20, [3, 14], [30, 0, 1, 1, 170, -1, 0, 0]), (23, [14, 2, 5], [13, 1, -1, -36])], [], [(7, 4, 0, 0), (5, 6, -4294967296, -1)])
theorem oo_Mo_writeGroup_at_l5_6 {kA : Nat → ClassId} : or_ok PRD kA GG o_Mo_writeGroup_at_l5_6 := by
  refine or_mk fun A ta ws vs hD hth hl => ?_
  intro t0 r0 t2 k2 t3 r3 t4 k4 t5 k5 t6 k6 t7 k7 t9 k9 t10 k10 t11 k11 t12 k12 d0 d1 f0 f1 f2 f3 f4 f5 f6 f7 f8 ta1 w1 le1 s1 f10 f11 ta2 w2 le2 s2 f13 f14 f15
  replace f0 := shm_21 f0
  replace f1 := shm_718 f1
  replace f2 := shm_1909 f2
  replace f3 := shm_1908 f3
  replace f4 := shm_585 f4
  replace f5 := shm_135 f5
  replace f6 := shm_136 f6
  replace f7 := shm_5 f7
  replace f8 := shm_172 f8
  replace f10 := shm_1909 f10
  replace f11 := shm_1908 f11
  replace f13 := shm_1908 f13
  replace f14 := shm_37 f14
  replace f15 := shm_6 f15
  have q3 : n_v vs 3 = n_v vs 0 := f7.symm
  simp only [q3] at f1 f4 f5 f6 f8
  have cr_0_2 := fdq_12 hD hth r0
  have br_0_2_F5_0_0 : w_ei ws (w_ar ws (n_v vs 0) 2) (w_fi ws (n_v vs 0) 5 + 0) = w_el ws (w_ar ws (n_v vs 0) 2) (w_fi ws (n_v vs 0) 5 + 0).toNat := rfl
  have kz_0_170 := fdq_13 hD hth r0
  have kv0 := fdq_13 hD hth r0
  obtain ⟨x, ex, hx⟩ := iv_ex (ta := ta) (lo := 0) (hi := 99999993) (z := w_fi ws (n_v vs 0) 170) (by omega) (by omega) (by omega) (by omega)
  have ex2 : v_iv (Value.int x) = w_fi ws (n_v vs 0) 170 := ex
  have ex3 : 0 ≤ v_iv (Value.int x) ∧ v_iv (Value.int x) ≤ 99999993 := tv_rng hx
  have e_2 : n_v (vs ++ [Value.int x]) 2 = n_v vs 2 := n_v_old (by rw [hl]; decide)
  have e_3 : n_v (vs ++ [Value.int x]) 3 = n_v vs 3 := n_v_old (by rw [hl]; decide)
  have e_5 : n_v (vs ++ [Value.int x]) 5 = n_v vs 5 := n_v_old (by rw [hl]; decide)
  have e_14 : n_v (vs ++ [Value.int x]) 14 = Value.int x := n_v_new hl
  have nf0 : fc_1 PRD (20, [3, 14], [30, 0, 1, 1, 170, -1, 0, 0]) ws (vs ++ [Value.int x]) := by
    refine ⟨nf_inA hl rfl, sgq_140 ?_⟩
    · show 1 * w_fi ws (n_v (vs ++ [Value.int x]) 3) 170 + ((-1) * v_iv (n_v (vs ++ [Value.int x]) 14) + 0) ≤ 0
      simp only [e_3, e_14, q3]
      exact vc_Mo_writeGroup_at_l5_6_0 (v_iv (n_v vs 2)) (v_iv (n_v vs 4)) (v_iv (n_v vs 5)) (v_iv (n_v vs 6)) (v_iv (n_v vs 7)) (v_iv (n_v vs 9)) (v_iv (n_v vs 10)) (v_iv (n_v vs 11)) (v_iv (n_v vs 12)) (w_ei ws (w_ar ws (n_v vs 0) 2)) (w_fi ws (n_v vs 0) 5) (w_fi ws (n_v vs 0) 170) (v_iv (Value.int x)) k2 k4 k5 k6 k7 k9 k10 k11 k12 d0 d1 f0 f1 f2 f3 f4 f5 f6 f8 f10 f11 f13 f14 f15 kz_0_170 ex2 ex3
  have nf1 : fc_1 PRD (23, [14, 2, 5], [13, 1, -1, -36]) ws (vs ++ [Value.int x]) := by
    refine ⟨nf_inA hl rfl, sgq_1911 ?_⟩
    · show 1 * v_iv (n_v (vs ++ [Value.int x]) 14) + ((-1) * v_iv (n_v (vs ++ [Value.int x]) 2) + ((-36) * v_iv (n_v (vs ++ [Value.int x]) 5) + 0)) ≤ 13
      simp only [e_2, e_5, e_14]
      exact vc_Mo_writeGroup_at_l5_6_1 (v_iv (n_v vs 2)) (v_iv (n_v vs 4)) (v_iv (n_v vs 5)) (v_iv (n_v vs 6)) (v_iv (n_v vs 7)) (v_iv (n_v vs 9)) (v_iv (n_v vs 10)) (v_iv (n_v vs 11)) (v_iv (n_v vs 12)) (w_ei ws (w_ar ws (n_v vs 0) 2)) (w_fi ws (n_v vs 0) 5) (w_fi ws (n_v vs 0) 170) (v_iv (Value.int x)) k2 k4 k5 k6 k7 k9 k10 k11 k12 d0 d1 f0 f1 f2 f3 f4 f5 f6 f8 f10 f11 f13 f14 f15 kz_0_170 ex2 ex3
  exact ⟨(fun _ h => (by cases h)), [Value.int x], ag_one hx, List.forall_mem_cons.mpr ⟨⟨show (20 : Nat) < 100 from by decide, nf0⟩, List.forall_mem_cons.mpr ⟨⟨show (23 : Nat) < 100 from by decide, nf1⟩, (fun _ h => (by cases h))⟩⟩, (fun _ h => (by cases h))⟩
set_option maxHeartbeats 4000000 in
theorem vc_Mo_writeGroup_at_l5_7_0 (x2 : Int) (x4 : Int) (x5 : Int) (x6 : Int) (x7 : Int) (x9 : Int) (x10 : Int) (x11 : Int) (x12 : Int) (x14 : Int) (x15 : Int) (all_0 : Int → Int) (r_0 : Int) (texts_0 : Int) (gx : Int) (k2 : 0 ≤ x2 ∧ x2 ≤ 99995604) (k4 : 5 ≤ x4 ∧ x4 ≤ 7) (k5 : 0 ≤ x5 ∧ x5 ≤ 23) (k6 : 1 ≤ x6 ∧ x6 ≤ 24) (k7 : 5 ≤ x7 ∧ x7 ≤ 7) (k9 : 0 ≤ x9 ∧ x9 ≤ 99999995) (k10 : 0 ≤ x10 ∧ x10 ≤ 99999992) (k11 : 2 ≤ x11 ∧ x11 ≤ 99) (k12 : 1 ≤ x12 ∧ x12 ≤ 1) (k14 : 0 ≤ x14 ∧ x14 ≤ 99999993) (k15 : 0 ≤ x15 ∧ x15 ≤ 99) (d0 : x4 + 0 ≤ x7 ∧ x7 ≤ x4 + 0) (d1 : x6 + (-4294967296) ≤ x5 ∧ x5 ≤ x6 + (-1)) (f0 : x15 = all_0 (((r_0 + 219) + x5))) (f1 : 1 * x14 + ((-1) * x2 + ((-36) * x5 + 0)) ≤ 13) (f2 : x11 = all_0 (((r_0 + 219) + x5))) (f3 : 1 * x10 + ((-1) * x2 + ((-36) * x5 + 0)) ≤ 5) (f4 : 1 * x9 + ((-1) * x2 + ((-36) * x5 + 0)) ≤ 0) (f5 : x7 = all_0 (((r_0 + 243) + x5))) (f6 : 1 * x6 + ((-1) * all_0 (r_0 + 0) + 0) ≤ 0) (f7 : (-1) * x6 + (1 * all_0 (r_0 + 0) + 0) ≤ 0) (f9 : 1 * texts_0 + ((-1) * x14 + 0) ≤ 7) (f11 : 1 * x14 + ((-1) * x2 + ((-36) * x5 + 0)) ≤ 13) (f12 : x12 < x11) (f13 : 1 * x10 + ((-1) * x2 + ((-36) * x5 + 0)) ≤ 5) (f14 : 1 * x9 + ((-1) * x2 + ((-36) * x5 + 0)) ≤ 0) (f16 : 1 * x10 + ((-1) * x2 + ((-36) * x5 + 0)) ≤ 5) (f17 : 1 * x9 + ((-1) * x2 + ((-36) * x5 + 0)) ≤ 0) (f19 : 1 * x9 + ((-1) * x2 + ((-36) * x5 + 0)) ≤ 0) (f20 : x7 = x4) (f21 : x5 < x6) (kz_0_170 : 0 ≤ texts_0 ∧ texts_0 ≤ 100000000) (ex2 : gx = texts_0) (ex3 : 0 ≤ gx ∧ gx ≤ 99999987) : 1 * texts_0 + ((-1) * gx + 0) ≤ 0 := by
  first | assumption | omega | grind
set_option maxHeartbeats 4000000 in
theorem vc_Mo_writeGroup_at_l5_7_1 (x2 : Int) (x4 : Int) (x5 : Int) (x6 : Int) (x7 : Int) (x9 : Int) (x10 : Int) (x11 : Int) (x12 : Int) (x14 : Int) (x15 : Int) (all_0 : Int → Int) (r_0 : Int) (texts_0 : Int) (gx : Int) (k2 : 0 ≤ x2 ∧ x2 ≤ 99995604) (k4 : 5 ≤ x4 ∧ x4 ≤ 7) (k5 : 0 ≤ x5 ∧ x5 ≤ 23) (k6 : 1 ≤ x6 ∧ x6 ≤ 24) (k7 : 5 ≤ x7 ∧ x7 ≤ 7) (k9 : 0 ≤ x9 ∧ x9 ≤ 99999995) (k10 : 0 ≤ x10 ∧ x10 ≤ 99999992) (k11 : 2 ≤ x11 ∧ x11 ≤ 99) (k12 : 1 ≤ x12 ∧ x12 ≤ 1) (k14 : 0 ≤ x14 ∧ x14 ≤ 99999993) (k15 : 0 ≤ x15 ∧ x15 ≤ 99) (d0 : x4 + 0 ≤ x7 ∧ x7 ≤ x4 + 0) (d1 : x6 + (-4294967296) ≤ x5 ∧ x5 ≤ x6 + (-1)) (f0 : x15 = all_0 (((r_0 + 219) + x5))) (f1 : 1 * x14 + ((-1) * x2 + ((-36) * x5 + 0)) ≤ 13) (f2 : x11 = all_0 (((r_0 + 219) + x5))) (f3 : 1 * x10 + ((-1) * x2 + ((-36) * x5 + 0)) ≤ 5) (f4 : 1 * x9 + ((-1) * x2 + ((-36) * x5 + 0)) ≤ 0) (f5 : x7 = all_0 (((r_0 + 243) + x5))) (f6 : 1 * x6 + ((-1) * all_0 (r_0 + 0) + 0) ≤ 0) (f7 : (-1) * x6 + (1 * all_0 (r_0 + 0) + 0) ≤ 0) (f9 : 1 * texts_0 + ((-1) * x14 + 0) ≤ 7) (f11 : 1 * x14 + ((-1) * x2 + ((-36) * x5 + 0)) ≤ 13) (f12 : x12 < x11) (f13 : 1 * x10 + ((-1) * x2 + ((-36) * x5 + 0)) ≤ 5) (f14 : 1 * x9 + ((-1) * x2 + ((-36) * x5 + 0)) ≤ 0) (f16 : 1 * x10 + ((-1) * x2 + ((-36) * x5 + 0)) ≤ 5) (f17 : 1 * x9 + ((-1) * x2 + ((-36) * x5 + 0)) ≤ 0) (f19 : 1 * x9 + ((-1) * x2 + ((-36) * x5 + 0)) ≤ 0) (f20 : x7 = x4) (f21 : x5 < x6) (kz_0_170 : 0 ≤ texts_0 ∧ texts_0 ≤ 100000000) (ex2 : gx = texts_0) (ex3 : 0 ≤ gx ∧ gx ≤ 99999987) : 1 * gx + ((-1) * x2 + ((-36) * x5 + 0)) ≤ 20 := by
  first | assumption | omega | grind
def o_Mo_writeGroup_at_l5_7 : or_T := (56, 16, [(0, (2, 0, 0, [165])), (2, (0, 0, 99995604, [])), (3, (2, 0, 0, [165])), (4, (0, 5, 7, [])), (5, (0, 0, 23, [])), (6, (0, 1, 24, [])), (7, (0, 5, 7, [])), (9, (0, 0, 99999995, [])), (10, (0, 0, 99999992, [])), (11, (0, 2, 99, [])), (12, (0, 1, 1, [])), (14, (0, 0, 99999993, [])), (15, (0, 0, 99, []))], [(20, [15, 3, 5], [50, 1, 1, 1005, 1002, 1, 2, 1, 0, 3, 1, 2, 4, 7, 4, 3, 2, 1, 5, 0, 219, 1, 2]), (23, [14, 2, 5], [13, 1, -1, -36]), (20, [11, 3, 5], [50, 1, 1, 1005, 1002, 1, 2, 1, 0, 3, 1, 2, 4, 7, 4, 3, 2, 1, 5, 0, 219, 1, 2]), (23, [10, 2, 5], [5, 1, -1, -36]), (23, [9, 2, 5], [0, 1, -1, -36]), (20, [7, 3, 5], [50, 1, 1, 1005, 1002, 1, 2, 1, 0, 3, 1, 2, 4, 7, 4, 3, 2, 1, 5, 0, 243, 1, 2]), (20, [6, 3], [30, 0, 1, 0, 0, -1, 3, 2005000]), (20, [6, 3], [30, 0, -1, 0, 0, 1, 3, 2005000]), (24, [0, 3], []), (20, [3, 14], [30, 7, 1, 1, 170, -1, 0, 0]), (102, [14], [7770675568902916283677847627294075626569627356208558085007249638955617140820833992704, 165170]), (23, [14, 2, 5], [13, 1, -1, -36]), (7, [11, 12], [4]), (23, [10, 2, 5], [5, 1, -1, -36]), (23, [9, 2, 5], [0, 1, -1, -36]), (102, [10], [7770675568902916283677847627294075626569627356208558085007249638955617140820833992704, 165170]), (23, [10, 2, 5], [5, 1, -1, -36]), (23, [9, 2, 5], [0, 1, -1, -36]), (102, [9], [7770675568902916283677847627294075626569627356208558085007249638955617140820833992704, 165170]), (23, [9, 2, 5], [0, 1, -1, -36]), (7, [7, 4], [0]), (7, [5, 6], [2])], [], [(0, 0, 99999987, [])], [(20, [3, 16], [30, 0, 1, 1, 170, -1, 0, 0]), (23, [16, 2, 5], [20, 1, -1, -36])], [], [(7, 4, 0, 0), (5, 6, -4294967296, -1)])
theorem oo_Mo_writeGroup_at_l5_7 {kA : Nat → ClassId} : or_ok PRD kA GG o_Mo_writeGroup_at_l5_7 := by
  refine or_mk fun A ta ws vs hD hth hl => ?_
  intro t0 r0 t2 k2 t3 r3 t4 k4 t5 k5 t6 k6 t7 k7 t9 k9 t10 k10 t11 k11 t12 k12 t14 k14 t15 k15 d0 d1 f0 f1 f2 f3 f4 f5 f6 f7 f8 f9 ta1 w1 le1 s1 f11 f12 f13 f14 ta2 w2 le2 s2 f16 f17 ta3 w3 le3 s3 f19 f20 f21
  replace f0 := shm_718 f0
  replace f1 := shm_1911 f1
  replace f2 := shm_718 f2
  replace f3 := shm_1909 f3
  replace f4 := shm_1908 f4
  replace f5 := shm_585 f5
  replace f6 := shm_135 f6
  replace f7 := shm_136 f7
  replace f8 := shm_5 f8
  replace f9 := shm_233 f9
  replace f11 := shm_1911 f11
  replace f12 := shm_21 f12
  replace f13 := shm_1909 f13
  replace f14 := shm_1908 f14
  replace f16 := shm_1909 f16
  replace f17 := shm_1908 f17
  replace f19 := shm_1908 f19
  replace f20 := shm_37 f20
  replace f21 := shm_6 f21
  have q3 : n_v vs 3 = n_v vs 0 := f8.symm
  simp only [q3] at f0 f2 f5 f6 f7 f9
  have cr_0_2 := fdq_12 hD hth r0
  have br_0_2_F5_0_0 : w_ei ws (w_ar ws (n_v vs 0) 2) (w_fi ws (n_v vs 0) 5 + 0) = w_el ws (w_ar ws (n_v vs 0) 2) (w_fi ws (n_v vs 0) 5 + 0).toNat := rfl
  have kz_0_170 := fdq_13 hD hth r0
  have kv0 := fdq_13 hD hth r0
  obtain ⟨x, ex, hx⟩ := iv_ex (ta := ta) (lo := 0) (hi := 99999987) (z := w_fi ws (n_v vs 0) 170) (by omega) (by omega) (by omega) (by omega)
  have ex2 : v_iv (Value.int x) = w_fi ws (n_v vs 0) 170 := ex
  have ex3 : 0 ≤ v_iv (Value.int x) ∧ v_iv (Value.int x) ≤ 99999987 := tv_rng hx
  have e_2 : n_v (vs ++ [Value.int x]) 2 = n_v vs 2 := n_v_old (by rw [hl]; decide)
  have e_3 : n_v (vs ++ [Value.int x]) 3 = n_v vs 3 := n_v_old (by rw [hl]; decide)
  have e_5 : n_v (vs ++ [Value.int x]) 5 = n_v vs 5 := n_v_old (by rw [hl]; decide)
  have e_16 : n_v (vs ++ [Value.int x]) 16 = Value.int x := n_v_new hl
  have nf0 : fc_1 PRD (20, [3, 16], [30, 0, 1, 1, 170, -1, 0, 0]) ws (vs ++ [Value.int x]) := by
    refine ⟨nf_inA hl rfl, sgq_140 ?_⟩
    · show 1 * w_fi ws (n_v (vs ++ [Value.int x]) 3) 170 + ((-1) * v_iv (n_v (vs ++ [Value.int x]) 16) + 0) ≤ 0
      simp only [e_3, e_16, q3]
      exact vc_Mo_writeGroup_at_l5_7_0 (v_iv (n_v vs 2)) (v_iv (n_v vs 4)) (v_iv (n_v vs 5)) (v_iv (n_v vs 6)) (v_iv (n_v vs 7)) (v_iv (n_v vs 9)) (v_iv (n_v vs 10)) (v_iv (n_v vs 11)) (v_iv (n_v vs 12)) (v_iv (n_v vs 14)) (v_iv (n_v vs 15)) (w_ei ws (w_ar ws (n_v vs 0) 2)) (w_fi ws (n_v vs 0) 5) (w_fi ws (n_v vs 0) 170) (v_iv (Value.int x)) k2 k4 k5 k6 k7 k9 k10 k11 k12 k14 k15 d0 d1 f0 f1 f2 f3 f4 f5 f6 f7 f9 f11 f12 f13 f14 f16 f17 f19 f20 f21 kz_0_170 ex2 ex3
  have nf1 : fc_1 PRD (23, [16, 2, 5], [20, 1, -1, -36]) ws (vs ++ [Value.int x]) := by
    refine ⟨nf_inA hl rfl, sgq_1912 ?_⟩
    · show 1 * v_iv (n_v (vs ++ [Value.int x]) 16) + ((-1) * v_iv (n_v (vs ++ [Value.int x]) 2) + ((-36) * v_iv (n_v (vs ++ [Value.int x]) 5) + 0)) ≤ 20
      simp only [e_2, e_5, e_16]
      exact vc_Mo_writeGroup_at_l5_7_1 (v_iv (n_v vs 2)) (v_iv (n_v vs 4)) (v_iv (n_v vs 5)) (v_iv (n_v vs 6)) (v_iv (n_v vs 7)) (v_iv (n_v vs 9)) (v_iv (n_v vs 10)) (v_iv (n_v vs 11)) (v_iv (n_v vs 12)) (v_iv (n_v vs 14)) (v_iv (n_v vs 15)) (w_ei ws (w_ar ws (n_v vs 0) 2)) (w_fi ws (n_v vs 0) 5) (w_fi ws (n_v vs 0) 170) (v_iv (Value.int x)) k2 k4 k5 k6 k7 k9 k10 k11 k12 k14 k15 d0 d1 f0 f1 f2 f3 f4 f5 f6 f7 f9 f11 f12 f13 f14 f16 f17 f19 f20 f21 kz_0_170 ex2 ex3
  exact ⟨(fun _ h => (by cases h)), [Value.int x], ag_one hx, List.forall_mem_cons.mpr ⟨⟨show (20 : Nat) < 100 from by decide, nf0⟩, List.forall_mem_cons.mpr ⟨⟨show (23 : Nat) < 100 from by decide, nf1⟩, (fun _ h => (by cases h))⟩⟩, (fun _ h => (by cases h))⟩
set_option maxHeartbeats 4000000 in
theorem vc_Mo_writeGroup_at_l5_8_0 (x2 : Int) (x4 : Int) (x5 : Int) (x6 : Int) (x7 : Int) (x9 : Int) (x10 : Int) (x11 : Int) (x12 : Int) (x14 : Int) (x15 : Int) (x16 : Int) (all_0 : Int → Int) (r_0 : Int) (texts_0 : Int) (gx : Int) (k2 : 0 ≤ x2 ∧ x2 ≤ 99995604) (k4 : 5 ≤ x4 ∧ x4 ≤ 7) (k5 : 0 ≤ x5 ∧ x5 ≤ 23) (k6 : 1 ≤ x6 ∧ x6 ≤ 24) (k7 : 5 ≤ x7 ∧ x7 ≤ 7) (k9 : 0 ≤ x9 ∧ x9 ≤ 99999995) (k10 : 0 ≤ x10 ∧ x10 ≤ 99999992) (k11 : 2 ≤ x11 ∧ x11 ≤ 99) (k12 : 1 ≤ x12 ∧ x12 ≤ 1) (k14 : 0 ≤ x14 ∧ x14 ≤ 99999993) (k15 : 0 ≤ x15 ∧ x15 ≤ 99) (k16 : 0 ≤ x16 ∧ x16 ≤ 99999987) (d0 : x4 + 0 ≤ x7 ∧ x7 ≤ x4 + 0) (d1 : x6 + (-4294967296) ≤ x5 ∧ x5 ≤ x6 + (-1)) (f0 : 1 * x16 + ((-1) * x2 + ((-36) * x5 + 0)) ≤ 20) (f1 : x15 = all_0 (((r_0 + 219) + x5))) (f2 : 1 * x14 + ((-1) * x2 + ((-36) * x5 + 0)) ≤ 13) (f3 : x11 = all_0 (((r_0 + 219) + x5))) (f4 : 1 * x10 + ((-1) * x2 + ((-36) * x5 + 0)) ≤ 5) (f5 : 1 * x9 + ((-1) * x2 + ((-36) * x5 + 0)) ≤ 0) (f6 : x7 = all_0 (((r_0 + 243) + x5))) (f7 : 1 * x6 + ((-1) * all_0 (r_0 + 0) + 0) ≤ 0) (f8 : (-1) * x6 + (1 * all_0 (r_0 + 0) + 0) ≤ 0) (f10 : 1 * texts_0 + ((-1) * x16 + 0) ≤ 13) (f12 : 1 * x16 + ((-1) * x2 + ((-36) * x5 + 0)) ≤ 20) (f13 : 1 * x14 + ((-1) * x2 + ((-36) * x5 + 0)) ≤ 13) (f14 : 1 * x10 + ((-1) * x2 + ((-36) * x5 + 0)) ≤ 5) (f15 : 1 * x9 + ((-1) * x2 + ((-36) * x5 + 0)) ≤ 0) (f17 : 1 * x14 + ((-1) * x2 + ((-36) * x5 + 0)) ≤ 13) (f18 : x12 < x11) (f19 : 1 * x10 + ((-1) * x2 + ((-36) * x5 + 0)) ≤ 5) (f20 : 1 * x9 + ((-1) * x2 + ((-36) * x5 + 0)) ≤ 0) (f22 : 1 * x10 + ((-1) * x2 + ((-36) * x5 + 0)) ≤ 5) (f23 : 1 * x9 + ((-1) * x2 + ((-36) * x5 + 0)) ≤ 0) (f25 : 1 * x9 + ((-1) * x2 + ((-36) * x5 + 0)) ≤ 0) (f26 : x7 = x4) (f27 : x5 < x6) (kz_0_170 : 0 ≤ texts_0 ∧ texts_0 ≤ 100000000) (ex2 : gx = texts_0) (ex3 : 0 ≤ gx ∧ gx ≤ 99999999) : 1 * texts_0 + ((-1) * gx + 0) ≤ 0 := by
  first | assumption | omega | grind
set_option maxHeartbeats 4000000 in
theorem vc_Mo_writeGroup_at_l5_8_1 (x2 : Int) (x4 : Int) (x5 : Int) (x6 : Int) (x7 : Int) (x9 : Int) (x10 : Int) (x11 : Int) (x12 : Int) (x14 : Int) (x15 : Int) (x16 : Int) (all_0 : Int → Int) (r_0 : Int) (texts_0 : Int) (gx : Int) (k2 : 0 ≤ x2 ∧ x2 ≤ 99995604) (k4 : 5 ≤ x4 ∧ x4 ≤ 7) (k5 : 0 ≤ x5 ∧ x5 ≤ 23) (k6 : 1 ≤ x6 ∧ x6 ≤ 24) (k7 : 5 ≤ x7 ∧ x7 ≤ 7) (k9 : 0 ≤ x9 ∧ x9 ≤ 99999995) (k10 : 0 ≤ x10 ∧ x10 ≤ 99999992) (k11 : 2 ≤ x11 ∧ x11 ≤ 99) (k12 : 1 ≤ x12 ∧ x12 ≤ 1) (k14 : 0 ≤ x14 ∧ x14 ≤ 99999993) (k15 : 0 ≤ x15 ∧ x15 ≤ 99) (k16 : 0 ≤ x16 ∧ x16 ≤ 99999987) (d0 : x4 + 0 ≤ x7 ∧ x7 ≤ x4 + 0) (d1 : x6 + (-4294967296) ≤ x5 ∧ x5 ≤ x6 + (-1)) (f0 : 1 * x16 + ((-1) * x2 + ((-36) * x5 + 0)) ≤ 20) (f1 : x15 = all_0 (((r_0 + 219) + x5))) (f2 : 1 * x14 + ((-1) * x2 + ((-36) * x5 + 0)) ≤ 13) (f3 : x11 = all_0 (((r_0 + 219) + x5))) (f4 : 1 * x10 + ((-1) * x2 + ((-36) * x5 + 0)) ≤ 5) (f5 : 1 * x9 + ((-1) * x2 + ((-36) * x5 + 0)) ≤ 0) (f6 : x7 = all_0 (((r_0 + 243) + x5))) (f7 : 1 * x6 + ((-1) * all_0 (r_0 + 0) + 0) ≤ 0) (f8 : (-1) * x6 + (1 * all_0 (r_0 + 0) + 0) ≤ 0) (f10 : 1 * texts_0 + ((-1) * x16 + 0) ≤ 13) (f12 : 1 * x16 + ((-1) * x2 + ((-36) * x5 + 0)) ≤ 20) (f13 : 1 * x14 + ((-1) * x2 + ((-36) * x5 + 0)) ≤ 13) (f14 : 1 * x10 + ((-1) * x2 + ((-36) * x5 + 0)) ≤ 5) (f15 : 1 * x9 + ((-1) * x2 + ((-36) * x5 + 0)) ≤ 0) (f17 : 1 * x14 + ((-1) * x2 + ((-36) * x5 + 0)) ≤ 13) (f18 : x12 < x11) (f19 : 1 * x10 + ((-1) * x2 + ((-36) * x5 + 0)) ≤ 5) (f20 : 1 * x9 + ((-1) * x2 + ((-36) * x5 + 0)) ≤ 0) (f22 : 1 * x10 + ((-1) * x2 + ((-36) * x5 + 0)) ≤ 5) (f23 : 1 * x9 + ((-1) * x2 + ((-36) * x5 + 0)) ≤ 0) (f25 : 1 * x9 + ((-1) * x2 + ((-36) * x5 + 0)) ≤ 0) (f26 : x7 = x4) (f27 : x5 < x6) (kz_0_170 : 0 ≤ texts_0 ∧ texts_0 ≤ 100000000) (ex2 : gx = texts_0) (ex3 : 0 ≤ gx ∧ gx ≤ 99999999) : 1 * gx + ((-1) * x2 + ((-36) * x5 + 0)) ≤ 33 := by
  first | assumption | omega | grind
def o_Mo_writeGroup_at_l5_8 : or_T := (63, 18, [(0, (2, 0, 0, [165])), (2, (0, 0, 99995604, [])), (3, (2, 0, 0, [165])), (4, (0, 5, 7, [])), (5, (0, 0, 23, [])), (6, (0, 1, 24, [])), (7, (0, 5, 7, [])), (9, (0, 0, 99999995, [])), (10, (0, 0, 99999992, [])), (11, (0, 2, 99, [])), (12, (0, 1, 1, [])), (14, (0, 0, 99999993, [])), (15, (0, 0, 99, [])), (16, (0, 0, 99999987, []))], [(23, [16, 2, 5], [20, 1, -1, -36]), (20, [15, 3, 5], [50, 1, 1, 1005, 1002, 1, 2, 1, 0, 3, 1, 2, 4, 7, 4, 3, 2, 1, 5, 0, 219, 1, 2]), (23, [14, 2, 5], [13, 1, -1, -36]), (20, [11, 3, 5], [50, 1, 1, 1005, 1002, 1, 2, 1, 0, 3, 1, 2, 4, 7, 4, 3, 2, 1, 5, 0, 219, 1, 2]), (23, [10, 2, 5], [5, 1, -1, -36]), (23, [9, 2, 5], [0, 1, -1, -36]), (20, [7, 3, 5], [50, 1, 1, 1005, 1002, 1, 2, 1, 0, 3, 1, 2, 4, 7, 4, 3, 2, 1, 5, 0, 243, 1, 2]), (20, [6, 3], [30, 0, 1, 0, 0, -1, 3, 2005000]), (20, [6, 3], [30, 0, -1, 0, 0, 1, 3, 2005000]), (24, [0, 3], []), (20, [3, 16], [30, 13, 1, 1, 170, -1, 0, 0]), (102, [16], [7770675568902916283677847627294075626569627356208558085007249638955617140820833992704, 165170]), (23, [16, 2, 5], [20, 1, -1, -36]), (23, [14, 2, 5], [13, 1, -1, -36]), (23, [10, 2, 5], [5, 1, -1, -36]), (23, [9, 2, 5], [0, 1, -1, -36]), (102, [14], [7770675568902916283677847627294075626569627356208558085007249638955617140820833992704, 165170]), (23, [14, 2, 5], [13, 1, -1, -36]), (7, [11, 12], [4]), (23, [10, 2, 5], [5, 1, -1, -36]), (23, [9, 2, 5], [0, 1, -1, -36]), (102, [10], [7770675568902916283677847627294075626569627356208558085007249638955617140820833992704, 165170]), (23, [10, 2, 5], [5, 1, -1, -36]), (23, [9, 2, 5], [0, 1, -1, -36]), (102, [9], [7770675568902916283677847627294075626569627356208558085007249638955617140820833992704, 165170]), (23, [9, 2, 5], [0, 1, -1, -36]), (7, [7, 4], [0]), (7, [5, 6], [2])], [], [(0, 0, 99999999, [])], [(20, [3, 18], [30, 0, 1, 1, 170, -1, 0, 0]), (23, [18, 2, 5], [33, 1, -1, -36])], [], [(7, 4, 0, 0), (5, 6, -4294967296, -1)])
theorem oo_Mo_writeGroup_at_l5_8 {kA : Nat → ClassId} : or_ok PRD kA GG o_Mo_writeGroup_at_l5_8 := by
  refine or_mk fun A ta ws vs hD hth hl => ?_
  intro t0 r0 t2 k2 t3 r3 t4 k4 t5 k5 t6 k6 t7 k7 t9 k9 t10 k10 t11 k11 t12 k12 t14 k14 t15 k15 t16 k16 d0 d1 f0 f1 f2 f3 f4 f5 f6 f7 f8 f9 f10 ta1 w1 le1 s1 f12 f13 f14 f15 ta2 w2 le2 s2 f17 f18 f19 f20 ta3 w3 le3 s3 f22 f23 ta4 w4 le4 s4 f25 f26 f27
  replace f0 := shm_1912 f0
  replace f1 := shm_718 f1
  replace f2 := shm_1911 f2
  replace f3 := shm_718 f3
  replace f4 := shm_1909 f4
  replace f5 := shm_1908 f5
  replace f6 := shm_585 f6
  replace f7 := shm_135 f7
  replace f8 := shm_136 f8
  replace f9 := shm_5 f9
  replace f10 := shm_1026 f10
  replace f12 := shm_1912 f12
  replace f13 := shm_1911 f13
  replace f14 := shm_1909 f14
  replace f15 := shm_1908 f15
  replace f17 := shm_1911 f17
  replace f18 := shm_21 f18
  replace f19 := shm_1909 f19
  replace f20 := shm_1908 f20
  replace f22 := shm_1909 f22
  replace f23 := shm_1908 f23
  replace f25 := shm_1908 f25
  replace f26 := shm_37 f26
  replace f27 := shm_6 f27
  have q3 : n_v vs 3 = n_v vs 0 := f9.symm
  simp only [q3] at f1 f3 f6 f7 f8 f10
  have cr_0_2 := fdq_12 hD hth r0
  have br_0_2_F5_0_0 : w_ei ws (w_ar ws (n_v vs 0) 2) (w_fi ws (n_v vs 0) 5 + 0) = w_el ws (w_ar ws (n_v vs 0) 2) (w_fi ws (n_v vs 0) 5 + 0).toNat := rfl
  have kz_0_170 := fdq_13 hD hth r0
  have kv0 := fdq_13 hD hth r0
  obtain ⟨x, ex, hx⟩ := iv_ex (ta := ta) (lo := 0) (hi := 99999999) (z := w_fi ws (n_v vs 0) 170) (by omega) (by omega) (by omega) (by omega)
  have ex2 : v_iv (Value.int x) = w_fi ws (n_v vs 0) 170 := ex
  have ex3 : 0 ≤ v_iv (Value.int x) ∧ v_iv (Value.int x) ≤ 99999999 := tv_rng hx
  have e_2 : n_v (vs ++ [Value.int x]) 2 = n_v vs 2 := n_v_old (by rw [hl]; decide)
  have e_3 : n_v (vs ++ [Value.int x]) 3 = n_v vs 3 := n_v_old (by rw [hl]; decide)
  have e_5 : n_v (vs ++ [Value.int x]) 5 = n_v vs 5 := n_v_old (by rw [hl]; decide)
  have e_18 : n_v (vs ++ [Value.int x]) 18 = Value.int x := n_v_new hl
  have nf0 : fc_1 PRD (20, [3, 18], [30, 0, 1, 1, 170, -1, 0, 0]) ws (vs ++ [Value.int x]) := by
    refine ⟨nf_inA hl rfl, sgq_140 ?_⟩
    · show 1 * w_fi ws (n_v (vs ++ [Value.int x]) 3) 170 + ((-1) * v_iv (n_v (vs ++ [Value.int x]) 18) + 0) ≤ 0
      simp only [e_3, e_18, q3]
      exact vc_Mo_writeGroup_at_l5_8_0 (v_iv (n_v vs 2)) (v_iv (n_v vs 4)) (v_iv (n_v vs 5)) (v_iv (n_v vs 6)) (v_iv (n_v vs 7)) (v_iv (n_v vs 9)) (v_iv (n_v vs 10)) (v_iv (n_v vs 11)) (v_iv (n_v vs 12)) (v_iv (n_v vs 14)) (v_iv (n_v vs 15)) (v_iv (n_v vs 16)) (w_ei ws (w_ar ws (n_v vs 0) 2)) (w_fi ws (n_v vs 0) 5) (w_fi ws (n_v vs 0) 170) (v_iv (Value.int x)) k2 k4 k5 k6 k7 k9 k10 k11 k12 k14 k15 k16 d0 d1 f0 f1 f2 f3 f4 f5 f6 f7 f8 f10 f12 f13 f14 f15 f17 f18 f19 f20 f22 f23 f25 f26 f27 kz_0_170 ex2 ex3
  have nf1 : fc_1 PRD (23, [18, 2, 5], [33, 1, -1, -36]) ws (vs ++ [Value.int x]) := by
    refine ⟨nf_inA hl rfl, sgq_1913 ?_⟩
    · show 1 * v_iv (n_v (vs ++ [Value.int x]) 18) + ((-1) * v_iv (n_v (vs ++ [Value.int x]) 2) + ((-36) * v_iv (n_v (vs ++ [Value.int x]) 5) + 0)) ≤ 33
      simp only [e_2, e_5, e_18]
      exact vc_Mo_writeGroup_at_l5_8_1 (v_iv (n_v vs 2)) (v_iv (n_v vs 4)) (v_iv (n_v vs 5)) (v_iv (n_v vs 6)) (v_iv (n_v vs 7)) (v_iv (n_v vs 9)) (v_iv (n_v vs 10)) (v_iv (n_v vs 11)) (v_iv (n_v vs 12)) (v_iv (n_v vs 14)) (v_iv (n_v vs 15)) (v_iv (n_v vs 16)) (w_ei ws (w_ar ws (n_v vs 0) 2)) (w_fi ws (n_v vs 0) 5) (w_fi ws (n_v vs 0) 170) (v_iv (Value.int x)) k2 k4 k5 k6 k7 k9 k10 k11 k12 k14 k15 k16 d0 d1 f0 f1 f2 f3 f4 f5 f6 f7 f8 f10 f12 f13 f14 f15 f17 f18 f19 f20 f22 f23 f25 f26 f27 kz_0_170 ex2 ex3
  exact ⟨(fun _ h => (by cases h)), [Value.int x], ag_one hx, List.forall_mem_cons.mpr ⟨⟨show (20 : Nat) < 100 from by decide, nf0⟩, List.forall_mem_cons.mpr ⟨⟨show (23 : Nat) < 100 from by decide, nf1⟩, (fun _ h => (by cases h))⟩⟩, (fun _ h => (by cases h))⟩
set_option maxHeartbeats 4000000 in
theorem vc_Mo_writeGroup_at_l5_9_0 (x2 : Int) (x4 : Int) (x5 : Int) (x6 : Int) (x7 : Int) (x9 : Int) (x10 : Int) (x11 : Int) (x12 : Int) (x14 : Int) (x15 : Int) (x16 : Int) (x18 : Int) (all_0 : Int → Int) (r_0 : Int) (texts_0 : Int) (gx : Int) (k2 : 0 ≤ x2 ∧ x2 ≤ 99995604) (k4 : 5 ≤ x4 ∧ x4 ≤ 7) (k5 : 0 ≤ x5 ∧ x5 ≤ 23) (k6 : 1 ≤ x6 ∧ x6 ≤ 24) (k7 : 5 ≤ x7 ∧ x7 ≤ 7) (k9 : 0 ≤ x9 ∧ x9 ≤ 99999995) (k10 : 0 ≤ x10 ∧ x10 ≤ 99999992) (k11 : 2 ≤ x11 ∧ x11 ≤ 99) (k12 : 1 ≤ x12 ∧ x12 ≤ 1) (k14 : 0 ≤ x14 ∧ x14 ≤ 99999993) (k15 : 0 ≤ x15 ∧ x15 ≤ 99) (k16 : 0 ≤ x16 ∧ x16 ≤ 99999987) (k18 : 0 ≤ x18 ∧ x18 ≤ 99999999) (d0 : x4 + 0 ≤ x7 ∧ x7 ≤ x4 + 0) (d1 : x6 + (-4294967296) ≤ x5 ∧ x5 ≤ x6 + (-1)) (f0 : 1 * x18 + ((-1) * x2 + ((-36) * x5 + 0)) ≤ 33) (f1 : 1 * x16 + ((-1) * x2 + ((-36) * x5 + 0)) ≤ 20) (f2 : x15 = all_0 (((r_0 + 219) + x5))) (f3 : 1 * x14 + ((-1) * x2 + ((-36) * x5 + 0)) ≤ 13) (f4 : x11 = all_0 (((r_0 + 219) + x5))) (f5 : 1 * x10 + ((-1) * x2 + ((-36) * x5 + 0)) ≤ 5) (f6 : 1 * x9 + ((-1) * x2 + ((-36) * x5 + 0)) ≤ 0) (f7 : x7 = all_0 (((r_0 + 243) + x5))) (f8 : 1 * x6 + ((-1) * all_0 (r_0 + 0) + 0) ≤ 0) (f9 : (-1) * x6 + (1 * all_0 (r_0 + 0) + 0) ≤ 0) (f11 : 1 * texts_0 + ((-1) * x18 + 0) ≤ 1) (f13 : 1 * x18 + ((-1) * x2 + ((-36) * x5 + 0)) ≤ 33) (f14 : 1 * x16 + ((-1) * x2 + ((-36) * x5 + 0)) ≤ 20) (f15 : 1 * x14 + ((-1) * x2 + ((-36) * x5 + 0)) ≤ 13) (f16 : 1 * x10 + ((-1) * x2 + ((-36) * x5 + 0)) ≤ 5) (f17 : 1 * x9 + ((-1) * x2 + ((-36) * x5 + 0)) ≤ 0) (f19 : 1 * x16 + ((-1) * x2 + ((-36) * x5 + 0)) ≤ 20) (f20 : 1 * x14 + ((-1) * x2 + ((-36) * x5 + 0)) ≤ 13) (f21 : 1 * x10 + ((-1) * x2 + ((-36) * x5 + 0)) ≤ 5) (f22 : 1 * x9 + ((-1) * x2 + ((-36) * x5 + 0)) ≤ 0) (f24 : 1 * x14 + ((-1) * x2 + ((-36) * x5 + 0)) ≤ 13) (f25 : x12 < x11) (f26 : 1 * x10 + ((-1) * x2 + ((-36) * x5 + 0)) ≤ 5) (f27 : 1 * x9 + ((-1) * x2 + ((-36) * x5 + 0)) ≤ 0) (f29 : 1 * x10 + ((-1) * x2 + ((-36) * x5 + 0)) ≤ 5) (f30 : 1 * x9 + ((-1) * x2 + ((-36) * x5 + 0)) ≤ 0) (f32 : 1 * x9 + ((-1) * x2 + ((-36) * x5 + 0)) ≤ 0) (f33 : x7 = x4) (f34 : x5 < x6) (kz_0_170 : 0 ≤ texts_0 ∧ texts_0 ≤ 100000000) (ex2 : gx = texts_0) (ex3 : 0 ≤ gx ∧ gx ≤ 99999998) : 1 * texts_0 + ((-1) * gx + 0) ≤ 0 := by
  first | assumption | omega | grind
set_option maxHeartbeats 4000000 in
theorem vc_Mo_writeGroup_at_l5_9_1 (x2 : Int) (x4 : Int) (x5 : Int) (x6 : Int) (x7 : Int) (x9 : Int) (x10 : Int) (x11 : Int) (x12 : Int) (x14 : Int) (x15 : Int) (x16 : Int) (x18 : Int) (all_0 : Int → Int) (r_0 : Int) (texts_0 : Int) (gx : Int) (k2 : 0 ≤ x2 ∧ x2 ≤ 99995604) (k4 : 5 ≤ x4 ∧ x4 ≤ 7) (k5 : 0 ≤ x5 ∧ x5 ≤ 23) (k6 : 1 ≤ x6 ∧ x6 ≤ 24) (k7 : 5 ≤ x7 ∧ x7 ≤ 7) (k9 : 0 ≤ x9 ∧ x9 ≤ 99999995) (k10 : 0 ≤ x10 ∧ x10 ≤ 99999992) (k11 : 2 ≤ x11 ∧ x11 ≤ 99) (k12 : 1 ≤ x12 ∧ x12 ≤ 1) (k14 : 0 ≤ x14 ∧ x14 ≤ 99999993) (k15 : 0 ≤ x15 ∧ x15 ≤ 99) (k16 : 0 ≤ x16 ∧ x16 ≤ 99999987) (k18 : 0 ≤ x18 ∧ x18 ≤ 99999999) (d0 : x4 + 0 ≤ x7 ∧ x7 ≤ x4 + 0) (d1 : x6 + (-4294967296) ≤ x5 ∧ x5 ≤ x6 + (-1)) (f0 : 1 * x18 + ((-1) * x2 + ((-36) * x5 + 0)) ≤ 33) (f1 : 1 * x16 + ((-1) * x2 + ((-36) * x5 + 0)) ≤ 20) (f2 : x15 = all_0 (((r_0 + 219) + x5))) (f3 : 1 * x14 + ((-1) * x2 + ((-36) * x5 + 0)) ≤ 13) (f4 : x11 = all_0 (((r_0 + 219) + x5))) (f5 : 1 * x10 + ((-1) * x2 + ((-36) * x5 + 0)) ≤ 5) (f6 : 1 * x9 + ((-1) * x2 + ((-36) * x5 + 0)) ≤ 0) (f7 : x7 = all_0 (((r_0 + 243) + x5))) (f8 : 1 * x6 + ((-1) * all_0 (r_0 + 0) + 0) ≤ 0) (f9 : (-1) * x6 + (1 * all_0 (r_0 + 0) + 0) ≤ 0) (f11 : 1 * texts_0 + ((-1) * x18 + 0) ≤ 1) (f13 : 1 * x18 + ((-1) * x2 + ((-36) * x5 + 0)) ≤ 33) (f14 : 1 * x16 + ((-1) * x2 + ((-36) * x5 + 0)) ≤ 20) (f15 : 1 * x14 + ((-1) * x2 + ((-36) * x5 + 0)) ≤ 13) (f16 : 1 * x10 + ((-1) * x2 + ((-36) * x5 + 0)) ≤ 5) (f17 : 1 * x9 + ((-1) * x2 + ((-36) * x5 + 0)) ≤ 0) (f19 : 1 * x16 + ((-1) * x2 + ((-36) * x5 + 0)) ≤ 20) (f20 : 1 * x14 + ((-1) * x2 + ((-36) * x5 + 0)) ≤ 13) (f21 : 1 * x10 + ((-1) * x2 + ((-36) * x5 + 0)) ≤ 5) (f22 : 1 * x9 + ((-1) * x2 + ((-36) * x5 + 0)) ≤ 0) (f24 : 1 * x14 + ((-1) * x2 + ((-36) * x5 + 0)) ≤ 13) (f25 : x12 < x11) (f26 : 1 * x10 + ((-1) * x2 + ((-36) * x5 + 0)) ≤ 5) (f27 : 1 * x9 + ((-1) * x2 + ((-36) * x5 + 0)) ≤ 0) (f29 : 1 * x10 + ((-1) * x2 + ((-36) * x5 + 0)) ≤ 5) (f30 : 1 * x9 + ((-1) * x2 + ((-36) * x5 + 0)) ≤ 0) (f32 : 1 * x9 + ((-1) * x2 + ((-36) * x5 + 0)) ≤ 0) (f33 : x7 = x4) (f34 : x5 < x6) (kz_0_170 : 0 ≤ texts_0 ∧ texts_0 ≤ 100000000) (ex2 : gx = texts_0) (ex3 : 0 ≤ gx ∧ gx ≤ 99999998) : 1 * gx + ((-1) * x2 + ((-36) * x5 + 0)) ≤ 34 := by
  first | assumption | omega | grind
def o_Mo_writeGroup_at_l5_9 : or_T := (70, 20, [(0, (2, 0, 0, [165])), (2, (0, 0, 99995604, [])), (3, (2, 0, 0, [165])), (4, (0, 5, 7, [])), (5, (0, 0, 23, [])), (6, (0, 1, 24, [])), (7, (0, 5, 7, [])), (9, (0, 0, 99999995, [])), (10, (0, 0, 99999992, [])), (11, (0, 2, 99, [])), (12, (0, 1, 1, [])), (14, (0, 0, 99999993, [])), (15, (0, 0, 99, [])), (16, (0, 0, 99999987, [])), (18, (0, 0, 99999999, []))], [(23, [18, 2, 5], [33, 1, -1, -36]), (23, [16, 2, 5], [20, 1, -1, -36]), (20, [15, 3, 5], [50, 1, 1, 1005, 1002, 1, 2, 1, 0, 3, 1, 2, 4, 7, 4, 3, 2, 1, 5, 0, 219, 1, 2]), (23, [14, 2, 5], [13, 1, -1, -36]), (20, [11, 3, 5], [50, 1, 1, 1005, 1002, 1, 2, 1, 0, 3, 1, 2, 4, 7, 4, 3, 2, 1, 5, 0, 219, 1, 2]), (23, [10, 2, 5], [5, 1, -1, -36]), (23, [9, 2, 5], [0, 1, -1, -36]), (20, [7, 3, 5], [50, 1, 1, 1005, 1002, 1, 2, 1, 0, 3, 1, 2, 4, 7, 4, 3, 2, 1, 5, 0, 243, 1, 2]), (20, [6, 3], [30, 0, 1, 0, 0, -1, 3, 2005000]), (20, [6, 3], [30, 0, -1, 0, 0, 1, 3, 2005000]), (24, [0, 3], []), (20, [3, 18], [30, 1, 1, 1, 170, -1, 0, 0]), (102, [18], [7770675568902916283677847627294075626569627356208558085007249638955617140820833992704, 165170]), (23, [18, 2, 5], [33, 1, -1, -36]), (23, [16, 2, 5], [20, 1, -1, -36]), (23, [14, 2, 5], [13, 1, -1, -36]), (23, [10, 2, 5], [5, 1, -1, -36]), (23, [9, 2, 5], [0, 1, -1, -36]), (102, [16], [7770675568902916283677847627294075626569627356208558085007249638955617140820833992704, 165170]), (23, [16, 2, 5], [20, 1, -1, -36]), (23, [14, 2, 5], [13, 1, -1, -36]), (23, [10, 2, 5], [5, 1, -1, -36]), (23, [9, 2, 5], [0, 1, -1, -36]), (102, [14], [7770675568902916283677847627294075626569627356208558085007249638955617140820833992704, 165170]), (23, [14, 2, 5], [13, 1, -1, -36]), (7, [11, 12], [4]), (23, [10, 2, 5], [5, 1, -1, -36]), (23, [9, 2, 5], [0, 1, -1, -36]), (102, [10], [7770675568902916283677847627294075626569627356208558085007249638955617140820833992704, 165170]), (23, [10, 2, 5], [5, 1, -1, -36]), (23, [9, 2, 5], [0, 1, -1, -36]), (102, [9], [7770675568902916283677847627294075626569627356208558085007249638955617140820833992704, 165170]), (23, [9, 2, 5], [0, 1, -1, -36]), (7, [7, 4], [0]), (7, [5, 6], [2])], [], [(0, 0, 99999998, [])], [(20, [3, 20], [30, 0, 1, 1, 170, -1, 0, 0]), (23, [20, 2, 5], [34, 1, -1, -36])], [], [(7, 4, 0, 0), (5, 6, -4294967296, -1)])
theorem oo_Mo_writeGroup_at_l5_9 {kA : Nat → ClassId} : or_ok PRD kA GG o_Mo_writeGroup_at_l5_9 := by
  refine or_mk fun A ta ws vs hD hth hl => ?_
  intro t0 r0 t2 k2 t3 r3 t4 k4 t5 k5 t6 k6 t7 k7 t9 k9 t10 k10 t11 k11 t12 k12 t14 k14 t15 k15 t16 k16 t18 k18 d0 d1 f0 f1 f2 f3 f4 f5 f6 f7 f8 f9 f10 f11 ta1 w1 le1 s1 f13 f14 f15 f16 f17 ta2 w2 le2 s2 f19 f20 f21 f22 ta3 w3 le3 s3 f24 f25 f26 f27 ta4 w4 le4 s4 f29 f30 ta5 w5 le5 s5 f32 f33 f34
  replace f0 := shm_1913 f0
  replace f1 := shm_1912 f1
  replace f2 := shm_718 f2
  replace f3 := shm_1911 f3
  replace f4 := shm_718 f4
  replace f5 := shm_1909 f5
  replace f6 := shm_1908 f6
  replace f7 := shm_585 f7
  replace f8 := shm_135 f8
  replace f9 := shm_136 f9
  replace f10 := shm_5 f10
  replace f11 := shm_141 f11
  replace f13 := shm_1913 f13
  replace f14 := shm_1912 f14
  replace f15 := shm_1911 f15
  replace f16 := shm_1909 f16
  replace f17 := shm_1908 f17
  replace f19 := shm_1912 f19
  replace f20 := shm_1911 f20
  replace f21 := shm_1909 f21
  replace f22 := shm_1908 f22
  replace f24 := shm_1911 f24
  replace f25 := shm_21 f25
  replace f26 := shm_1909 f26
  replace f27 := shm_1908 f27
  replace f29 := shm_1909 f29
  replace f30 := shm_1908 f30
  replace f32 := shm_1908 f32
  replace f33 := shm_37 f33
  replace f34 := shm_6 f34
  have q3 : n_v vs 3 = n_v vs 0 := f10.symm
  simp only [q3] at f2 f4 f7 f8 f9 f11
  have cr_0_2 := fdq_12 hD hth r0
  have br_0_2_F5_0_0 : w_ei ws (w_ar ws (n_v vs 0) 2) (w_fi ws (n_v vs 0) 5 + 0) = w_el ws (w_ar ws (n_v vs 0) 2) (w_fi ws (n_v vs 0) 5 + 0).toNat := rfl
  have kz_0_170 := fdq_13 hD hth r0
  have kv0 := fdq_13 hD hth r0
  obtain ⟨x, ex, hx⟩ := iv_ex (ta := ta) (lo := 0) (hi := 99999998) (z := w_fi ws (n_v vs 0) 170) (by omega) (by omega) (by omega) (by omega)
  have ex2 : v_iv (Value.int x) = w_fi ws (n_v vs 0) 170 := ex
  have ex3 : 0 ≤ v_iv (Value.int x) ∧ v_iv (Value.int x) ≤ 99999998 := tv_rng hx
  have e_2 : n_v (vs ++ [Value.int x]) 2 = n_v vs 2 := n_v_old (by rw [hl]; decide)
  have e_3 : n_v (vs ++ [Value.int x]) 3 = n_v vs 3 := n_v_old (by rw [hl]; decide)
  have e_5 : n_v (vs ++ [Value.int x]) 5 = n_v vs 5 := n_v_old (by rw [hl]; decide)
  have e_20 : n_v (vs ++ [Value.int x]) 20 = Value.int x := n_v_new hl
  have nf0 : fc_1 PRD (20, [3, 20], [30, 0, 1, 1, 170, -1, 0, 0]) ws (vs ++ [Value.int x]) := by
    refine ⟨nf_inA hl rfl, sgq_140 ?_⟩
    · show 1 * w_fi ws (n_v (vs ++ [Value.int x]) 3) 170 + ((-1) * v_iv (n_v (vs ++ [Value.int x]) 20) + 0) ≤ 0
      simp only [e_3, e_20, q3]
      exact vc_Mo_writeGroup_at_l5_9_0 (v_iv (n_v vs 2)) (v_iv (n_v vs 4)) (v_iv (n_v vs 5)) (v_iv (n_v vs 6)) (v_iv (n_v vs 7)) (v_iv (n_v vs 9)) (v_iv (n_v vs 10)) (v_iv (n_v vs 11)) (v_iv (n_v vs 12)) (v_iv (n_v vs 14)) (v_iv (n_v vs 15)) (v_iv (n_v vs 16)) (v_iv (n_v vs 18)) (w_ei ws (w_ar ws (n_v vs 0) 2)) (w_fi ws (n_v vs 0) 5) (w_fi ws (n_v vs 0) 170) (v_iv (Value.int x)) k2 k4 k5 k6 k7 k9 k10 k11 k12 k14 k15 k16 k18 d0 d1 f0 f1 f2 f3 f4 f5 f6 f7 f8 f9 f11 f13 f14 f15 f16 f17 f19 f20 f21 f22 f24 f25 f26 f27 f29 f30 f32 f33 f34 kz_0_170 ex2 ex3
  have nf1 : fc_1 PRD (23, [20, 2, 5], [34, 1, -1, -36]) ws (vs ++ [Value.int x]) := by
    refine ⟨nf_inA hl rfl, sgq_1910 ?_⟩
    · show 1 * v_iv (n_v (vs ++ [Value.int x]) 20) + ((-1) * v_iv (n_v (vs ++ [Value.int x]) 2) + ((-36) * v_iv (n_v (vs ++ [Value.int x]) 5) + 0)) ≤ 34
      simp only [e_2, e_5, e_20]
      exact vc_Mo_writeGroup_at_l5_9_1 (v_iv (n_v vs 2)) (v_iv (n_v vs 4)) (v_iv (n_v vs 5)) (v_iv (n_v vs 6)) (v_iv (n_v vs 7)) (v_iv (n_v vs 9)) (v_iv (n_v vs 10)) (v_iv (n_v vs 11)) (v_iv (n_v vs 12)) (v_iv (n_v vs 14)) (v_iv (n_v vs 15)) (v_iv (n_v vs 16)) (v_iv (n_v vs 18)) (w_ei ws (w_ar ws (n_v vs 0) 2)) (w_fi ws (n_v vs 0) 5) (w_fi ws (n_v vs 0) 170) (v_iv (Value.int x)) k2 k4 k5 k6 k7 k9 k10 k11 k12 k14 k15 k16 k18 d0 d1 f0 f1 f2 f3 f4 f5 f6 f7 f8 f9 f11 f13 f14 f15 f16 f17 f19 f20 f21 f22 f24 f25 f26 f27 f29 f30 f32 f33 f34 kz_0_170 ex2 ex3
  exact ⟨(fun _ h => (by cases h)), [Value.int x], ag_one hx, List.forall_mem_cons.mpr ⟨⟨show (20 : Nat) < 100 from by decide, nf0⟩, List.forall_mem_cons.mpr ⟨⟨show (23 : Nat) < 100 from by decide, nf1⟩, (fun _ h => (by cases h))⟩⟩, (fun _ h => (by cases h))⟩
set_option maxHeartbeats 4000000 in
theorem vc_Mo_writeGroup_at_l5_10_0 (x2 : Int) (x4 : Int) (x5 : Int) (x6 : Int) (x7 : Int) (x9 : Int) (x10 : Int) (x11 : Int) (x12 : Int) (x14 : Int) (x15 : Int) (x16 : Int) (x18 : Int) (x20 : Int) (x21 : Int) (all_0 : Int → Int) (r_0 : Int) (texts_0 : Int) (k2 : 0 ≤ x2 ∧ x2 ≤ 99995604) (k4 : 5 ≤ x4 ∧ x4 ≤ 7) (k5 : 0 ≤ x5 ∧ x5 ≤ 23) (k6 : 1 ≤ x6 ∧ x6 ≤ 24) (k7 : 5 ≤ x7 ∧ x7 ≤ 7) (k9 : 0 ≤ x9 ∧ x9 ≤ 99999995) (k10 : 0 ≤ x10 ∧ x10 ≤ 99999992) (k11 : 2 ≤ x11 ∧ x11 ≤ 99) (k12 : 1 ≤ x12 ∧ x12 ≤ 1) (k14 : 0 ≤ x14 ∧ x14 ≤ 99999993) (k15 : 0 ≤ x15 ∧ x15 ≤ 99) (k16 : 0 ≤ x16 ∧ x16 ≤ 99999987) (k18 : 0 ≤ x18 ∧ x18 ≤ 99999999) (k20 : 0 ≤ x20 ∧ x20 ≤ 99999998) (k21 : 1 ≤ x21 ∧ x21 ≤ 24) (d0 : x5 + 1 ≤ x21 ∧ x21 ≤ x5 + 1) (d1 : x6 + (-4294967296) ≤ x21 ∧ x21 ≤ x6 + 0) (d2 : x4 + 0 ≤ x7 ∧ x7 ≤ x4 + 0) (d3 : x6 + (-4294967296) ≤ x5 ∧ x5 ≤ x6 + (-1)) (f0 : x21 = x5 + 1) (f1 : 1 * x20 + ((-1) * x2 + ((-36) * x5 + 0)) ≤ 34) (f2 : 1 * x18 + ((-1) * x2 + ((-36) * x5 + 0)) ≤ 33) (f3 : 1 * x16 + ((-1) * x2 + ((-36) * x5 + 0)) ≤ 20) (f4 : x15 = all_0 (((r_0 + 219) + x5))) (f5 : 1 * x14 + ((-1) * x2 + ((-36) * x5 + 0)) ≤ 13) (f6 : x11 = all_0 (((r_0 + 219) + x5))) (f7 : 1 * x10 + ((-1) * x2 + ((-36) * x5 + 0)) ≤ 5) (f8 : 1 * x9 + ((-1) * x2 + ((-36) * x5 + 0)) ≤ 0) (f9 : x7 = all_0 (((r_0 + 243) + x5))) (f10 : 1 * x6 + ((-1) * all_0 (r_0 + 0) + 0) ≤ 0) (f11 : (-1) * x6 + (1 * all_0 (r_0 + 0) + 0) ≤ 0) (f13 : 1 * texts_0 + ((-1) * x20 + 0) ≤ 2) (f15 : 1 * x20 + ((-1) * x2 + ((-36) * x5 + 0)) ≤ 34) (f16 : 1 * x18 + ((-1) * x2 + ((-36) * x5 + 0)) ≤ 33) (f17 : 1 * x16 + ((-1) * x2 + ((-36) * x5 + 0)) ≤ 20) (f18 : 1 * x14 + ((-1) * x2 + ((-36) * x5 + 0)) ≤ 13) (f19 : 1 * x10 + ((-1) * x2 + ((-36) * x5 + 0)) ≤ 5) (f20 : 1 * x9 + ((-1) * x2 + ((-36) * x5 + 0)) ≤ 0) (f22 : 1 * x18 + ((-1) * x2 + ((-36) * x5 + 0)) ≤ 33) (f23 : 1 * x16 + ((-1) * x2 + ((-36) * x5 + 0)) ≤ 20) (f24 : 1 * x14 + ((-1) * x2 + ((-36) * x5 + 0)) ≤ 13) (f25 : 1 * x10 + ((-1) * x2 + ((-36) * x5 + 0)) ≤ 5) (f26 : 1 * x9 + ((-1) * x2 + ((-36) * x5 + 0)) ≤ 0) (f28 : 1 * x16 + ((-1) * x2 + ((-36) * x5 + 0)) ≤ 20) (f29 : 1 * x14 + ((-1) * x2 + ((-36) * x5 + 0)) ≤ 13) (f30 : 1 * x10 + ((-1) * x2 + ((-36) * x5 + 0)) ≤ 5) (f31 : 1 * x9 + ((-1) * x2 + ((-36) * x5 + 0)) ≤ 0) (f33 : 1 * x14 + ((-1) * x2 + ((-36) * x5 + 0)) ≤ 13) (f34 : x12 < x11) (f35 : 1 * x10 + ((-1) * x2 + ((-36) * x5 + 0)) ≤ 5) (f36 : 1 * x9 + ((-1) * x2 + ((-36) * x5 + 0)) ≤ 0) (f38 : 1 * x10 + ((-1) * x2 + ((-36) * x5 + 0)) ≤ 5) (f39 : 1 * x9 + ((-1) * x2 + ((-36) * x5 + 0)) ≤ 0) (f41 : 1 * x9 + ((-1) * x2 + ((-36) * x5 + 0)) ≤ 0) (f42 : x7 = x4) (f43 : x5 < x6) (kz_0_170 : 0 ≤ texts_0 ∧ texts_0 ≤ 100000000) : 1 * texts_0 + ((-1) * x2 + ((-36) * x21 + 0)) ≤ 0 := by
  first | assumption | omega | grind
def o_Mo_writeGroup_at_l5_10 : or_T := (2, 22, [(0, (2, 0, 0, [165])), (2, (0, 0, 99995604, [])), (4, (0, 5, 7, [])), (5, (0, 0, 23, [])), (6, (0, 1, 24, [])), (7, (0, 5, 7, [])), (9, (0, 0, 99999995, [])), (10, (0, 0, 99999992, [])), (11, (0, 2, 99, [])), (12, (0, 1, 1, [])), (14, (0, 0, 99999993, [])), (15, (0, 0, 99, [])), (16, (0, 0, 99999987, [])), (18, (0, 0, 99999999, [])), (20, (0, 0, 99999998, [])), (21, (0, 1, 24, []))], [(6, [21, 5], [1]), (23, [20, 2, 5], [34, 1, -1, -36]), (23, [18, 2, 5], [33, 1, -1, -36]), (23, [16, 2, 5], [20, 1, -1, -36]), (20, [15, 3, 5], [50, 1, 1, 1005, 1002, 1, 2, 1, 0, 3, 1, 2, 4, 7, 4, 3, 2, 1, 5, 0, 219, 1, 2]), (23, [14, 2, 5], [13, 1, -1, -36]), (20, [11, 3, 5], [50, 1, 1, 1005, 1002, 1, 2, 1, 0, 3, 1, 2, 4, 7, 4, 3, 2, 1, 5, 0, 219, 1, 2]), (23, [10, 2, 5], [5, 1, -1, -36]), (23, [9, 2, 5], [0, 1, -1, -36]), (20, [7, 3, 5], [50, 1, 1, 1005, 1002, 1, 2, 1, 0, 3, 1, 2, 4, 7, 4, 3, 2, 1, 5, 0, 243, 1, 2]), (20, [6, 3], [30, 0, 1, 0, 0, -1, 3, 2005000]), (20, [6, 3], [30, 0, -1, 0, 0, 1, 3, 2005000]), (24, [0, 3], []), (20, [3, 20], [30, 2, 1, 1, 170, -1, 0, 0]), (102, [20], [7770675568902916283677847627294075626569627356208558085007249638955617140820833992704, 165170]), (23, [20, 2, 5], [34, 1, -1, -36]), (23, [18, 2, 5], [33, 1, -1, -36]), (23, [16, 2, 5], [20, 1, -1, -36]), (23, [14, 2, 5], [13, 1, -1, -36]), (23, [10, 2, 5], [5, 1, -1, -36]), (23, [9, 2, 5], [0, 1, -1, -36]), (102, [18], [7770675568902916283677847627294075626569627356208558085007249638955617140820833992704, 165170]), (23, [18, 2, 5], [33, 1, -1, -36]), (23, [16, 2, 5], [20, 1, -1, -36]), (23, [14, 2, 5], [13, 1, -1, -36]), (23, [10, 2, 5], [5, 1, -1, -36]), (23, [9, 2, 5], [0, 1, -1, -36]), (102, [16], [7770675568902916283677847627294075626569627356208558085007249638955617140820833992704, 165170]), (23, [16, 2, 5], [20, 1, -1, -36]), (23, [14, 2, 5], [13, 1, -1, -36]), (23, [10, 2, 5], [5, 1, -1, -36]), (23, [9, 2, 5], [0, 1, -1, -36]), (102, [14], [7770675568902916283677847627294075626569627356208558085007249638955617140820833992704, 165170]), (23, [14, 2, 5], [13, 1, -1, -36]), (7, [11, 12], [4]), (23, [10, 2, 5], [5, 1, -1, -36]), (23, [9, 2, 5], [0, 1, -1, -36]), (102, [10], [7770675568902916283677847627294075626569627356208558085007249638955617140820833992704, 165170]), (23, [10, 2, 5], [5, 1, -1, -36]), (23, [9, 2, 5], [0, 1, -1, -36]), (102, [9], [7770675568902916283677847627294075626569627356208558085007249638955617140820833992704, 165170]), (23, [9, 2, 5], [0, 1, -1, -36]), (7, [7, 4], [0]), (7, [5, 6], [2])], [], [], [(20, [3, 2, 21], [30, 0, 1, 1, 170, -1, 0, 0, -36, 0, 0])], [], [(21, 5, 1, 1), (21, 6, -4294967296, 0), (7, 4, 0, 0), (5, 6, -4294967296, -1)])
theorem oo_Mo_writeGroup_at_l5_10 {kA : Nat → ClassId} : or_ok PRD kA GG o_Mo_writeGroup_at_l5_10 := by
  refine or_mk fun A ta ws vs hD hth hl => ?_
  intro t0 r0 t2 k2 t4 k4 t5 k5 t6 k6 t7 k7 t9 k9 t10 k10 t11 k11 t12 k12 t14 k14 t15 k15 t16 k16 t18 k18 t20 k20 t21 k21 d0 d1 d2 d3 f0 f1 f2 f3 f4 f5 f6 f7 f8 f9 f10 f11 f12 f13 ta1 w1 le1 s1 f15 f16 f17 f18 f19 f20 ta2 w2 le2 s2 f22 f23 f24 f25 f26 ta3 w3 le3 s3 f28 f29 f30 f31 ta4 w4 le4 s4 f33 f34 f35 f36 ta5 w5 le5 s5 f38 f39 ta6 w6 le6 s6 f41 f42 f43
  replace f0 := shm_4 f0
  replace f1 := shm_1910 f1
  replace f2 := shm_1913 f2
  replace f3 := shm_1912 f3
  replace f4 := shm_718 f4
  replace f5 := shm_1911 f5
  replace f6 := shm_718 f6
  replace f7 := shm_1909 f7
  replace f8 := shm_1908 f8
  replace f9 := shm_585 f9
  replace f10 := shm_135 f10
  replace f11 := shm_136 f11
  replace f12 := shm_5 f12
  replace f13 := shm_234 f13
  replace f15 := shm_1910 f15
  replace f16 := shm_1913 f16
  replace f17 := shm_1912 f17
  replace f18 := shm_1911 f18
  replace f19 := shm_1909 f19
  replace f20 := shm_1908 f20
  replace f22 := shm_1913 f22
  replace f23 := shm_1912 f23
  replace f24 := shm_1911 f24
  replace f25 := shm_1909 f25
  replace f26 := shm_1908 f26
  replace f28 := shm_1912 f28
  replace f29 := shm_1911 f29
  replace f30 := shm_1909 f30
  replace f31 := shm_1908 f31
  replace f33 := shm_1911 f33
  replace f34 := shm_21 f34
  replace f35 := shm_1909 f35
  replace f36 := shm_1908 f36
  replace f38 := shm_1909 f38
  replace f39 := shm_1908 f39
  replace f41 := shm_1908 f41
  replace f42 := shm_37 f42
  replace f43 := shm_6 f43
  have q3 : n_v vs 3 = n_v vs 0 := f12.symm
  simp only [q3] at f4 f6 f9 f10 f11 f13
  have kz_0_170 := fdq_13 hD hth r0
  have nf0 : fc_1 PRD (20, [3, 2, 21], [30, 0, 1, 1, 170, -1, 0, 0, -36, 0, 0]) ws (vs) := by
    refine ⟨nf_in hl rfl, sgq_1906 ?_⟩
    · show 1 * w_fi ws (n_v vs 3) 170 + ((-1) * v_iv (n_v vs 2) + ((-36) * v_iv (n_v vs 21) + 0)) ≤ 0
      rw [q3]
      exact vc_Mo_writeGroup_at_l5_10_0 (v_iv (n_v vs 2)) (v_iv (n_v vs 4)) (v_iv (n_v vs 5)) (v_iv (n_v vs 6)) (v_iv (n_v vs 7)) (v_iv (n_v vs 9)) (v_iv (n_v vs 10)) (v_iv (n_v vs 11)) (v_iv (n_v vs 12)) (v_iv (n_v vs 14)) (v_iv (n_v vs 15)) (v_iv (n_v vs 16)) (v_iv (n_v vs 18)) (v_iv (n_v vs 20)) (v_iv (n_v vs 21)) (w_ei ws (w_ar ws (n_v vs 0) 2)) (w_fi ws (n_v vs 0) 5) (w_fi ws (n_v vs 0) 170) k2 k4 k5 k6 k7 k9 k10 k11 k12 k14 k15 k16 k18 k20 k21 d0 d1 d2 d3 f0 f1 f2 f3 f4 f5 f6 f7 f8 f9 f10 f11 f13 f15 f16 f17 f18 f19 f20 f22 f23 f24 f25 f26 f28 f29 f30 f31 f33 f34 f35 f36 f38 f39 f41 f42 f43 kz_0_170
  refine ⟨(fun _ h => (by cases h)), [], trivial, ?_, (fun _ h => (by cases h))⟩
  rw [List.append_nil]
  exact List.forall_mem_cons.mpr ⟨⟨show (20 : Nat) < 100 from by decide, nf0⟩, (fun _ h => (by cases h))⟩
set_option maxHeartbeats 4000000 in
theorem vc_Mo_writeGroup_at_l5_11_0 (x2 : Int) (x4 : Int) (x5 : Int) (x6 : Int) (x7 : Int) (x8 : Int) (all_0 : Int → Int) (r_0 : Int) (texts_0 : Int) (k2 : 0 ≤ x2 ∧ x2 ≤ 99995604) (k4 : 5 ≤ x4 ∧ x4 ≤ 7) (k5 : 0 ≤ x5 ∧ x5 ≤ 23) (k6 : 1 ≤ x6 ∧ x6 ≤ 24) (k7 : 0 ≤ x7 ∧ x7 ≤ 7) (k8 : 1 ≤ x8 ∧ x8 ≤ 24) (d0 : x5 + 1 ≤ x8 ∧ x8 ≤ x5 + 1) (d1 : x6 + (-4294967296) ≤ x8 ∧ x8 ≤ x6 + 0) (d2 : x6 + (-4294967296) ≤ x5 ∧ x5 ≤ x6 + (-1)) (f0 : x8 = x5 + 1) (f1 : x7 ≠ x4) (f2 : x7 = all_0 (((r_0 + 243) + x5))) (f3 : x5 < x6) (f4 : 1 * x6 + ((-1) * all_0 (r_0 + 0) + 0) ≤ 0) (f5 : (-1) * x6 + (1 * all_0 (r_0 + 0) + 0) ≤ 0) (f6 : 1 * texts_0 + ((-1) * x2 + ((-36) * x5 + 0)) ≤ 0) (kz_0_170 : 0 ≤ texts_0 ∧ texts_0 ≤ 100000000) : 1 * texts_0 + ((-1) * x2 + ((-36) * x8 + 0)) ≤ 0 := by
  first | assumption | omega | grind
def o_Mo_writeGroup_at_l5_11 : or_T := (2, 9, [(0, (2, 0, 0, [165])), (2, (0, 0, 99995604, [])), (4, (0, 5, 7, [])), (5, (0, 0, 23, [])), (6, (0, 1, 24, [])), (7, (0, 0, 7, [])), (8, (0, 1, 24, []))], [(6, [8, 5], [1]), (7, [7, 4], [1]), (20, [7, 3, 5], [50, 1, 1, 1005, 1002, 1, 2, 1, 0, 3, 1, 2, 4, 7, 4, 3, 2, 1, 5, 0, 243, 1, 2]), (7, [5, 6], [2]), (20, [6, 3], [30, 0, 1, 0, 0, -1, 3, 2005000]), (20, [6, 3], [30, 0, -1, 0, 0, 1, 3, 2005000]), (20, [3, 2, 5], [30, 0, 1, 1, 170, -1, 0, 0, -36, 0, 0]), (24, [0, 3], [])], [], [], [(20, [3, 2, 8], [30, 0, 1, 1, 170, -1, 0, 0, -36, 0, 0])], [], [(8, 5, 1, 1), (8, 6, -4294967296, 0), (5, 6, -4294967296, -1)])
theorem oo_Mo_writeGroup_at_l5_11 {kA : Nat → ClassId} : or_ok PRD kA GG o_Mo_writeGroup_at_l5_11 := by
  refine or_mk fun A ta ws vs hD hth hl => ?_
  intro t0 r0 t2 k2 t4 k4 t5 k5 t6 k6 t7 k7 t8 k8 d0 d1 d2 f0 f1 f2 f3 f4 f5 f6 f7
  replace f0 := shm_4 f0
  replace f1 := shm_40 f1
  replace f2 := shm_585 f2
  replace f3 := shm_6 f3
  replace f4 := shm_135 f4
  replace f5 := shm_136 f5
  replace f6 := shm_1906 f6
  replace f7 := shm_5 f7
  have q3 : n_v vs 3 = n_v vs 0 := f7.symm
  simp only [q3] at f2 f4 f5 f6
  have kz_0_170 := fdq_13 hD hth r0
  have nf0 : fc_1 PRD (20, [3, 2, 8], [30, 0, 1, 1, 170, -1, 0, 0, -36, 0, 0]) ws (vs) := by
    refine ⟨nf_in hl rfl, sgq_1906 ?_⟩
    · show 1 * w_fi ws (n_v vs 3) 170 + ((-1) * v_iv (n_v vs 2) + ((-36) * v_iv (n_v vs 8) + 0)) ≤ 0
      rw [q3]
      exact vc_Mo_writeGroup_at_l5_11_0 (v_iv (n_v vs 2)) (v_iv (n_v vs 4)) (v_iv (n_v vs 5)) (v_iv (n_v vs 6)) (v_iv (n_v vs 7)) (v_iv (n_v vs 8)) (w_ei ws (w_ar ws (n_v vs 0) 2)) (w_fi ws (n_v vs 0) 5) (w_fi ws (n_v vs 0) 170) k2 k4 k5 k6 k7 k8 d0 d1 d2 f0 f1 f2 f3 f4 f5 f6 kz_0_170
  refine ⟨(fun _ h => (by cases h)), [], trivial, ?_, (fun _ h => (by cases h))⟩
  rw [List.append_nil]
  exact List.forall_mem_cons.mpr ⟨⟨show (20 : Nat) < 100 from by decide, nf0⟩, (fun _ h => (by cases h))⟩
set_option maxHeartbeats 4000000 in
theorem vc_Mo_writeGroup_at_l5_12_0 (x2 : Int) (x4 : Int) (x5 : Int) (x6 : Int) (all_0 : Int → Int) (r_0 : Int) (texts_0 : Int) (k2 : 0 ≤ x2 ∧ x2 ≤ 99995604) (k4 : 5 ≤ x4 ∧ x4 ≤ 7) (k5 : 6 ≤ x5 ∧ x5 ≤ 8) (k6 : 0 ≤ x6 ∧ x6 ≤ 8) (d0 : x6 + 0 ≤ x5 ∧ x5 ≤ x6 + 4294967296) (d1 : x5 + (-4294967296) ≤ x4 ∧ x4 ≤ x5 + (-1)) (f0 : x6 ≤ x5) (f1 : 1 * x6 + ((-1) * all_0 (r_0 + 2) + 0) ≤ 0) (f2 : (-1) * x6 + (1 * all_0 (r_0 + 2) + 0) ≤ 0) (f3 : 1 * texts_0 + ((-1) * x2 + ((-1766) * x5 + (1766 * x4 + 0))) ≤ (-902)) (kz_0_170 : 0 ≤ texts_0 ∧ texts_0 ≤ 100000000) : 1 * texts_0 + ((-1) * x2 + 0) ≤ 4396 := by
  first | assumption | omega | grind
def o_Mo_writeGroup_at_l5_12 : or_T := (177, 7, [(0, (2, 0, 0, [165])), (2, (0, 0, 99995604, [])), (4, (0, 5, 7, [])), (5, (0, 6, 8, [])), (6, (0, 0, 8, []))], [(7, [5, 6], [3]), (20, [6, 3], [30, 0, 1, 0, 0, -1, 3, 2005002]), (20, [6, 3], [30, 0, -1, 0, 0, 1, 3, 2005002]), (20, [3, 2, 5, 4], [30, -902, 1, 1, 170, -1, 0, 0, -1766, 0, 0, 1766, 0, 0]), (24, [0, 3], [])], [], [], [(20, [0, 2], [30, 4396, 1, 1, 170, -1, 0, 0])], [], [(5, 6, 0, 4294967296), (4, 5, -4294967296, -1)])
theorem oo_Mo_writeGroup_at_l5_12 {kA : Nat → ClassId} : or_ok PRD kA GG o_Mo_writeGroup_at_l5_12 := by
  refine or_mk fun A ta ws vs hD hth hl => ?_
  intro t0 r0 t2 k2 t4 k4 t5 k5 t6 k6 d0 d1 f0 f1 f2 f3 f4
  replace f1 := shm_132 f1
  replace f2 := shm_133 f2
  replace f3 := shm_1949 f3
  replace f4 := shm_5 f4
  have q3 : n_v vs 3 = n_v vs 0 := f4.symm
  simp only [q3] at f1 f2 f3
  have kz_0_170 := fdq_13 hD hth r0
  have nf0 : fc_1 PRD (20, [0, 2], [30, 4396, 1, 1, 170, -1, 0, 0]) ws (vs) := ⟨nf_in hl rfl, sgq_1947 (vc_Mo_writeGroup_at_l5_12_0 (v_iv (n_v vs 2)) (v_iv (n_v vs 4)) (v_iv (n_v vs 5)) (v_iv (n_v vs 6)) (w_ei ws (w_ar ws (n_v vs 0) 2)) (w_fi ws (n_v vs 0) 5) (w_fi ws (n_v vs 0) 170) k2 k4 k5 k6 d0 d1 (shm_2 f0) f1 f2 f3 kz_0_170)⟩
  refine ⟨(fun _ h => (by cases h)), [], trivial, ?_, (fun _ h => (by cases h))⟩
  rw [List.append_nil]
  exact List.forall_mem_cons.mpr ⟨⟨show (20 : Nat) < 100 from by decide, nf0⟩, (fun _ h => (by cases h))⟩
def o_Mo_writeGroup_at_l5_13 : or_T := (117, 14, [(0, (2, 0, 0, [165])), (2, (0, 0, 99995604, [])), (3, (2, 0, 0, [165])), (4, (0, 5, 6, [])), (5, (0, 6, 7, [])), (6, (0, 7, 8, [])), (7, (2, 0, 0, [167])), (8, (0, 0, 66297, [])), (9, (0, 531, 531, [])), (10, (0, 531, 66828, [])), (11, (0, 537, 66835, [])), (12, (0, 5, 6, []))], [(7, [12, 4], [0]), (10, [12, 7, 11], []), (1, [11, 10, 5], []), (1, [10, 8, 9], []), (9, [8, 3], [5]), (9, [7, 3], [2]), (7, [5, 6], [2]), (20, [6, 3], [30, 0, 1, 0, 0, -1, 3, 2005002]), (20, [6, 3], [30, 0, -1, 0, 0, 1, 3, 2005002]), (20, [3, 2, 5, 4], [30, -902, 1, 1, 170, -1, 0, 0, -1766, 0, 0, 1766, 0, 0]), (24, [0, 3], [])], [], [(0, 0, 99999994, [])], [(20, [3, 14], [30, 0, 1, 1, 170, -1, 0, 0]), (23, [14, 2, 5, 4], [-902, 1, -1, -1766, 1766])], [], [(12, 4, 0, 0), (11, 5, 531, 66828), (11, 6, -4294967296, 66827), (11, 10, 6, 7), (11, 8, 537, 538), (10, 8, 531, 531), (5, 6, -4294967296, -1), (4, 5, -4294967296, -1)])
theorem oo_Mo_writeGroup_at_l5_13 {kA : Nat → ClassId} : or_ok PRD kA GG o_Mo_writeGroup_at_l5_13 := by
  refine or_mk fun A ta ws vs hD hth hl => ?_
  intro t0 r0 t2 k2 t3 r3 t4 k4 t5 k5 t6 k6 t7 r7 t8 k8 t9 k9 t10 k10 t11 k11 t12 k12 d0 d1 d2 d3 d4 d5 d6 d7 f0 f1 f2 f3 f4 f5 f6 f7 f8 f9 f10
  replace f0 := shm_37 f0
  replace f1 := shm_106 f1
  replace f2 := shm_12 f2
  replace f3 := shm_12 f3
  replace f4 := shm_109 f4
  replace f5 := shm_129 f5
  replace f6 := shm_6 f6
  replace f7 := shm_132 f7
  replace f8 := shm_133 f8
  replace f9 := shm_1949 f9
  replace f10 := shm_5 f10
  have q3 : n_v vs 3 = n_v vs 0 := f10.symm
  simp only [q3] at f4 f5 f7 f8 f9
  have cr_0_2 := fdq_12 hD hth r0
  have ad_7 : v_ad (n_v vs 7) = w_ar ws (n_v vs 0) 2 := congrArg v_ad f5
  simp only [ad_7] at f1
  have h1 : v_iv (n_v vs 12) = w_ei ws (w_ar ws (n_v vs 0) 2) (v_iv (n_v vs 11)) := f1
  have g4 : v_iv (n_v vs 8) = w_fi ws (n_v vs 0) 5 := congrArg v_iv f4
  have cg1_F5_2 : v_iv (n_v vs 11) = w_fi ws (n_v vs 0) 5 + 2 → w_el ws (w_ar ws (n_v vs 0) 2) (v_iv (n_v vs 11)).toNat = w_el ws (w_ar ws (n_v vs 0) 2) (w_fi ws (n_v vs 0) 5 + 2).toNat := fun h => by rw [h]
  have kz_0_170 := fdq_13 hD hth r0
  have kv0 := fdq_13 hD hth r0
  obtain ⟨x, ex, hx⟩ := iv_ex (ta := ta) (lo := 0) (hi := 99999994) (z := w_fi ws (n_v vs 0) 170) (by omega) (by omega) (by omega) (by omega)
  have ex2 : v_iv (Value.int x) = w_fi ws (n_v vs 0) 170 := ex
  have ex3 : 0 ≤ v_iv (Value.int x) ∧ v_iv (Value.int x) ≤ 99999994 := tv_rng hx
  have e_2 : n_v (vs ++ [Value.int x]) 2 = n_v vs 2 := n_v_old (by rw [hl]; decide)
  have e_3 : n_v (vs ++ [Value.int x]) 3 = n_v vs 3 := n_v_old (by rw [hl]; decide)
  have e_4 : n_v (vs ++ [Value.int x]) 4 = n_v vs 4 := n_v_old (by rw [hl]; decide)
  have e_5 : n_v (vs ++ [Value.int x]) 5 = n_v vs 5 := n_v_old (by rw [hl]; decide)
  have e_14 : n_v (vs ++ [Value.int x]) 14 = Value.int x := n_v_new hl
  have nf0 : fc_1 PRD (20, [3, 14], [30, 0, 1, 1, 170, -1, 0, 0]) ws (vs ++ [Value.int x]) := by
    refine ⟨nf_inA hl rfl, sgq_140 ?_⟩
    · show 1 * w_fi ws (n_v (vs ++ [Value.int x]) 3) 170 + ((-1) * v_iv (n_v (vs ++ [Value.int x]) 14) + 0) ≤ 0
      simp only [e_3, e_14, q3]
      omega
  have nf1 : fc_1 PRD (23, [14, 2, 5, 4], [-902, 1, -1, -1766, 1766]) ws (vs ++ [Value.int x]) := by
    refine ⟨nf_inA hl rfl, sgq_1950 ?_⟩
    · show 1 * v_iv (n_v (vs ++ [Value.int x]) 14) + ((-1) * v_iv (n_v (vs ++ [Value.int x]) 2) + ((-1766) * v_iv (n_v (vs ++ [Value.int x]) 5) + (1766 * v_iv (n_v (vs ++ [Value.int x]) 4) + 0))) ≤ (-902)
      simp only [e_2, e_4, e_5, e_14]
      omega
  exact ⟨(fun _ h => (by cases h)), [Value.int x], ag_one hx, List.forall_mem_cons.mpr ⟨⟨show (20 : Nat) < 100 from by decide, nf0⟩, List.forall_mem_cons.mpr ⟨⟨show (23 : Nat) < 100 from by decide, nf1⟩, (fun _ h => (by cases h))⟩⟩, (fun _ h => (by cases h))⟩
set_option maxHeartbeats 4000000 in
theorem vc_Mo_writeGroup_at_l5_14_0 (x2 : Int) (x4 : Int) (x5 : Int) (x6 : Int) (x8 : Int) (x12 : Int) (x14 : Int) (r_0 : Int) (all_0 : Int → Int) (texts_0 : Int) (gx : Int) (k2 : 0 ≤ x2 ∧ x2 ≤ 99995604) (k4 : 5 ≤ x4 ∧ x4 ≤ 6) (k5 : 6 ≤ x5 ∧ x5 ≤ 7) (k6 : 7 ≤ x6 ∧ x6 ≤ 8) (k8 : 0 ≤ x8 ∧ x8 ≤ 66297) (k12 : 5 ≤ x12 ∧ x12 ≤ 6) (k14 : 0 ≤ x14 ∧ x14 ≤ 99999994) (d0 : x4 + 0 ≤ x12 ∧ x12 ≤ x4 + 0) (d1 : x6 + (-4294967296) ≤ x5 ∧ x5 ≤ x6 + (-1)) (d2 : x5 + (-4294967296) ≤ x4 ∧ x4 ≤ x5 + (-1)) (g0 : x8 = r_0) (f2 : 1 * x14 + ((-1) * x2 + ((-1766) * x5 + (1766 * x4 + 0))) ≤ (-902)) (f3 : 1 * x6 + ((-1) * all_0 (r_0 + 2) + 0) ≤ 0) (f4 : (-1) * x6 + (1 * all_0 (r_0 + 2) + 0) ≤ 0) (f6 : 1 * texts_0 + ((-1) * x14 + 0) ≤ 6) (f8 : 1 * x14 + ((-1) * x2 + ((-1766) * x5 + (1766 * x4 + 0))) ≤ (-902)) (f9 : x12 = x4) (f10 : x5 < x6) (kz_0_170 : 0 ≤ texts_0 ∧ texts_0 ≤ 100000000) (ex2 : gx = texts_0) (ex3 : 0 ≤ gx ∧ gx ≤ 99999992) : 1 * texts_0 + ((-1) * gx + 0) ≤ 0 := by
  first | assumption | omega | grind
set_option maxHeartbeats 4000000 in
theorem vc_Mo_writeGroup_at_l5_14_1 (x2 : Int) (x4 : Int) (x5 : Int) (x6 : Int) (x8 : Int) (x12 : Int) (x14 : Int) (r_0 : Int) (all_0 : Int → Int) (texts_0 : Int) (gx : Int) (k2 : 0 ≤ x2 ∧ x2 ≤ 99995604) (k4 : 5 ≤ x4 ∧ x4 ≤ 6) (k5 : 6 ≤ x5 ∧ x5 ≤ 7) (k6 : 7 ≤ x6 ∧ x6 ≤ 8) (k8 : 0 ≤ x8 ∧ x8 ≤ 66297) (k12 : 5 ≤ x12 ∧ x12 ≤ 6) (k14 : 0 ≤ x14 ∧ x14 ≤ 99999994) (d0 : x4 + 0 ≤ x12 ∧ x12 ≤ x4 + 0) (d1 : x6 + (-4294967296) ≤ x5 ∧ x5 ≤ x6 + (-1)) (d2 : x5 + (-4294967296) ≤ x4 ∧ x4 ≤ x5 + (-1)) (g0 : x8 = r_0) (f2 : 1 * x14 + ((-1) * x2 + ((-1766) * x5 + (1766 * x4 + 0))) ≤ (-902)) (f3 : 1 * x6 + ((-1) * all_0 (r_0 + 2) + 0) ≤ 0) (f4 : (-1) * x6 + (1 * all_0 (r_0 + 2) + 0) ≤ 0) (f6 : 1 * texts_0 + ((-1) * x14 + 0) ≤ 6) (f8 : 1 * x14 + ((-1) * x2 + ((-1766) * x5 + (1766 * x4 + 0))) ≤ (-902)) (f9 : x12 = x4) (f10 : x5 < x6) (kz_0_170 : 0 ≤ texts_0 ∧ texts_0 ≤ 100000000) (ex2 : gx = texts_0) (ex3 : 0 ≤ gx ∧ gx ≤ 99999992) : 1 * gx + ((-1) * x2 + ((-1766) * x5 + (1766 * x4 + 0))) ≤ (-896) := by
  first | assumption | omega | grind
def o_Mo_writeGroup_at_l5_14 : or_T := (149, 24, [(0, (2, 0, 0, [165])), (2, (0, 0, 99995604, [])), (3, (2, 0, 0, [165])), (4, (0, 5, 6, [])), (5, (0, 6, 7, [])), (6, (0, 7, 8, [])), (7, (2, 0, 0, [167])), (8, (0, 0, 66297, [])), (12, (0, 5, 6, [])), (14, (0, 0, 99999994, []))], [(9, [8, 3], [5]), (9, [7, 3], [2]), (23, [14, 2, 5, 4], [-902, 1, -1, -1766, 1766]), (20, [6, 3], [30, 0, 1, 0, 0, -1, 3, 2005002]), (20, [6, 3], [30, 0, -1, 0, 0, 1, 3, 2005002]), (24, [0, 3], []), (20, [3, 14], [30, 6, 1, 1, 170, -1, 0, 0]), (102, [14], [7770675568902916283677847627294075626569627356208558085007249638955617140820833992704, 165170]), (23, [14, 2, 5, 4], [-902, 1, -1, -1766, 1766]), (7, [12, 4], [0]), (7, [5, 6], [2])], [], [(0, 0, 99999992, [])], [(20, [3, 24], [30, 0, 1, 1, 170, -1, 0, 0]), (23, [24, 2, 5, 4], [-896, 1, -1, -1766, 1766])], [], [(12, 4, 0, 0), (5, 6, -4294967296, -1), (4, 5, -4294967296, -1)])
theorem oo_Mo_writeGroup_at_l5_14 {kA : Nat → ClassId} : or_ok PRD kA GG o_Mo_writeGroup_at_l5_14 := by
  refine or_mk fun A ta ws vs hD hth hl => ?_
  intro t0 r0 t2 k2 t3 r3 t4 k4 t5 k5 t6 k6 t7 r7 t8 k8 t12 k12 t14 k14 d0 d1 d2 f0 f1 f2 f3 f4 f5 f6 ta1 w1 le1 s1 f8 f9 f10
  replace f0 := shm_109 f0
  replace f1 := shm_129 f1
  replace f2 := shm_1950 f2
  replace f3 := shm_132 f3
  replace f4 := shm_133 f4
  replace f5 := shm_5 f5
  replace f6 := shm_235 f6
  replace f8 := shm_1950 f8
  replace f9 := shm_37 f9
  replace f10 := shm_6 f10
  have q3 : n_v vs 3 = n_v vs 0 := f5.symm
  simp only [q3] at f0 f1 f3 f4 f6
  have cr_0_2 := fdq_12 hD hth r0
  have ad_7 : v_ad (n_v vs 7) = w_ar ws (n_v vs 0) 2 := congrArg v_ad f1
  have g0 : v_iv (n_v vs 8) = w_fi ws (n_v vs 0) 5 := congrArg v_iv f0
  have kz_0_170 := fdq_13 hD hth r0
  have kv0 := fdq_13 hD hth r0
  obtain ⟨x, ex, hx⟩ := iv_ex (ta := ta) (lo := 0) (hi := 99999992) (z := w_fi ws (n_v vs 0) 170) (by omega) (by omega) (by omega) (by omega)
  have ex2 : v_iv (Value.int x) = w_fi ws (n_v vs 0) 170 := ex
  have ex3 : 0 ≤ v_iv (Value.int x) ∧ v_iv (Value.int x) ≤ 99999992 := tv_rng hx
  have e_2 : n_v (vs ++ [Value.int x]) 2 = n_v vs 2 := n_v_old (by rw [hl]; decide)
  have e_3 : n_v (vs ++ [Value.int x]) 3 = n_v vs 3 := n_v_old (by rw [hl]; decide)
  have e_4 : n_v (vs ++ [Value.int x]) 4 = n_v vs 4 := n_v_old (by rw [hl]; decide)
  have e_5 : n_v (vs ++ [Value.int x]) 5 = n_v vs 5 := n_v_old (by rw [hl]; decide)
  have e_24 : n_v (vs ++ [Value.int x]) 24 = Value.int x := n_v_new hl
  have nf0 : fc_1 PRD (20, [3, 24], [30, 0, 1, 1, 170, -1, 0, 0]) ws (vs ++ [Value.int x]) := by
    refine ⟨nf_inA hl rfl, sgq_140 ?_⟩
    · show 1 * w_fi ws (n_v (vs ++ [Value.int x]) 3) 170 + ((-1) * v_iv (n_v (vs ++ [Value.int x]) 24) + 0) ≤ 0
      simp only [e_3, e_24, q3]
      exact vc_Mo_writeGroup_at_l5_14_0 (v_iv (n_v vs 2)) (v_iv (n_v vs 4)) (v_iv (n_v vs 5)) (v_iv (n_v vs 6)) (v_iv (n_v vs 8)) (v_iv (n_v vs 12)) (v_iv (n_v vs 14)) (w_fi ws (n_v vs 0) 5) (w_ei ws (w_ar ws (n_v vs 0) 2)) (w_fi ws (n_v vs 0) 170) (v_iv (Value.int x)) k2 k4 k5 k6 k8 k12 k14 d0 d1 d2 g0 f2 f3 f4 f6 f8 f9 f10 kz_0_170 ex2 ex3
  have nf1 : fc_1 PRD (23, [24, 2, 5, 4], [-896, 1, -1, -1766, 1766]) ws (vs ++ [Value.int x]) := by
    refine ⟨nf_inA hl rfl, sgq_1951 ?_⟩
    · show 1 * v_iv (n_v (vs ++ [Value.int x]) 24) + ((-1) * v_iv (n_v (vs ++ [Value.int x]) 2) + ((-1766) * v_iv (n_v (vs ++ [Value.int x]) 5) + (1766 * v_iv (n_v (vs ++ [Value.int x]) 4) + 0))) ≤ (-896)
      simp only [e_2, e_4, e_5, e_24]
      exact vc_Mo_writeGroup_at_l5_14_1 (v_iv (n_v vs 2)) (v_iv (n_v vs 4)) (v_iv (n_v vs 5)) (v_iv (n_v vs 6)) (v_iv (n_v vs 8)) (v_iv (n_v vs 12)) (v_iv (n_v vs 14)) (w_fi ws (n_v vs 0) 5) (w_ei ws (w_ar ws (n_v vs 0) 2)) (w_fi ws (n_v vs 0) 170) (v_iv (Value.int x)) k2 k4 k5 k6 k8 k12 k14 d0 d1 d2 g0 f2 f3 f4 f6 f8 f9 f10 kz_0_170 ex2 ex3
  exact ⟨(fun _ h => (by cases h)), [Value.int x], ag_one hx, List.forall_mem_cons.mpr ⟨⟨show (20 : Nat) < 100 from by decide, nf0⟩, List.forall_mem_cons.mpr ⟨⟨show (23 : Nat) < 100 from by decide, nf1⟩, (fun _ h => (by cases h))⟩⟩, (fun _ h => (by cases h))⟩
set_option maxHeartbeats 4000000 in
theorem vc_Mo_writeGroup_at_l5_15_0 (x2 : Int) (x4 : Int) (x5 : Int) (x6 : Int) (x12 : Int) (x14 : Int) (x24 : Int) (all_0 : Int → Int) (r_0 : Int) (texts_0 : Int) (gx : Int) (k2 : 0 ≤ x2 ∧ x2 ≤ 99995604) (k4 : 5 ≤ x4 ∧ x4 ≤ 6) (k5 : 6 ≤ x5 ∧ x5 ≤ 7) (k6 : 7 ≤ x6 ∧ x6 ≤ 8) (k12 : 5 ≤ x12 ∧ x12 ≤ 6) (k14 : 0 ≤ x14 ∧ x14 ≤ 99999994) (k24 : 0 ≤ x24 ∧ x24 ≤ 99999992) (d0 : x4 + 0 ≤ x12 ∧ x12 ≤ x4 + 0) (d1 : x6 + (-4294967296) ≤ x5 ∧ x5 ≤ x6 + (-1)) (d2 : x5 + (-4294967296) ≤ x4 ∧ x4 ≤ x5 + (-1)) (f0 : 1 * x24 + ((-1) * x2 + ((-1766) * x5 + (1766 * x4 + 0))) ≤ (-896)) (f1 : 1 * x14 + ((-1) * x2 + ((-1766) * x5 + (1766 * x4 + 0))) ≤ (-902)) (f2 : 1 * x6 + ((-1) * all_0 (r_0 + 2) + 0) ≤ 0) (f3 : (-1) * x6 + (1 * all_0 (r_0 + 2) + 0) ≤ 0) (f5 : 1 * texts_0 + ((-1) * x24 + 0) ≤ 8) (f7 : 1 * x24 + ((-1) * x2 + ((-1766) * x5 + (1766 * x4 + 0))) ≤ (-896)) (f8 : 1 * x14 + ((-1) * x2 + ((-1766) * x5 + (1766 * x4 + 0))) ≤ (-902)) (f10 : 1 * x14 + ((-1) * x2 + ((-1766) * x5 + (1766 * x4 + 0))) ≤ (-902)) (f11 : x12 = x4) (f12 : x5 < x6) (kz_0_170 : 0 ≤ texts_0 ∧ texts_0 ≤ 100000000) (ex2 : gx = texts_0) (ex3 : 0 ≤ gx ∧ gx ≤ 99999997) : 1 * texts_0 + ((-1) * gx + 0) ≤ 0 := by
  first | assumption | omega | grind
set_option maxHeartbeats 4000000 in
theorem vc_Mo_writeGroup_at_l5_15_1 (x2 : Int) (x4 : Int) (x5 : Int) (x6 : Int) (x12 : Int) (x14 : Int) (x24 : Int) (all_0 : Int → Int) (r_0 : Int) (texts_0 : Int) (gx : Int) (k2 : 0 ≤ x2 ∧ x2 ≤ 99995604) (k4 : 5 ≤ x4 ∧ x4 ≤ 6) (k5 : 6 ≤ x5 ∧ x5 ≤ 7) (k6 : 7 ≤ x6 ∧ x6 ≤ 8) (k12 : 5 ≤ x12 ∧ x12 ≤ 6) (k14 : 0 ≤ x14 ∧ x14 ≤ 99999994) (k24 : 0 ≤ x24 ∧ x24 ≤ 99999992) (d0 : x4 + 0 ≤ x12 ∧ x12 ≤ x4 + 0) (d1 : x6 + (-4294967296) ≤ x5 ∧ x5 ≤ x6 + (-1)) (d2 : x5 + (-4294967296) ≤ x4 ∧ x4 ≤ x5 + (-1)) (f0 : 1 * x24 + ((-1) * x2 + ((-1766) * x5 + (1766 * x4 + 0))) ≤ (-896)) (f1 : 1 * x14 + ((-1) * x2 + ((-1766) * x5 + (1766 * x4 + 0))) ≤ (-902)) (f2 : 1 * x6 + ((-1) * all_0 (r_0 + 2) + 0) ≤ 0) (f3 : (-1) * x6 + (1 * all_0 (r_0 + 2) + 0) ≤ 0) (f5 : 1 * texts_0 + ((-1) * x24 + 0) ≤ 8) (f7 : 1 * x24 + ((-1) * x2 + ((-1766) * x5 + (1766 * x4 + 0))) ≤ (-896)) (f8 : 1 * x14 + ((-1) * x2 + ((-1766) * x5 + (1766 * x4 + 0))) ≤ (-902)) (f10 : 1 * x14 + ((-1) * x2 + ((-1766) * x5 + (1766 * x4 + 0))) ≤ (-902)) (f11 : x12 = x4) (f12 : x5 < x6) (kz_0_170 : 0 ≤ texts_0 ∧ texts_0 ≤ 100000000) (ex2 : gx = texts_0) (ex3 : 0 ≤ gx ∧ gx ≤ 99999997) : 1 * gx + ((-1) * x2 + ((-1766) * x5 + (1766 * x4 + 0))) ≤ (-888) := by
  first | assumption | omega | grind
def o_Mo_writeGroup_at_l5_15 : or_T := (156, 26, [(0, (2, 0, 0, [165])), (2, (0, 0, 99995604, [])), (3, (2, 0, 0, [165])), (4, (0, 5, 6, [])), (5, (0, 6, 7, [])), (6, (0, 7, 8, [])), (12, (0, 5, 6, [])), (14, (0, 0, 99999994, [])), (24, (0, 0, 99999992, []))], [(23, [24, 2, 5, 4], [-896, 1, -1, -1766, 1766]), (23, [14, 2, 5, 4], [-902, 1, -1, -1766, 1766]), (20, [6, 3], [30, 0, 1, 0, 0, -1, 3, 2005002]), (20, [6, 3], [30, 0, -1, 0, 0, 1, 3, 2005002]), (24, [0, 3], []), (20, [3, 24], [30, 8, 1, 1, 170, -1, 0, 0]), (102, [24], [7770675568902916283677847627294075626569627356208558085007249638955617140820833992704, 165170]), (23, [24, 2, 5, 4], [-896, 1, -1, -1766, 1766]), (23, [14, 2, 5, 4], [-902, 1, -1, -1766, 1766]), (102, [14], [7770675568902916283677847627294075626569627356208558085007249638955617140820833992704, 165170]), (23, [14, 2, 5, 4], [-902, 1, -1, -1766, 1766]), (7, [12, 4], [0]), (7, [5, 6], [2])], [], [(0, 0, 99999997, [])], [(20, [3, 26], [30, 0, 1, 1, 170, -1, 0, 0]), (23, [26, 2, 5, 4], [-888, 1, -1, -1766, 1766])], [], [(12, 4, 0, 0), (5, 6, -4294967296, -1), (4, 5, -4294967296, -1)])
theorem oo_Mo_writeGroup_at_l5_15 {kA : Nat → ClassId} : or_ok PRD kA GG o_Mo_writeGroup_at_l5_15 := by
  refine or_mk fun A ta ws vs hD hth hl => ?_
  intro t0 r0 t2 k2 t3 r3 t4 k4 t5 k5 t6 k6 t12 k12 t14 k14 t24 k24 d0 d1 d2 f0 f1 f2 f3 f4 f5 ta1 w1 le1 s1 f7 f8 ta2 w2 le2 s2 f10 f11 f12
  replace f0 := shm_1951 f0
  replace f1 := shm_1950 f1
  replace f2 := shm_132 f2
  replace f3 := shm_133 f3
  replace f4 := shm_5 f4
  replace f5 := shm_172 f5
  replace f7 := shm_1951 f7
  replace f8 := shm_1950 f8
  replace f10 := shm_1950 f10
  replace f11 := shm_37 f11
  replace f12 := shm_6 f12
  have q3 : n_v vs 3 = n_v vs 0 := f4.symm
  simp only [q3] at f2 f3 f5
  have cr_0_2 := fdq_12 hD hth r0
  have kz_0_170 := fdq_13 hD hth r0
  have kv0 := fdq_13 hD hth r0
  obtain ⟨x, ex, hx⟩ := iv_ex (ta := ta) (lo := 0) (hi := 99999997) (z := w_fi ws (n_v vs 0) 170) (by omega) (by omega) (by omega) (by omega)
  have ex2 : v_iv (Value.int x) = w_fi ws (n_v vs 0) 170 := ex
  have ex3 : 0 ≤ v_iv (Value.int x) ∧ v_iv (Value.int x) ≤ 99999997 := tv_rng hx
  have e_2 : n_v (vs ++ [Value.int x]) 2 = n_v vs 2 := n_v_old (by rw [hl]; decide)
  have e_3 : n_v (vs ++ [Value.int x]) 3 = n_v vs 3 := n_v_old (by rw [hl]; decide)
  have e_4 : n_v (vs ++ [Value.int x]) 4 = n_v vs 4 := n_v_old (by rw [hl]; decide)
  have e_5 : n_v (vs ++ [Value.int x]) 5 = n_v vs 5 := n_v_old (by rw [hl]; decide)
  have e_26 : n_v (vs ++ [Value.int x]) 26 = Value.int x := n_v_new hl
  have nf0 : fc_1 PRD (20, [3, 26], [30, 0, 1, 1, 170, -1, 0, 0]) ws (vs ++ [Value.int x]) := by
    refine ⟨nf_inA hl rfl, sgq_140 ?_⟩
    · show 1 * w_fi ws (n_v (vs ++ [Value.int x]) 3) 170 + ((-1) * v_iv (n_v (vs ++ [Value.int x]) 26) + 0) ≤ 0
      simp only [e_3, e_26, q3]
      exact vc_Mo_writeGroup_at_l5_15_0 (v_iv (n_v vs 2)) (v_iv (n_v vs 4)) (v_iv (n_v vs 5)) (v_iv (n_v vs 6)) (v_iv (n_v vs 12)) (v_iv (n_v vs 14)) (v_iv (n_v vs 24)) (w_ei ws (w_ar ws (n_v vs 0) 2)) (w_fi ws (n_v vs 0) 5) (w_fi ws (n_v vs 0) 170) (v_iv (Value.int x)) k2 k4 k5 k6 k12 k14 k24 d0 d1 d2 f0 f1 f2 f3 f5 f7 f8 f10 f11 f12 kz_0_170 ex2 ex3
  have nf1 : fc_1 PRD (23, [26, 2, 5, 4], [-888, 1, -1, -1766, 1766]) ws (vs ++ [Value.int x]) := by
    refine ⟨nf_inA hl rfl, sgq_1952 ?_⟩
    · show 1 * v_iv (n_v (vs ++ [Value.int x]) 26) + ((-1) * v_iv (n_v (vs ++ [Value.int x]) 2) + ((-1766) * v_iv (n_v (vs ++ [Value.int x]) 5) + (1766 * v_iv (n_v (vs ++ [Value.int x]) 4) + 0))) ≤ (-888)
      simp only [e_2, e_4, e_5, e_26]
      exact vc_Mo_writeGroup_at_l5_15_1 (v_iv (n_v vs 2)) (v_iv (n_v vs 4)) (v_iv (n_v vs 5)) (v_iv (n_v vs 6)) (v_iv (n_v vs 12)) (v_iv (n_v vs 14)) (v_iv (n_v vs 24)) (w_ei ws (w_ar ws (n_v vs 0) 2)) (w_fi ws (n_v vs 0) 5) (w_fi ws (n_v vs 0) 170) (v_iv (Value.int x)) k2 k4 k5 k6 k12 k14 k24 d0 d1 d2 f0 f1 f2 f3 f5 f7 f8 f10 f11 f12 kz_0_170 ex2 ex3
  exact ⟨(fun _ h => (by cases h)), [Value.int x], ag_one hx, List.forall_mem_cons.mpr ⟨⟨show (20 : Nat) < 100 from by decide, nf0⟩, List.forall_mem_cons.mpr ⟨⟨show (23 : Nat) < 100 from by decide, nf1⟩, (fun _ h => (by cases h))⟩⟩, (fun _ h => (by cases h))⟩
set_option maxHeartbeats 4000000 in
theorem vc_Mo_writeGroup_at_l5_16_0 (x2 : Int) (x4 : Int) (x5 : Int) (x6 : Int) (x12 : Int) (x14 : Int) (x24 : Int) (x26 : Int) (all_0 : Int → Int) (r_0 : Int) (texts_0 : Int) (gx : Int) (k2 : 0 ≤ x2 ∧ x2 ≤ 99995604) (k4 : 5 ≤ x4 ∧ x4 ≤ 6) (k5 : 6 ≤ x5 ∧ x5 ≤ 7) (k6 : 7 ≤ x6 ∧ x6 ≤ 8) (k12 : 5 ≤ x12 ∧ x12 ≤ 6) (k14 : 0 ≤ x14 ∧ x14 ≤ 99999994) (k24 : 0 ≤ x24 ∧ x24 ≤ 99999992) (k26 : 0 ≤ x26 ∧ x26 ≤ 99999997) (d0 : x4 + 0 ≤ x12 ∧ x12 ≤ x4 + 0) (d1 : x6 + (-4294967296) ≤ x5 ∧ x5 ≤ x6 + (-1)) (d2 : x5 + (-4294967296) ≤ x4 ∧ x4 ≤ x5 + (-1)) (f0 : 1 * x26 + ((-1) * x2 + ((-1766) * x5 + (1766 * x4 + 0))) ≤ (-888)) (f1 : 1 * x24 + ((-1) * x2 + ((-1766) * x5 + (1766 * x4 + 0))) ≤ (-896)) (f2 : 1 * x14 + ((-1) * x2 + ((-1766) * x5 + (1766 * x4 + 0))) ≤ (-902)) (f3 : 1 * x6 + ((-1) * all_0 (r_0 + 2) + 0) ≤ 0) (f4 : (-1) * x6 + (1 * all_0 (r_0 + 2) + 0) ≤ 0) (f6 : 1 * texts_0 + ((-1) * x26 + 0) ≤ 3) (f8 : 1 * x26 + ((-1) * x2 + ((-1766) * x5 + (1766 * x4 + 0))) ≤ (-888)) (f9 : 1 * x24 + ((-1) * x2 + ((-1766) * x5 + (1766 * x4 + 0))) ≤ (-896)) (f10 : 1 * x14 + ((-1) * x2 + ((-1766) * x5 + (1766 * x4 + 0))) ≤ (-902)) (f12 : 1 * x24 + ((-1) * x2 + ((-1766) * x5 + (1766 * x4 + 0))) ≤ (-896)) (f13 : 1 * x14 + ((-1) * x2 + ((-1766) * x5 + (1766 * x4 + 0))) ≤ (-902)) (f15 : 1 * x14 + ((-1) * x2 + ((-1766) * x5 + (1766 * x4 + 0))) ≤ (-902)) (f16 : x12 = x4) (f17 : x5 < x6) (kz_0_170 : 0 ≤ texts_0 ∧ texts_0 ≤ 100000000) (ex2 : gx = texts_0) (ex3 : 0 ≤ gx ∧ gx ≤ 99998253) : 1 * texts_0 + ((-1) * gx + 0) ≤ 0 := by
  first | assumption | omega | grind
set_option maxHeartbeats 4000000 in
theorem vc_Mo_writeGroup_at_l5_16_1 (x2 : Int) (x4 : Int) (x5 : Int) (x6 : Int) (x12 : Int) (x14 : Int) (x24 : Int) (x26 : Int) (all_0 : Int → Int) (r_0 : Int) (texts_0 : Int) (gx : Int) (k2 : 0 ≤ x2 ∧ x2 ≤ 99995604) (k4 : 5 ≤ x4 ∧ x4 ≤ 6) (k5 : 6 ≤ x5 ∧ x5 ≤ 7) (k6 : 7 ≤ x6 ∧ x6 ≤ 8) (k12 : 5 ≤ x12 ∧ x12 ≤ 6) (k14 : 0 ≤ x14 ∧ x14 ≤ 99999994) (k24 : 0 ≤ x24 ∧ x24 ≤ 99999992) (k26 : 0 ≤ x26 ∧ x26 ≤ 99999997) (d0 : x4 + 0 ≤ x12 ∧ x12 ≤ x4 + 0) (d1 : x6 + (-4294967296) ≤ x5 ∧ x5 ≤ x6 + (-1)) (d2 : x5 + (-4294967296) ≤ x4 ∧ x4 ≤ x5 + (-1)) (f0 : 1 * x26 + ((-1) * x2 + ((-1766) * x5 + (1766 * x4 + 0))) ≤ (-888)) (f1 : 1 * x24 + ((-1) * x2 + ((-1766) * x5 + (1766 * x4 + 0))) ≤ (-896)) (f2 : 1 * x14 + ((-1) * x2 + ((-1766) * x5 + (1766 * x4 + 0))) ≤ (-902)) (f3 : 1 * x6 + ((-1) * all_0 (r_0 + 2) + 0) ≤ 0) (f4 : (-1) * x6 + (1 * all_0 (r_0 + 2) + 0) ≤ 0) (f6 : 1 * texts_0 + ((-1) * x26 + 0) ≤ 3) (f8 : 1 * x26 + ((-1) * x2 + ((-1766) * x5 + (1766 * x4 + 0))) ≤ (-888)) (f9 : 1 * x24 + ((-1) * x2 + ((-1766) * x5 + (1766 * x4 + 0))) ≤ (-896)) (f10 : 1 * x14 + ((-1) * x2 + ((-1766) * x5 + (1766 * x4 + 0))) ≤ (-902)) (f12 : 1 * x24 + ((-1) * x2 + ((-1766) * x5 + (1766 * x4 + 0))) ≤ (-896)) (f13 : 1 * x14 + ((-1) * x2 + ((-1766) * x5 + (1766 * x4 + 0))) ≤ (-902)) (f15 : 1 * x14 + ((-1) * x2 + ((-1766) * x5 + (1766 * x4 + 0))) ≤ (-902)) (f16 : x12 = x4) (f17 : x5 < x6) (kz_0_170 : 0 ≤ texts_0 ∧ texts_0 ≤ 100000000) (ex2 : gx = texts_0) (ex3 : 0 ≤ gx ∧ gx ≤ 99998253) : 1 * gx + ((-1) * x2 + ((-1766) * x5 + (1766 * x4 + 0))) ≤ (-885) := by
  first | assumption | omega | grind
def o_Mo_writeGroup_at_l5_16 : or_T := (161, 27, [(0, (2, 0, 0, [165])), (2, (0, 0, 99995604, [])), (3, (2, 0, 0, [165])), (4, (0, 5, 6, [])), (5, (0, 6, 7, [])), (6, (0, 7, 8, [])), (12, (0, 5, 6, [])), (14, (0, 0, 99999994, [])), (24, (0, 0, 99999992, [])), (26, (0, 0, 99999997, []))], [(23, [26, 2, 5, 4], [-888, 1, -1, -1766, 1766]), (23, [24, 2, 5, 4], [-896, 1, -1, -1766, 1766]), (23, [14, 2, 5, 4], [-902, 1, -1, -1766, 1766]), (20, [6, 3], [30, 0, 1, 0, 0, -1, 3, 2005002]), (20, [6, 3], [30, 0, -1, 0, 0, 1, 3, 2005002]), (24, [0, 3], []), (20, [3, 26], [30, 3, 1, 1, 170, -1, 0, 0]), (102, [26], [7770675568902916283677847627294075626569627356208558085007249638955617140820833992704, 165170]), (23, [26, 2, 5, 4], [-888, 1, -1, -1766, 1766]), (23, [24, 2, 5, 4], [-896, 1, -1, -1766, 1766]), (23, [14, 2, 5, 4], [-902, 1, -1, -1766, 1766]), (102, [24], [7770675568902916283677847627294075626569627356208558085007249638955617140820833992704, 165170]), (23, [24, 2, 5, 4], [-896, 1, -1, -1766, 1766]), (23, [14, 2, 5, 4], [-902, 1, -1, -1766, 1766]), (102, [14], [7770675568902916283677847627294075626569627356208558085007249638955617140820833992704, 165170]), (23, [14, 2, 5, 4], [-902, 1, -1, -1766, 1766]), (7, [12, 4], [0]), (7, [5, 6], [2])], [], [(0, 0, 99998253, [])], [(20, [3, 27], [30, 0, 1, 1, 170, -1, 0, 0]), (23, [27, 2, 5, 4], [-885, 1, -1, -1766, 1766])], [], [(12, 4, 0, 0), (5, 6, -4294967296, -1), (4, 5, -4294967296, -1)])
theorem oo_Mo_writeGroup_at_l5_16 {kA : Nat → ClassId} : or_ok PRD kA GG o_Mo_writeGroup_at_l5_16 := by
  refine or_mk fun A ta ws vs hD hth hl => ?_
  intro t0 r0 t2 k2 t3 r3 t4 k4 t5 k5 t6 k6 t12 k12 t14 k14 t24 k24 t26 k26 d0 d1 d2 f0 f1 f2 f3 f4 f5 f6 ta1 w1 le1 s1 f8 f9 f10 ta2 w2 le2 s2 f12 f13 ta3 w3 le3 s3 f15 f16 f17
  replace f0 := shm_1952 f0
  replace f1 := shm_1951 f1
  replace f2 := shm_1950 f2
  replace f3 := shm_132 f3
  replace f4 := shm_133 f4
  replace f5 := shm_5 f5
  replace f6 := shm_236 f6
  replace f8 := shm_1952 f8
  replace f9 := shm_1951 f9
  replace f10 := shm_1950 f10
  replace f12 := shm_1951 f12
  replace f13 := shm_1950 f13
  replace f15 := shm_1950 f15
  replace f16 := shm_37 f16
  replace f17 := shm_6 f17
  have q3 : n_v vs 3 = n_v vs 0 := f5.symm
  simp only [q3] at f3 f4 f6
  have cr_0_2 := fdq_12 hD hth r0
  have kz_0_170 := fdq_13 hD hth r0
  have kv0 := fdq_13 hD hth r0
  obtain ⟨x, ex, hx⟩ := iv_ex (ta := ta) (lo := 0) (hi := 99998253) (z := w_fi ws (n_v vs 0) 170) (by omega) (by omega) (by omega) (by omega)
  have ex2 : v_iv (Value.int x) = w_fi ws (n_v vs 0) 170 := ex
  have ex3 : 0 ≤ v_iv (Value.int x) ∧ v_iv (Value.int x) ≤ 99998253 := tv_rng hx
  have e_2 : n_v (vs ++ [Value.int x]) 2 = n_v vs 2 := n_v_old (by rw [hl]; decide)
  have e_3 : n_v (vs ++ [Value.int x]) 3 = n_v vs 3 := n_v_old (by rw [hl]; decide)
  have e_4 : n_v (vs ++ [Value.int x]) 4 = n_v vs 4 := n_v_old (by rw [hl]; decide)
  have e_5 : n_v (vs ++ [Value.int x]) 5 = n_v vs 5 := n_v_old (by rw [hl]; decide)
  have e_27 : n_v (vs ++ [Value.int x]) 27 = Value.int x := n_v_new hl
  have nf0 : fc_1 PRD (20, [3, 27], [30, 0, 1, 1, 170, -1, 0, 0]) ws (vs ++ [Value.int x]) := by
    refine ⟨nf_inA hl rfl, sgq_140 ?_⟩
    · show 1 * w_fi ws (n_v (vs ++ [Value.int x]) 3) 170 + ((-1) * v_iv (n_v (vs ++ [Value.int x]) 27) + 0) ≤ 0
      simp only [e_3, e_27, q3]
      exact vc_Mo_writeGroup_at_l5_16_0 (v_iv (n_v vs 2)) (v_iv (n_v vs 4)) (v_iv (n_v vs 5)) (v_iv (n_v vs 6)) (v_iv (n_v vs 12)) (v_iv (n_v vs 14)) (v_iv (n_v vs 24)) (v_iv (n_v vs 26)) (w_ei ws (w_ar ws (n_v vs 0) 2)) (w_fi ws (n_v vs 0) 5) (w_fi ws (n_v vs 0) 170) (v_iv (Value.int x)) k2 k4 k5 k6 k12 k14 k24 k26 d0 d1 d2 f0 f1 f2 f3 f4 f6 f8 f9 f10 f12 f13 f15 f16 f17 kz_0_170 ex2 ex3
  have nf1 : fc_1 PRD (23, [27, 2, 5, 4], [-885, 1, -1, -1766, 1766]) ws (vs ++ [Value.int x]) := by
    refine ⟨nf_inA hl rfl, sgq_1953 ?_⟩
    · show 1 * v_iv (n_v (vs ++ [Value.int x]) 27) + ((-1) * v_iv (n_v (vs ++ [Value.int x]) 2) + ((-1766) * v_iv (n_v (vs ++ [Value.int x]) 5) + (1766 * v_iv (n_v (vs ++ [Value.int x]) 4) + 0))) ≤ (-885)
      simp only [e_2, e_4, e_5, e_27]
      exact vc_Mo_writeGroup_at_l5_16_1 (v_iv (n_v vs 2)) (v_iv (n_v vs 4)) (v_iv (n_v vs 5)) (v_iv (n_v vs 6)) (v_iv (n_v vs 12)) (v_iv (n_v vs 14)) (v_iv (n_v vs 24)) (v_iv (n_v vs 26)) (w_ei ws (w_ar ws (n_v vs 0) 2)) (w_fi ws (n_v vs 0) 5) (w_fi ws (n_v vs 0) 170) (v_iv (Value.int x)) k2 k4 k5 k6 k12 k14 k24 k26 d0 d1 d2 f0 f1 f2 f3 f4 f6 f8 f9 f10 f12 f13 f15 f16 f17 kz_0_170 ex2 ex3
  exact ⟨(fun _ h => (by cases h)), [Value.int x], ag_one hx, List.forall_mem_cons.mpr ⟨⟨show (20 : Nat) < 100 from by decide, nf0⟩, List.forall_mem_cons.mpr ⟨⟨show (23 : Nat) < 100 from by decide, nf1⟩, (fun _ h => (by cases h))⟩⟩, (fun _ h => (by cases h))⟩
set_option maxHeartbeats 4000000 in
theorem vc_Mo_writeGroup_at_l5_17_0 (x2 : Int) (x4 : Int) (x5 : Int) (x6 : Int) (x12 : Int) (x14 : Int) (x24 : Int) (x26 : Int) (x27 : Int) (all_0 : Int → Int) (r_0 : Int) (texts_0 : Int) (gx : Int) (k2 : 0 ≤ x2 ∧ x2 ≤ 99995604) (k4 : 5 ≤ x4 ∧ x4 ≤ 6) (k5 : 6 ≤ x5 ∧ x5 ≤ 7) (k6 : 7 ≤ x6 ∧ x6 ≤ 8) (k12 : 5 ≤ x12 ∧ x12 ≤ 6) (k14 : 0 ≤ x14 ∧ x14 ≤ 99999994) (k24 : 0 ≤ x24 ∧ x24 ≤ 99999992) (k26 : 0 ≤ x26 ∧ x26 ≤ 99999997) (k27 : 0 ≤ x27 ∧ x27 ≤ 99998253) (d0 : x4 + 0 ≤ x12 ∧ x12 ≤ x4 + 0) (d1 : x6 + (-4294967296) ≤ x5 ∧ x5 ≤ x6 + (-1)) (d2 : x5 + (-4294967296) ≤ x4 ∧ x4 ≤ x5 + (-1)) (f0 : 1 * x27 + ((-1) * x2 + ((-1766) * x5 + (1766 * x4 + 0))) ≤ (-885)) (f1 : 1 * x26 + ((-1) * x2 + ((-1766) * x5 + (1766 * x4 + 0))) ≤ (-888)) (f2 : 1 * x24 + ((-1) * x2 + ((-1766) * x5 + (1766 * x4 + 0))) ≤ (-896)) (f3 : 1 * x14 + ((-1) * x2 + ((-1766) * x5 + (1766 * x4 + 0))) ≤ (-902)) (f4 : 1 * x6 + ((-1) * all_0 (r_0 + 2) + 0) ≤ 0) (f5 : (-1) * x6 + (1 * all_0 (r_0 + 2) + 0) ≤ 0) (f7 : 1 * texts_0 + ((-1) * x27 + 0) ≤ 1747) (f9 : 1 * x27 + ((-1) * x2 + ((-1766) * x5 + (1766 * x4 + 0))) ≤ (-885)) (f10 : 1 * x26 + ((-1) * x2 + ((-1766) * x5 + (1766 * x4 + 0))) ≤ (-888)) (f11 : 1 * x24 + ((-1) * x2 + ((-1766) * x5 + (1766 * x4 + 0))) ≤ (-896)) (f12 : 1 * x14 + ((-1) * x2 + ((-1766) * x5 + (1766 * x4 + 0))) ≤ (-902)) (f14 : 1 * x26 + ((-1) * x2 + ((-1766) * x5 + (1766 * x4 + 0))) ≤ (-888)) (f15 : 1 * x24 + ((-1) * x2 + ((-1766) * x5 + (1766 * x4 + 0))) ≤ (-896)) (f16 : 1 * x14 + ((-1) * x2 + ((-1766) * x5 + (1766 * x4 + 0))) ≤ (-902)) (f18 : 1 * x24 + ((-1) * x2 + ((-1766) * x5 + (1766 * x4 + 0))) ≤ (-896)) (f19 : 1 * x14 + ((-1) * x2 + ((-1766) * x5 + (1766 * x4 + 0))) ≤ (-902)) (f21 : 1 * x14 + ((-1) * x2 + ((-1766) * x5 + (1766 * x4 + 0))) ≤ (-902)) (f22 : x12 = x4) (f23 : x5 < x6) (kz_0_170 : 0 ≤ texts_0 ∧ texts_0 ≤ 100000000) (ex2 : gx = texts_0) (ex3 : 0 ≤ gx ∧ gx ≤ 99999998) : 1 * texts_0 + ((-1) * gx + 0) ≤ 0 := by
  first | assumption | omega | grind
set_option maxHeartbeats 4000000 in
theorem vc_Mo_writeGroup_at_l5_17_1 (x2 : Int) (x4 : Int) (x5 : Int) (x6 : Int) (x12 : Int) (x14 : Int) (x24 : Int) (x26 : Int) (x27 : Int) (all_0 : Int → Int) (r_0 : Int) (texts_0 : Int) (gx : Int) (k2 : 0 ≤ x2 ∧ x2 ≤ 99995604) (k4 : 5 ≤ x4 ∧ x4 ≤ 6) (k5 : 6 ≤ x5 ∧ x5 ≤ 7) (k6 : 7 ≤ x6 ∧ x6 ≤ 8) (k12 : 5 ≤ x12 ∧ x12 ≤ 6) (k14 : 0 ≤ x14 ∧ x14 ≤ 99999994) (k24 : 0 ≤ x24 ∧ x24 ≤ 99999992) (k26 : 0 ≤ x26 ∧ x26 ≤ 99999997) (k27 : 0 ≤ x27 ∧ x27 ≤ 99998253) (d0 : x4 + 0 ≤ x12 ∧ x12 ≤ x4 + 0) (d1 : x6 + (-4294967296) ≤ x5 ∧ x5 ≤ x6 + (-1)) (d2 : x5 + (-4294967296) ≤ x4 ∧ x4 ≤ x5 + (-1)) (f0 : 1 * x27 + ((-1) * x2 + ((-1766) * x5 + (1766 * x4 + 0))) ≤ (-885)) (f1 : 1 * x26 + ((-1) * x2 + ((-1766) * x5 + (1766 * x4 + 0))) ≤ (-888)) (f2 : 1 * x24 + ((-1) * x2 + ((-1766) * x5 + (1766 * x4 + 0))) ≤ (-896)) (f3 : 1 * x14 + ((-1) * x2 + ((-1766) * x5 + (1766 * x4 + 0))) ≤ (-902)) (f4 : 1 * x6 + ((-1) * all_0 (r_0 + 2) + 0) ≤ 0) (f5 : (-1) * x6 + (1 * all_0 (r_0 + 2) + 0) ≤ 0) (f7 : 1 * texts_0 + ((-1) * x27 + 0) ≤ 1747) (f9 : 1 * x27 + ((-1) * x2 + ((-1766) * x5 + (1766 * x4 + 0))) ≤ (-885)) (f10 : 1 * x26 + ((-1) * x2 + ((-1766) * x5 + (1766 * x4 + 0))) ≤ (-888)) (f11 : 1 * x24 + ((-1) * x2 + ((-1766) * x5 + (1766 * x4 + 0))) ≤ (-896)) (f12 : 1 * x14 + ((-1) * x2 + ((-1766) * x5 + (1766 * x4 + 0))) ≤ (-902)) (f14 : 1 * x26 + ((-1) * x2 + ((-1766) * x5 + (1766 * x4 + 0))) ≤ (-888)) (f15 : 1 * x24 + ((-1) * x2 + ((-1766) * x5 + (1766 * x4 + 0))) ≤ (-896)) (f16 : 1 * x14 + ((-1) * x2 + ((-1766) * x5 + (1766 * x4 + 0))) ≤ (-902)) (f18 : 1 * x24 + ((-1) * x2 + ((-1766) * x5 + (1766 * x4 + 0))) ≤ (-896)) (f19 : 1 * x14 + ((-1) * x2 + ((-1766) * x5 + (1766 * x4 + 0))) ≤ (-902)) (f21 : 1 * x14 + ((-1) * x2 + ((-1766) * x5 + (1766 * x4 + 0))) ≤ (-902)) (f22 : x12 = x4) (f23 : x5 < x6) (kz_0_170 : 0 ≤ texts_0 ∧ texts_0 ≤ 100000000) (ex2 : gx = texts_0) (ex3 : 0 ≤ gx ∧ gx ≤ 99999998) : 1 * gx + ((-1) * x2 + ((-1766) * x5 + (1766 * x4 + 0))) ≤ 862 := by
  first | assumption | omega | grind
def o_Mo_writeGroup_at_l5_17 : or_T := (168, 29, [(0, (2, 0, 0, [165])), (2, (0, 0, 99995604, [])), (3, (2, 0, 0, [165])), (4, (0, 5, 6, [])), (5, (0, 6, 7, [])), (6, (0, 7, 8, [])), (12, (0, 5, 6, [])), (14, (0, 0, 99999994, [])), (24, (0, 0, 99999992, [])), (26, (0, 0, 99999997, [])), (27, (0, 0, 99998253, []))], [(23, [27, 2, 5, 4], [-885, 1, -1, -1766, 1766]), (23, [26, 2, 5, 4], [-888, 1, -1, -1766, 1766]), (23, [24, 2, 5, 4], [-896, 1, -1, -1766, 1766]), (23, [14, 2, 5, 4], [-902, 1, -1, -1766, 1766]), (20, [6, 3], [30, 0, 1, 0, 0, -1, 3, 2005002]), (20, [6, 3], [30, 0, -1, 0, 0, 1, 3, 2005002]), (24, [0, 3], []), (20, [3, 27], [30, 1747, 1, 1, 170, -1, 0, 0]), (102, [27], [7770675568902916283677847627294075626569627356208558085007249638955617140820833992704, 165170]), (23, [27, 2, 5, 4], [-885, 1, -1, -1766, 1766]), (23, [26, 2, 5, 4], [-888, 1, -1, -1766, 1766]), (23, [24, 2, 5, 4], [-896, 1, -1, -1766, 1766]), (23, [14, 2, 5, 4], [-902, 1, -1, -1766, 1766]), (102, [26], [7770675568902916283677847627294075626569627356208558085007249638955617140820833992704, 165170]), (23, [26, 2, 5, 4], [-888, 1, -1, -1766, 1766]), (23, [24, 2, 5, 4], [-896, 1, -1, -1766, 1766]), (23, [14, 2, 5, 4], [-902, 1, -1, -1766, 1766]), (102, [24], [7770675568902916283677847627294075626569627356208558085007249638955617140820833992704, 165170]), (23, [24, 2, 5, 4], [-896, 1, -1, -1766, 1766]), (23, [14, 2, 5, 4], [-902, 1, -1, -1766, 1766]), (102, [14], [7770675568902916283677847627294075626569627356208558085007249638955617140820833992704, 165170]), (23, [14, 2, 5, 4], [-902, 1, -1, -1766, 1766]), (7, [12, 4], [0]), (7, [5, 6], [2])], [], [(0, 0, 99999998, [])], [(20, [3, 29], [30, 0, 1, 1, 170, -1, 0, 0]), (23, [29, 2, 5, 4], [862, 1, -1, -1766, 1766])], [], [(12, 4, 0, 0), (5, 6, -4294967296, -1), (4, 5, -4294967296, -1)])
theorem oo_Mo_writeGroup_at_l5_17 {kA : Nat → ClassId} : or_ok PRD kA GG o_Mo_writeGroup_at_l5_17 := by
  refine or_mk fun A ta ws vs hD hth hl => ?_
  intro t0 r0 t2 k2 t3 r3 t4 k4 t5 k5 t6 k6 t12 k12 t14 k14 t24 k24 t26 k26 t27 k27 d0 d1 d2 f0 f1 f2 f3 f4 f5 f6 f7 ta1 w1 le1 s1 f9 f10 f11 f12 ta2 w2 le2 s2 f14 f15 f16 ta3 w3 le3 s3 f18 f19 ta4 w4 le4 s4 f21 f22 f23
  replace f0 := shm_1953 f0
  replace f1 := shm_1952 f1
  replace f2 := shm_1951 f2
  replace f3 := shm_1950 f3
  replace f4 := shm_132 f4
  replace f5 := shm_133 f5
  replace f6 := shm_5 f6
  replace f7 := shm_1954 f7
  replace f9 := shm_1953 f9
  replace f10 := shm_1952 f10
  replace f11 := shm_1951 f11
  replace f12 := shm_1950 f12
  replace f14 := shm_1952 f14
  replace f15 := shm_1951 f15
  replace f16 := shm_1950 f16
  replace f18 := shm_1951 f18
  replace f19 := shm_1950 f19
  replace f21 := shm_1950 f21
  replace f22 := shm_37 f22
  replace f23 := shm_6 f23
  have q3 : n_v vs 3 = n_v vs 0 := f6.symm
  simp only [q3] at f4 f5 f7
  have cr_0_2 := fdq_12 hD hth r0
  have kz_0_170 := fdq_13 hD hth r0
  have kv0 := fdq_13 hD hth r0
  obtain ⟨x, ex, hx⟩ := iv_ex (ta := ta) (lo := 0) (hi := 99999998) (z := w_fi ws (n_v vs 0) 170) (by omega) (by omega) (by omega) (by omega)
  have ex2 : v_iv (Value.int x) = w_fi ws (n_v vs 0) 170 := ex
  have ex3 : 0 ≤ v_iv (Value.int x) ∧ v_iv (Value.int x) ≤ 99999998 := tv_rng hx
  have e_2 : n_v (vs ++ [Value.int x]) 2 = n_v vs 2 := n_v_old (by rw [hl]; decide)
  have e_3 : n_v (vs ++ [Value.int x]) 3 = n_v vs 3 := n_v_old (by rw [hl]; decide)
  have e_4 : n_v (vs ++ [Value.int x]) 4 = n_v vs 4 := n_v_old (by rw [hl]; decide)
  have e_5 : n_v (vs ++ [Value.int x]) 5 = n_v vs 5 := n_v_old (by rw [hl]; decide)
  have e_29 : n_v (vs ++ [Value.int x]) 29 = Value.int x := n_v_new hl
  have nf0 : fc_1 PRD (20, [3, 29], [30, 0, 1, 1, 170, -1, 0, 0]) ws (vs ++ [Value.int x]) := by
    refine ⟨nf_inA hl rfl, sgq_140 ?_⟩
    · show 1 * w_fi ws (n_v (vs ++ [Value.int x]) 3) 170 + ((-1) * v_iv (n_v (vs ++ [Value.int x]) 29) + 0) ≤ 0
      simp only [e_3, e_29, q3]
      exact vc_Mo_writeGroup_at_l5_17_0 (v_iv (n_v vs 2)) (v_iv (n_v vs 4)) (v_iv (n_v vs 5)) (v_iv (n_v vs 6)) (v_iv (n_v vs 12)) (v_iv (n_v vs 14)) (v_iv (n_v vs 24)) (v_iv (n_v vs 26)) (v_iv (n_v vs 27)) (w_ei ws (w_ar ws (n_v vs 0) 2)) (w_fi ws (n_v vs 0) 5) (w_fi ws (n_v vs 0) 170) (v_iv (Value.int x)) k2 k4 k5 k6 k12 k14 k24 k26 k27 d0 d1 d2 f0 f1 f2 f3 f4 f5 f7 f9 f10 f11 f12 f14 f15 f16 f18 f19 f21 f22 f23 kz_0_170 ex2 ex3
  have nf1 : fc_1 PRD (23, [29, 2, 5, 4], [862, 1, -1, -1766, 1766]) ws (vs ++ [Value.int x]) := by
    refine ⟨nf_inA hl rfl, sgq_1955 ?_⟩
    · show 1 * v_iv (n_v (vs ++ [Value.int x]) 29) + ((-1) * v_iv (n_v (vs ++ [Value.int x]) 2) + ((-1766) * v_iv (n_v (vs ++ [Value.int x]) 5) + (1766 * v_iv (n_v (vs ++ [Value.int x]) 4) + 0))) ≤ 862
      simp only [e_2, e_4, e_5, e_29]
      exact vc_Mo_writeGroup_at_l5_17_1 (v_iv (n_v vs 2)) (v_iv (n_v vs 4)) (v_iv (n_v vs 5)) (v_iv (n_v vs 6)) (v_iv (n_v vs 12)) (v_iv (n_v vs 14)) (v_iv (n_v vs 24)) (v_iv (n_v vs 26)) (v_iv (n_v vs 27)) (w_ei ws (w_ar ws (n_v vs 0) 2)) (w_fi ws (n_v vs 0) 5) (w_fi ws (n_v vs 0) 170) (v_iv (Value.int x)) k2 k4 k5 k6 k12 k14 k24 k26 k27 d0 d1 d2 f0 f1 f2 f3 f4 f5 f7 f9 f10 f11 f12 f14 f15 f16 f18 f19 f21 f22 f23 kz_0_170 ex2 ex3
  exact ⟨(fun _ h => (by cases h)), [Value.int x], ag_one hx, List.forall_mem_cons.mpr ⟨⟨show (20 : Nat) < 100 from by decide, nf0⟩, List.forall_mem_cons.mpr ⟨⟨show (23 : Nat) < 100 from by decide, nf1⟩, (fun _ h => (by cases h))⟩⟩, (fun _ h => (by cases h))⟩
set_option maxHeartbeats 4000000 in
theorem vc_Mo_writeGroup_at_l5_18_0 (x2 : Int) (x4 : Int) (x5 : Int) (x6 : Int) (x12 : Int) (x14 : Int) (x24 : Int) (x26 : Int) (x27 : Int) (x29 : Int) (x30 : Int) (all_0 : Int → Int) (r_0 : Int) (texts_0 : Int) (k2 : 0 ≤ x2 ∧ x2 ≤ 99995604) (k4 : 5 ≤ x4 ∧ x4 ≤ 6) (k5 : 6 ≤ x5 ∧ x5 ≤ 7) (k6 : 7 ≤ x6 ∧ x6 ≤ 8) (k12 : 5 ≤ x12 ∧ x12 ≤ 6) (k14 : 0 ≤ x14 ∧ x14 ≤ 99999994) (k24 : 0 ≤ x24 ∧ x24 ≤ 99999992) (k26 : 0 ≤ x26 ∧ x26 ≤ 99999997) (k27 : 0 ≤ x27 ∧ x27 ≤ 99998253) (k29 : 0 ≤ x29 ∧ x29 ≤ 99999998) (k30 : 7 ≤ x30 ∧ x30 ≤ 8) (d0 : x5 + 1 ≤ x30 ∧ x30 ≤ x5 + 1) (d1 : x6 + (-4294967296) ≤ x30 ∧ x30 ≤ x6 + 0) (d2 : x4 + 0 ≤ x12 ∧ x12 ≤ x4 + 0) (d3 : x6 + (-4294967296) ≤ x5 ∧ x5 ≤ x6 + (-1)) (d4 : x5 + (-4294967296) ≤ x4 ∧ x4 ≤ x5 + (-1)) (f0 : x30 = x5 + 1) (f1 : 1 * x29 + ((-1) * x2 + ((-1766) * x5 + (1766 * x4 + 0))) ≤ 862) (f2 : 1 * x27 + ((-1) * x2 + ((-1766) * x5 + (1766 * x4 + 0))) ≤ (-885)) (f3 : 1 * x26 + ((-1) * x2 + ((-1766) * x5 + (1766 * x4 + 0))) ≤ (-888)) (f4 : 1 * x24 + ((-1) * x2 + ((-1766) * x5 + (1766 * x4 + 0))) ≤ (-896)) (f5 : 1 * x14 + ((-1) * x2 + ((-1766) * x5 + (1766 * x4 + 0))) ≤ (-902)) (f6 : 1 * x6 + ((-1) * all_0 (r_0 + 2) + 0) ≤ 0) (f7 : (-1) * x6 + (1 * all_0 (r_0 + 2) + 0) ≤ 0) (f9 : 1 * texts_0 + ((-1) * x29 + 0) ≤ 2) (f11 : 1 * x29 + ((-1) * x2 + ((-1766) * x5 + (1766 * x4 + 0))) ≤ 862) (f12 : 1 * x27 + ((-1) * x2 + ((-1766) * x5 + (1766 * x4 + 0))) ≤ (-885)) (f13 : 1 * x26 + ((-1) * x2 + ((-1766) * x5 + (1766 * x4 + 0))) ≤ (-888)) (f14 : 1 * x24 + ((-1) * x2 + ((-1766) * x5 + (1766 * x4 + 0))) ≤ (-896)) (f15 : 1 * x14 + ((-1) * x2 + ((-1766) * x5 + (1766 * x4 + 0))) ≤ (-902)) (f17 : 1 * x27 + ((-1) * x2 + ((-1766) * x5 + (1766 * x4 + 0))) ≤ (-885)) (f18 : 1 * x26 + ((-1) * x2 + ((-1766) * x5 + (1766 * x4 + 0))) ≤ (-888)) (f19 : 1 * x24 + ((-1) * x2 + ((-1766) * x5 + (1766 * x4 + 0))) ≤ (-896)) (f20 : 1 * x14 + ((-1) * x2 + ((-1766) * x5 + (1766 * x4 + 0))) ≤ (-902)) (f22 : 1 * x26 + ((-1) * x2 + ((-1766) * x5 + (1766 * x4 + 0))) ≤ (-888)) (f23 : 1 * x24 + ((-1) * x2 + ((-1766) * x5 + (1766 * x4 + 0))) ≤ (-896)) (f24 : 1 * x14 + ((-1) * x2 + ((-1766) * x5 + (1766 * x4 + 0))) ≤ (-902)) (f26 : 1 * x24 + ((-1) * x2 + ((-1766) * x5 + (1766 * x4 + 0))) ≤ (-896)) (f27 : 1 * x14 + ((-1) * x2 + ((-1766) * x5 + (1766 * x4 + 0))) ≤ (-902)) (f29 : 1 * x14 + ((-1) * x2 + ((-1766) * x5 + (1766 * x4 + 0))) ≤ (-902)) (f30 : x12 = x4) (f31 : x5 < x6) (kz_0_170 : 0 ≤ texts_0 ∧ texts_0 ≤ 100000000) : 1 * texts_0 + ((-1) * x2 + ((-1766) * x30 + (1766 * x4 + 0))) ≤ (-902) := by
  first | assumption | omega | grind
def o_Mo_writeGroup_at_l5_18 : or_T := (83, 31, [(0, (2, 0, 0, [165])), (2, (0, 0, 99995604, [])), (4, (0, 5, 6, [])), (5, (0, 6, 7, [])), (6, (0, 7, 8, [])), (12, (0, 5, 6, [])), (14, (0, 0, 99999994, [])), (24, (0, 0, 99999992, [])), (26, (0, 0, 99999997, [])), (27, (0, 0, 99998253, [])), (29, (0, 0, 99999998, [])), (30, (0, 7, 8, []))], [(6, [30, 5], [1]), (23, [29, 2, 5, 4], [862, 1, -1, -1766, 1766]), (23, [27, 2, 5, 4], [-885, 1, -1, -1766, 1766]), (23, [26, 2, 5, 4], [-888, 1, -1, -1766, 1766]), (23, [24, 2, 5, 4], [-896, 1, -1, -1766, 1766]), (23, [14, 2, 5, 4], [-902, 1, -1, -1766, 1766]), (20, [6, 3], [30, 0, 1, 0, 0, -1, 3, 2005002]), (20, [6, 3], [30, 0, -1, 0, 0, 1, 3, 2005002]), (24, [0, 3], []), (20, [3, 29], [30, 2, 1, 1, 170, -1, 0, 0]), (102, [29], [7770675568902916283677847627294075626569627356208558085007249638955617140820833992704, 165170]), (23, [29, 2, 5, 4], [862, 1, -1, -1766, 1766]), (23, [27, 2, 5, 4], [-885, 1, -1, -1766, 1766]), (23, [26, 2, 5, 4], [-888, 1, -1, -1766, 1766]), (23, [24, 2, 5, 4], [-896, 1, -1, -1766, 1766]), (23, [14, 2, 5, 4], [-902, 1, -1, -1766, 1766]), (102, [27], [7770675568902916283677847627294075626569627356208558085007249638955617140820833992704, 165170]), (23, [27, 2, 5, 4], [-885, 1, -1, -1766, 1766]), (23, [26, 2, 5, 4], [-888, 1, -1, -1766, 1766]), (23, [24, 2, 5, 4], [-896, 1, -1, -1766, 1766]), (23, [14, 2, 5, 4], [-902, 1, -1, -1766, 1766]), (102, [26], [7770675568902916283677847627294075626569627356208558085007249638955617140820833992704, 165170]), (23, [26, 2, 5, 4], [-888, 1, -1, -1766, 1766]), (23, [24, 2, 5, 4], [-896, 1, -1, -1766, 1766]), (23, [14, 2, 5, 4], [-902, 1, -1, -1766, 1766]), (102, [24], [7770675568902916283677847627294075626569627356208558085007249638955617140820833992704, 165170]), (23, [24, 2, 5, 4], [-896, 1, -1, -1766, 1766]), (23, [14, 2, 5, 4], [-902, 1, -1, -1766, 1766]), (102, [14], [7770675568902916283677847627294075626569627356208558085007249638955617140820833992704, 165170]), (23, [14, 2, 5, 4], [-902, 1, -1, -1766, 1766]), (7, [12, 4], [0]), (7, [5, 6], [2])], [], [], [(20, [3, 2, 30, 4], [30, -902, 1, 1, 170, -1, 0, 0, -1766, 0, 0, 1766, 0, 0])], [], [(30, 5, 1, 1), (30, 6, -4294967296, 0), (12, 4, 0, 0), (5, 6, -4294967296, -1), (4, 5, -4294967296, -1)])
theorem oo_Mo_writeGroup_at_l5_18 {kA : Nat → ClassId} : or_ok PRD kA GG o_Mo_writeGroup_at_l5_18 := by
  refine or_mk fun A ta ws vs hD hth hl => ?_
  intro t0 r0 t2 k2 t4 k4 t5 k5 t6 k6 t12 k12 t14 k14 t24 k24 t26 k26 t27 k27 t29 k29 t30 k30 d0 d1 d2 d3 d4 f0 f1 f2 f3 f4 f5 f6 f7 f8 f9 ta1 w1 le1 s1 f11 f12 f13 f14 f15 ta2 w2 le2 s2 f17 f18 f19 f20 ta3 w3 le3 s3 f22 f23 f24 ta4 w4 le4 s4 f26 f27 ta5 w5 le5 s5 f29 f30 f31
  replace f0 := shm_4 f0
  replace f1 := shm_1955 f1
  replace f2 := shm_1953 f2
  replace f3 := shm_1952 f3
  replace f4 := shm_1951 f4
  replace f5 := shm_1950 f5
  replace f6 := shm_132 f6
  replace f7 := shm_133 f7
  replace f8 := shm_5 f8
  replace f9 := shm_234 f9
  replace f11 := shm_1955 f11
  replace f12 := shm_1953 f12
  replace f13 := shm_1952 f13
  replace f14 := shm_1951 f14
  replace f15 := shm_1950 f15
  replace f17 := shm_1953 f17
  replace f18 := shm_1952 f18
  replace f19 := shm_1951 f19
  replace f20 := shm_1950 f20
  replace f22 := shm_1952 f22
  replace f23 := shm_1951 f23
  replace f24 := shm_1950 f24
  replace f26 := shm_1951 f26
  replace f27 := shm_1950 f27
  replace f29 := shm_1950 f29
  replace f30 := shm_37 f30
  replace f31 := shm_6 f31
  have q3 : n_v vs 3 = n_v vs 0 := f8.symm
  simp only [q3] at f6 f7 f9
  have kz_0_170 := fdq_13 hD hth r0
  have nf0 : fc_1 PRD (20, [3, 2, 30, 4], [30, -902, 1, 1, 170, -1, 0, 0, -1766, 0, 0, 1766, 0, 0]) ws (vs) := by
    refine ⟨nf_in hl rfl, sgq_1949 ?_⟩
    · show 1 * w_fi ws (n_v vs 3) 170 + ((-1) * v_iv (n_v vs 2) + ((-1766) * v_iv (n_v vs 30) + (1766 * v_iv (n_v vs 4) + 0))) ≤ (-902)
      rw [q3]
      exact vc_Mo_writeGroup_at_l5_18_0 (v_iv (n_v vs 2)) (v_iv (n_v vs 4)) (v_iv (n_v vs 5)) (v_iv (n_v vs 6)) (v_iv (n_v vs 12)) (v_iv (n_v vs 14)) (v_iv (n_v vs 24)) (v_iv (n_v vs 26)) (v_iv (n_v vs 27)) (v_iv (n_v vs 29)) (v_iv (n_v vs 30)) (w_ei ws (w_ar ws (n_v vs 0) 2)) (w_fi ws (n_v vs 0) 5) (w_fi ws (n_v vs 0) 170) k2 k4 k5 k6 k12 k14 k24 k26 k27 k29 k30 d0 d1 d2 d3 d4 f0 f1 f2 f3 f4 f5 f6 f7 f9 f11 f12 f13 f14 f15 f17 f18 f19 f20 f22 f23 f24 f26 f27 f29 f30 f31 kz_0_170
  refine ⟨(fun _ h => (by cases h)), [], trivial, ?_, (fun _ h => (by cases h))⟩
  rw [List.append_nil]
  exact List.forall_mem_cons.mpr ⟨⟨show (20 : Nat) < 100 from by decide, nf0⟩, (fun _ h => (by cases h))⟩
def o_Mo_writeGroup_at_l5_19 : or_T := (83, 14, [(0, (2, 0, 0, [165])), (2, (0, 0, 99995604, [])), (3, (2, 0, 0, [165])), (4, (0, 5, 6, [])), (5, (0, 6, 7, [])), (6, (0, 7, 8, [])), (7, (2, 0, 0, [167])), (8, (0, 0, 66297, [])), (9, (0, 531, 531, [])), (10, (0, 531, 66828, [])), (11, (0, 537, 66835, [])), (12, (0, -1, 6, [])), (13, (0, 7, 8, []))], [(6, [13, 5], [1]), (7, [12, 4], [1]), (10, [12, 7, 11], []), (1, [11, 10, 5], []), (1, [10, 8, 9], []), (9, [8, 3], [5]), (9, [7, 3], [2]), (7, [5, 6], [2]), (20, [6, 3], [30, 0, 1, 0, 0, -1, 3, 2005002]), (20, [6, 3], [30, 0, -1, 0, 0, 1, 3, 2005002]), (20, [3, 2, 5, 4], [30, -902, 1, 1, 170, -1, 0, 0, -1766, 0, 0, 1766, 0, 0]), (24, [0, 3], [])], [], [], [(20, [3, 2, 13, 4], [30, -902, 1, 1, 170, -1, 0, 0, -1766, 0, 0, 1766, 0, 0])], [], [(13, 5, 1, 1), (13, 6, -4294967296, 0), (11, 5, 531, 66828), (11, 6, -4294967296, 66827), (11, 10, 6, 7), (11, 8, 537, 538), (10, 8, 531, 531), (5, 6, -4294967296, -1), (4, 5, -4294967296, -1)])
theorem oo_Mo_writeGroup_at_l5_19 {kA : Nat → ClassId} : or_ok PRD kA GG o_Mo_writeGroup_at_l5_19 := by
  refine or_mk fun A ta ws vs hD hth hl => ?_
  intro t0 r0 t2 k2 t3 r3 t4 k4 t5 k5 t6 k6 t7 r7 t8 k8 t9 k9 t10 k10 t11 k11 t12 k12 t13 k13 d0 d1 d2 d3 d4 d5 d6 d7 d8 f0 f1 f2 f3 f4 f5 f6 f7 f8 f9 f10 f11
  replace f0 := shm_4 f0
  replace f1 := shm_40 f1
  replace f2 := shm_106 f2
  replace f3 := shm_12 f3
  replace f4 := shm_12 f4
  replace f5 := shm_109 f5
  replace f6 := shm_129 f6
  replace f7 := shm_6 f7
  replace f8 := shm_132 f8
  replace f9 := shm_133 f9
  replace f10 := shm_1949 f10
  replace f11 := shm_5 f11
  have q3 : n_v vs 3 = n_v vs 0 := f11.symm
  simp only [q3] at f5 f6 f8 f9 f10
  have cr_0_2 := fdq_12 hD hth r0
  have ad_7 : v_ad (n_v vs 7) = w_ar ws (n_v vs 0) 2 := congrArg v_ad f6
  simp only [ad_7] at f2
  have h2 : v_iv (n_v vs 12) = w_ei ws (w_ar ws (n_v vs 0) 2) (v_iv (n_v vs 11)) := f2
  have g5 : v_iv (n_v vs 8) = w_fi ws (n_v vs 0) 5 := congrArg v_iv f5
  have cg2_F5_2 : v_iv (n_v vs 11) = w_fi ws (n_v vs 0) 5 + 2 → w_el ws (w_ar ws (n_v vs 0) 2) (v_iv (n_v vs 11)).toNat = w_el ws (w_ar ws (n_v vs 0) 2) (w_fi ws (n_v vs 0) 5 + 2).toNat := fun h => by rw [h]
  have kz_0_170 := fdq_13 hD hth r0
  have nf0 : fc_1 PRD (20, [3, 2, 13, 4], [30, -902, 1, 1, 170, -1, 0, 0, -1766, 0, 0, 1766, 0, 0]) ws (vs) := by
    refine ⟨nf_in hl rfl, sgq_1949 ?_⟩
    · show 1 * w_fi ws (n_v vs 3) 170 + ((-1) * v_iv (n_v vs 2) + ((-1766) * v_iv (n_v vs 13) + (1766 * v_iv (n_v vs 4) + 0))) ≤ (-902)
      rw [q3]
      omega
  refine ⟨(fun _ h => (by cases h)), [], trivial, ?_, (fun _ h => (by cases h))⟩
  rw [List.append_nil]
  exact List.forall_mem_cons.mpr ⟨⟨show (20 : Nat) < 100 from by decide, nf0⟩, (fun _ h => (by cases h))⟩
def n_Mo_writeGroup_at_l5_an : List an_T := [(2, [(0, (2, 0, 0, [165])), (1, (0, 5, 7, [])), (2, (0, 0, 24, []))], [], (0, 0), [(0, 0, 99998), (1, 5, 24), (0, 0, 100000)], [(1, 4, (Int.negSucc 999999999999), 0), (4, 1, (Int.negSucc 999999999999), 0)], [], [(2, 0, 0, [165]), (0, 5, 7, []), (0, 0, 99995604, [])], 0, [], [(20, [3, 2, 5], [30, 0, 1, 1, 170, (Int.negSucc 0), 0, 0, (Int.negSucc 35), 0, 0]), (24, [0, 3], [])]), (83, [(0, (2, 0, 0, [165])), (1, (0, 5, 7, [])), (2, (0, 6, 8, []))], [], (0, 0), [(0, 0, 99917), (1, 5, 8), (0, 0, 100000)], [(1, 4, (Int.negSucc 999999999999), 0), (1, 5, (Int.negSucc 999999999999), (Int.negSucc 0)), (4, 1, (Int.negSucc 999999999999), 0), (4, 5, (Int.negSucc 999999999999), (Int.negSucc 0))], [], [(2, 0, 0, [165]), (0, 5, 7, []), (0, 0, 99995604, [])], 0, [], [(20, [3, 2, 5, 4], [30, (Int.negSucc 901), 1, 1, 170, (Int.negSucc 0), 0, 0, (Int.negSucc 1765), 0, 0, 1766, 0, 0]), (24, [0, 3], [])])]
def t_Mo_writeGroup_at_l5_ct : ct_L := [(1, 475, e_Mo_nodes), (1, 509, e_Mo_groups), (1, 723, e_Mo_size), (1, 725, e_Mo_groupOf), (1, 1285, e_Mo_writeName), (1, 1293, e_Mo_writeNode), (1, 1298, e_Mo_writeNumber), (82, 1290, e_Mo_write_at_s5013), (145, 1290, e_Mo_write_at_s5014), (193, 1290, e_Mo_write_at_s5045), (214, 1290, e_Mo_write_at_s5015), (355, 1290, e_Mo_write_at_s5016), (472, 1290, e_Mo_write_at_s5017), (487, 1309, e_Mo_writeGroup_at_l6), (508, 1290, e_Mo_write_at_s5018), (1000001, 1288, en_ro [] (2, 0, 0, [5013])), (1000001, 1296, en_ro [] (2, 0, 0, [5014])), (1000001, 1301, en_ro [] (2, 0, 0, [5045])), (1000001, 1303, en_ro [] (2, 0, 0, [5015])), (1000001, 1305, en_ro [] (2, 0, 0, [5016])), (1000001, 1307, en_ro [] (2, 0, 0, [5017])), (1000001, 1312, en_ro [] (2, 0, 0, [5018]))]
set_option maxRecDepth 100000 in
theorem c_Mo_writeGroup_at_l5 {l : Launch} {D : va_G} {kA : Nat → ClassId} (h_Mo_groupOf : ct_ok PRD l D kA GG y_Mo_groupOf z_Mo_groupOf e_Mo_groupOf) (h_Mo_groups : ct_ok PRD l D kA GG y_Mo_groups z_Mo_groups e_Mo_groups) (h_Mo_nodes : ct_ok PRD l D kA GG y_Mo_nodes z_Mo_nodes e_Mo_nodes) (h_Mo_size : ct_ok PRD l D kA GG y_Mo_size z_Mo_size e_Mo_size) (h_Mo_writeGroup_at_l6 : ct_ok PRD l D kA GG y_Mo_writeGroup_at_l6 z_Mo_writeGroup_at_l6 e_Mo_writeGroup_at_l6) (h_Mo_writeName : ct_ok PRD l D kA GG y_Mo_writeName z_Mo_writeName e_Mo_writeName) (h_Mo_writeNode : ct_ok PRD l D kA GG y_Mo_writeNode z_Mo_writeNode e_Mo_writeNode) (h_Mo_writeNumber : ct_ok PRD l D kA GG y_Mo_writeNumber z_Mo_writeNumber e_Mo_writeNumber) (h_Mo_write_at_s5013 : ct_ok PRD l D kA GG y_Mo_write_at_s5013 z_Mo_write_at_s5013 e_Mo_write_at_s5013) (h_Mo_write_at_s5014 : ct_ok PRD l D kA GG y_Mo_write_at_s5014 z_Mo_write_at_s5014 e_Mo_write_at_s5014) (h_Mo_write_at_s5015 : ct_ok PRD l D kA GG y_Mo_write_at_s5015 z_Mo_write_at_s5015 e_Mo_write_at_s5015) (h_Mo_write_at_s5016 : ct_ok PRD l D kA GG y_Mo_write_at_s5016 z_Mo_write_at_s5016 e_Mo_write_at_s5016) (h_Mo_write_at_s5017 : ct_ok PRD l D kA GG y_Mo_write_at_s5017 z_Mo_write_at_s5017 e_Mo_write_at_s5017) (h_Mo_write_at_s5018 : ct_ok PRD l D kA GG y_Mo_write_at_s5018 z_Mo_write_at_s5018 e_Mo_write_at_s5018) (h_Mo_write_at_s5045 : ct_ok PRD l D kA GG y_Mo_write_at_s5045 z_Mo_write_at_s5045 e_Mo_write_at_s5045) : ct_ok PRD l D kA GG y_Mo_writeGroup_at_l5 z_Mo_writeGroup_at_l5 e_Mo_writeGroup_at_l5 := chk_all_ok (FT := [(16, 13, 2), (391, 13, 5)]) (PT := []) (CT := t_Mo_writeGroup_at_l5_ct) (KT := []) (NT := []) (AN := n_Mo_writeGroup_at_l5_an) (OT := [o_Mo_writeGroup_at_l5_0, o_Mo_writeGroup_at_l5_1, o_Mo_writeGroup_at_l5_2, o_Mo_writeGroup_at_l5_3, o_Mo_writeGroup_at_l5_4, o_Mo_writeGroup_at_l5_5, o_Mo_writeGroup_at_l5_6, o_Mo_writeGroup_at_l5_7, o_Mo_writeGroup_at_l5_8, o_Mo_writeGroup_at_l5_9, o_Mo_writeGroup_at_l5_10, o_Mo_writeGroup_at_l5_11, o_Mo_writeGroup_at_l5_12, o_Mo_writeGroup_at_l5_13, o_Mo_writeGroup_at_l5_14, o_Mo_writeGroup_at_l5_15, o_Mo_writeGroup_at_l5_16, o_Mo_writeGroup_at_l5_17, o_Mo_writeGroup_at_l5_18, o_Mo_writeGroup_at_l5_19]) 3 408 (List.forall_mem_cons.mpr ⟨oo_Mo_writeGroup_at_l5_0, List.forall_mem_cons.mpr ⟨oo_Mo_writeGroup_at_l5_1, List.forall_mem_cons.mpr ⟨oo_Mo_writeGroup_at_l5_2, List.forall_mem_cons.mpr ⟨oo_Mo_writeGroup_at_l5_3, List.forall_mem_cons.mpr ⟨oo_Mo_writeGroup_at_l5_4, List.forall_mem_cons.mpr ⟨oo_Mo_writeGroup_at_l5_5, List.forall_mem_cons.mpr ⟨oo_Mo_writeGroup_at_l5_6, List.forall_mem_cons.mpr ⟨oo_Mo_writeGroup_at_l5_7, List.forall_mem_cons.mpr ⟨oo_Mo_writeGroup_at_l5_8, List.forall_mem_cons.mpr ⟨oo_Mo_writeGroup_at_l5_9, List.forall_mem_cons.mpr ⟨oo_Mo_writeGroup_at_l5_10, List.forall_mem_cons.mpr ⟨oo_Mo_writeGroup_at_l5_11, List.forall_mem_cons.mpr ⟨oo_Mo_writeGroup_at_l5_12, List.forall_mem_cons.mpr ⟨oo_Mo_writeGroup_at_l5_13, List.forall_mem_cons.mpr ⟨oo_Mo_writeGroup_at_l5_14, List.forall_mem_cons.mpr ⟨oo_Mo_writeGroup_at_l5_15, List.forall_mem_cons.mpr ⟨oo_Mo_writeGroup_at_l5_16, List.forall_mem_cons.mpr ⟨oo_Mo_writeGroup_at_l5_17, List.forall_mem_cons.mpr ⟨oo_Mo_writeGroup_at_l5_18, List.forall_mem_cons.mpr ⟨oo_Mo_writeGroup_at_l5_19, List.forall_mem_nil _⟩⟩⟩⟩⟩⟩⟩⟩⟩⟩⟩⟩⟩⟩⟩⟩⟩⟩⟩⟩) (by decide +kernel) ⟨List.forall_mem_cons.mpr ⟨gf_Mo_16, List.forall_mem_cons.mpr ⟨gf_Mo_391, List.forall_mem_nil _⟩⟩, List.forall_mem_nil _, List.forall_mem_cons.mpr ⟨cl_virtual (y := y_Mo_nodes) (ci := 13) rfl rfl ⟨_, _, rfl⟩ (by decide +kernel) h_Mo_nodes wm_3025 wm_9 wm_3022 wm_3024 wv_13_3 ⟨by decide, by decide, by decide +kernel⟩ (by decide), List.forall_mem_cons.mpr ⟨cl_virtual (y := y_Mo_groups) (ci := 13) rfl rfl ⟨_, _, rfl⟩ (by decide +kernel) h_Mo_groups wm_3070 wm_9 wm_3067 wm_3069 wv_13_14 ⟨by decide, by decide, by decide +kernel⟩ (by decide), List.forall_mem_cons.mpr ⟨cl_virtual (y := y_Mo_size) (ci := 13) rfl rfl ⟨_, _, rfl⟩ (by decide +kernel) h_Mo_size wm_3307 wm_9 wm_3304 wm_3306 wv_17_0 ⟨by decide, by decide, by decide +kernel⟩ (by decide), List.forall_mem_cons.mpr ⟨cl_virtual (y := y_Mo_groupOf) (ci := 13) rfl rfl ⟨_, _, rfl⟩ (by decide +kernel) h_Mo_groupOf wm_3311 wm_9 wm_3308 wm_3310 wv_17_1 ⟨by decide, by decide, by decide +kernel⟩ (by decide), List.forall_mem_cons.mpr ⟨cl_virtual (y := y_Mo_writeName) (ci := 13) rfl rfl ⟨_, _, rfl⟩ (by decide +kernel) h_Mo_writeName wm_3922 wm_9 wm_3919 wm_3921 wv_24_10 ⟨by decide, by decide, by decide +kernel⟩ (by decide), List.forall_mem_cons.mpr ⟨cl_virtual (y := y_Mo_writeNode) (ci := 13) rfl rfl ⟨_, _, rfl⟩ (by decide +kernel) h_Mo_writeNode wm_3918 wm_9 wm_3915 wm_3917 wv_24_9 ⟨by decide, by decide, by decide +kernel⟩ (by decide), List.forall_mem_cons.mpr ⟨cl_virtual (y := y_Mo_writeNumber) (ci := 13) rfl rfl ⟨_, _, rfl⟩ (by decide +kernel) h_Mo_writeNumber wm_3927 wm_9 wm_3924 wm_3926 wv_24_11 ⟨by decide, by decide, by decide +kernel⟩ (by decide), List.forall_mem_cons.mpr ⟨cl_virtual (y := y_Mo_write_at_s5013) (ci := 13) rfl rfl ⟨_, _, rfl⟩ (by decide +kernel) h_Mo_write_at_s5013 wm_3910 wm_9 wm_3907 wm_3909 wv_24_7 ⟨by decide, by decide, by decide +kernel⟩ (by decide), List.forall_mem_cons.mpr ⟨cl_virtual (y := y_Mo_write_at_s5014) (ci := 13) rfl rfl ⟨_, _, rfl⟩ (by decide +kernel) h_Mo_write_at_s5014 wm_3910 wm_9 wm_3907 wm_3909 wv_24_7 ⟨by decide, by decide, by decide +kernel⟩ (by decide), List.forall_mem_cons.mpr ⟨cl_virtual (y := y_Mo_write_at_s5045) (ci := 13) rfl rfl ⟨_, _, rfl⟩ (by decide +kernel) h_Mo_write_at_s5045 wm_3910 wm_9 wm_3907 wm_3909 wv_24_7 ⟨by decide, by decide, by decide +kernel⟩ (by decide), List.forall_mem_cons.mpr ⟨cl_virtual (y := y_Mo_write_at_s5015) (ci := 13) rfl rfl ⟨_, _, rfl⟩ (by decide +kernel) h_Mo_write_at_s5015 wm_3910 wm_9 wm_3907 wm_3909 wv_24_7 ⟨by decide, by decide, by decide +kernel⟩ (by decide), List.forall_mem_cons.mpr ⟨cl_virtual (y := y_Mo_write_at_s5016) (ci := 13) rfl rfl ⟨_, _, rfl⟩ (by decide +kernel) h_Mo_write_at_s5016 wm_3910 wm_9 wm_3907 wm_3909 wv_24_7 ⟨by decide, by decide, by decide +kernel⟩ (by decide), List.forall_mem_cons.mpr ⟨cl_virtual (y := y_Mo_write_at_s5017) (ci := 13) rfl rfl ⟨_, _, rfl⟩ (by decide +kernel) h_Mo_write_at_s5017 wm_3910 wm_9 wm_3907 wm_3909 wv_24_7 ⟨by decide, by decide, by decide +kernel⟩ (by decide), List.forall_mem_cons.mpr ⟨cl_virtual (y := y_Mo_writeGroup_at_l6) (ci := 13) rfl rfl ⟨_, _, rfl⟩ (by decide +kernel) h_Mo_writeGroup_at_l6 wm_3905 wm_9 wm_3902 wm_3904 wv_24_6 ⟨by decide, by decide, by decide +kernel⟩ (by decide), List.forall_mem_cons.mpr ⟨cl_virtual (y := y_Mo_write_at_s5018) (ci := 13) rfl rfl ⟨_, _, rfl⟩ (by decide +kernel) h_Mo_write_at_s5018 wm_3910 wm_9 wm_3907 wm_3909 wv_24_7 ⟨by decide, by decide, by decide +kernel⟩ (by decide), List.forall_mem_cons.mpr ⟨cl_ldcw (own := "DrawingHouseModel") (idx := 1288) (i := 13) (tx := "node ") (by decide +kernel) (by decide +kernel) (by decide +kernel), List.forall_mem_cons.mpr ⟨cl_ldcw (own := "DrawingHouseModel") (idx := 1296) (i := 14) (tx := " [size=") (by decide +kernel) (by decide +kernel) (by decide +kernel), List.forall_mem_cons.mpr ⟨cl_ldcw (own := "DrawingHouseModel") (idx := 1301) (i := 45) (tx := "]") (by decide +kernel) (by decide +kernel) (by decide +kernel), List.forall_mem_cons.mpr ⟨cl_ldcw (own := "DrawingHouseModel") (idx := 1303) (i := 15) (tx := ";\n") (by decide +kernel) (by decide +kernel) (by decide +kernel), List.forall_mem_cons.mpr ⟨cl_ldcw (own := "DrawingHouseModel") (idx := 1305) (i := 16) (tx := "group ") (by decide +kernel) (by decide +kernel) (by decide +kernel), List.forall_mem_cons.mpr ⟨cl_ldcw (own := "DrawingHouseModel") (idx := 1307) (i := 17) (tx := " {\n") (by decide +kernel) (by decide +kernel) (by decide +kernel), List.forall_mem_cons.mpr ⟨cl_ldcw (own := "DrawingHouseModel") (idx := 1312) (i := 18) (tx := "}\n") (by decide +kernel) (by decide +kernel) (by decide +kernel), List.forall_mem_nil _⟩⟩⟩⟩⟩⟩⟩⟩⟩⟩⟩⟩⟩⟩⟩⟩⟩⟩⟩⟩⟩⟩, List.forall_mem_nil _, List.forall_mem_nil _, GG_pl⟩ (by decide +kernel)

set_option maxHeartbeats 4000000 in
theorem vc_Mo_writeGroup_at_l6_0_0 (x2 : Int) (x3 : Int) (texts_0 : Int) (k2 : 0 ≤ x2 ∧ x2 ≤ 99998253) (k3 : 0 ≤ x3 ∧ x3 ≤ 0) (f0 : 1 * texts_0 + ((-1) * x2 + 0) ≤ 0) (kz_0_170 : 0 ≤ texts_0 ∧ texts_0 ≤ 100000000) : 1 * texts_0 + ((-1) * x2 + ((-36) * x3 + 0)) ≤ 0 := by
  first | assumption | omega | grind
def o_Mo_writeGroup_at_l6_0 : or_T := (2, 4, [(0, (2, 0, 0, [165])), (2, (0, 0, 99998253, [])), (3, (0, 0, 0, []))], [(20, [0, 2], [30, 0, 1, 1, 170, -1, 0, 0])], [], [], [(20, [0, 2, 3], [30, 0, 1, 1, 170, -1, 0, 0, -36, 0, 0]), (24, [0, 0], [])], [], [])
theorem oo_Mo_writeGroup_at_l6_0 {kA : Nat → ClassId} : or_ok PRD kA GG o_Mo_writeGroup_at_l6_0 := by
  refine or_mk fun A ta ws vs hD hth hl => ?_
  intro t0 r0 t2 k2 t3 k3 f0
  have kz_0_170 := fdq_13 hD hth r0
  have nf0 : fc_1 PRD (20, [0, 2, 3], [30, 0, 1, 1, 170, -1, 0, 0, -36, 0, 0]) ws (vs) := ⟨nf_in hl rfl, sgq_1906 (vc_Mo_writeGroup_at_l6_0_0 (v_iv (n_v vs 2)) (v_iv (n_v vs 3)) (w_fi ws (n_v vs 0) 170) k2 k3 (shm_140 f0) kz_0_170)⟩
  have nf1 : fc_1 PRD (24, [0, 0], []) ws (vs) := by
    refine ⟨nf_in hl rfl, sgq_1 ?_⟩
    · show n_v vs 0 = n_v vs 0
      first | rfl | simp only [true_and]
  refine ⟨(fun _ h => (by cases h)), [], trivial, ?_, (fun _ h => (by cases h))⟩
  rw [List.append_nil]
  exact List.forall_mem_cons.mpr ⟨⟨show (20 : Nat) < 100 from by decide, nf0⟩, List.forall_mem_cons.mpr ⟨⟨show (24 : Nat) < 100 from by decide, nf1⟩, (fun _ h => (by cases h))⟩⟩
set_option maxHeartbeats 4000000 in
theorem vc_Mo_writeGroup_at_l6_1_0 (x2 : Int) (x4 : Int) (x5 : Int) (x6 : Int) (x7 : Int) (x8 : Int) (all_0 : Int → Int) (r_0 : Int) (texts_0 : Int) (k2 : 0 ≤ x2 ∧ x2 ≤ 99998253) (k4 : 6 ≤ x4 ∧ x4 ≤ 7) (k5 : 0 ≤ x5 ∧ x5 ≤ 24) (k6 : 0 ≤ x6 ∧ x6 ≤ 24) (k7 : 1 ≤ x7 ∧ x7 ≤ 1) (k8 : 7 ≤ x8 ∧ x8 ≤ 8) (d0 : x4 + 1 ≤ x8 ∧ x8 ≤ x4 + 1) (d1 : x6 + 0 ≤ x5 ∧ x5 ≤ x6 + 4294967296) (f0 : x8 = x4 + x7) (f1 : x6 ≤ x5) (f2 : 1 * x6 + ((-1) * all_0 (r_0 + 0) + 0) ≤ 0) (f3 : (-1) * x6 + (1 * all_0 (r_0 + 0) + 0) ≤ 0) (f4 : 1 * texts_0 + ((-1) * x2 + ((-36) * x5 + 0)) ≤ 0) (kz_0_170 : 0 ≤ texts_0 ∧ texts_0 ≤ 100000000) : 1 * texts_0 + ((-1) * x2 + ((-883) * x8 + (883 * x4 + 0))) ≤ (-19) := by
  first | assumption | omega | grind
def o_Mo_writeGroup_at_l6_1 : or_T := (83, 9, [(0, (2, 0, 0, [165])), (2, (0, 0, 99998253, [])), (4, (0, 6, 7, [])), (5, (0, 0, 24, [])), (6, (0, 0, 24, [])), (7, (0, 1, 1, [])), (8, (0, 7, 8, []))], [(1, [8, 4, 7], []), (7, [5, 6], [3]), (20, [6, 3], [30, 0, 1, 0, 0, -1, 3, 2005000]), (20, [6, 3], [30, 0, -1, 0, 0, 1, 3, 2005000]), (20, [3, 2, 5], [30, 0, 1, 1, 170, -1, 0, 0, -36, 0, 0]), (24, [0, 3], [])], [], [], [(20, [3, 2, 8, 4], [30, -19, 1, 1, 170, -1, 0, 0, -883, 0, 0, 883, 0, 0])], [], [(8, 4, 1, 1), (5, 6, 0, 4294967296)])
theorem oo_Mo_writeGroup_at_l6_1 {kA : Nat → ClassId} : or_ok PRD kA GG o_Mo_writeGroup_at_l6_1 := by
  refine or_mk fun A ta ws vs hD hth hl => ?_
  intro t0 r0 t2 k2 t4 k4 t5 k5 t6 k6 t7 k7 t8 k8 d0 d1 f0 f1 f2 f3 f4 f5
  replace f0 := shm_12 f0
  replace f1 := shm_2 f1
  replace f2 := shm_135 f2
  replace f3 := shm_136 f3
  replace f4 := shm_1906 f4
  replace f5 := shm_5 f5
  have q3 : n_v vs 3 = n_v vs 0 := f5.symm
  simp only [q3] at f2 f3 f4
  have kz_0_170 := fdq_13 hD hth r0
  have nf0 : fc_1 PRD (20, [3, 2, 8, 4], [30, -19, 1, 1, 170, -1, 0, 0, -883, 0, 0, 883, 0, 0]) ws (vs) := by
    refine ⟨nf_in hl rfl, sgq_1956 ?_⟩
    · show 1 * w_fi ws (n_v vs 3) 170 + ((-1) * v_iv (n_v vs 2) + ((-883) * v_iv (n_v vs 8) + (883 * v_iv (n_v vs 4) + 0))) ≤ (-19)
      rw [q3]
      exact vc_Mo_writeGroup_at_l6_1_0 (v_iv (n_v vs 2)) (v_iv (n_v vs 4)) (v_iv (n_v vs 5)) (v_iv (n_v vs 6)) (v_iv (n_v vs 7)) (v_iv (n_v vs 8)) (w_ei ws (w_ar ws (n_v vs 0) 2)) (w_fi ws (n_v vs 0) 5) (w_fi ws (n_v vs 0) 170) k2 k4 k5 k6 k7 k8 d0 d1 f0 f1 f2 f3 f4 kz_0_170
  refine ⟨(fun _ h => (by cases h)), [], trivial, ?_, (fun _ h => (by cases h))⟩
  rw [List.append_nil]
  exact List.forall_mem_cons.mpr ⟨⟨show (20 : Nat) < 100 from by decide, nf0⟩, (fun _ h => (by cases h))⟩
set_option maxHeartbeats 4000000 in
theorem vc_Mo_writeGroup_at_l6_2_0 (x2 : Int) (x4 : Int) (x5 : Int) (x6 : Int) (x7 : Int) (all_0 : Int → Int) (r_0 : Int) (texts_0 : Int) (gx : Int) (k2 : 0 ≤ x2 ∧ x2 ≤ 99998253) (k4 : 6 ≤ x4 ∧ x4 ≤ 7) (k5 : 0 ≤ x5 ∧ x5 ≤ 23) (k6 : 1 ≤ x6 ∧ x6 ≤ 24) (k7 : 6 ≤ x7 ∧ x7 ≤ 7) (d0 : x4 + 0 ≤ x7 ∧ x7 ≤ x4 + 0) (d1 : x6 + (-4294967296) ≤ x5 ∧ x5 ≤ x6 + (-1)) (f0 : x7 = x4) (f1 : x7 = all_0 (((r_0 + 243) + x5))) (f2 : x5 < x6) (f3 : 1 * x6 + ((-1) * all_0 (r_0 + 0) + 0) ≤ 0) (f4 : (-1) * x6 + (1 * all_0 (r_0 + 0) + 0) ≤ 0) (f5 : 1 * texts_0 + ((-1) * x2 + ((-36) * x5 + 0)) ≤ 0) (kz_0_170 : 0 ≤ texts_0 ∧ texts_0 ≤ 100000000) (ex2 : gx = texts_0) (ex3 : 0 ≤ gx ∧ gx ≤ 99999995) : 1 * texts_0 + ((-1) * gx + 0) ≤ 0 := by
  first | assumption | omega | grind
set_option maxHeartbeats 4000000 in
theorem vc_Mo_writeGroup_at_l6_2_1 (x2 : Int) (x4 : Int) (x5 : Int) (x6 : Int) (x7 : Int) (all_0 : Int → Int) (r_0 : Int) (texts_0 : Int) (gx : Int) (k2 : 0 ≤ x2 ∧ x2 ≤ 99998253) (k4 : 6 ≤ x4 ∧ x4 ≤ 7) (k5 : 0 ≤ x5 ∧ x5 ≤ 23) (k6 : 1 ≤ x6 ∧ x6 ≤ 24) (k7 : 6 ≤ x7 ∧ x7 ≤ 7) (d0 : x4 + 0 ≤ x7 ∧ x7 ≤ x4 + 0) (d1 : x6 + (-4294967296) ≤ x5 ∧ x5 ≤ x6 + (-1)) (f0 : x7 = x4) (f1 : x7 = all_0 (((r_0 + 243) + x5))) (f2 : x5 < x6) (f3 : 1 * x6 + ((-1) * all_0 (r_0 + 0) + 0) ≤ 0) (f4 : (-1) * x6 + (1 * all_0 (r_0 + 0) + 0) ≤ 0) (f5 : 1 * texts_0 + ((-1) * x2 + ((-36) * x5 + 0)) ≤ 0) (kz_0_170 : 0 ≤ texts_0 ∧ texts_0 ≤ 100000000) (ex2 : gx = texts_0) (ex3 : 0 ≤ gx ∧ gx ≤ 99999995) : 1 * gx + ((-1) * x2 + ((-36) * x5 + 0)) ≤ 0 := by
  first | assumption | omega | grind
def o_Mo_writeGroup_at_l6_2 : or_T := (26, 9, [(0, (2, 0, 0, [165])), (2, (0, 0, 99998253, [])), (3, (2, 0, 0, [165])), (4, (0, 6, 7, [])), (5, (0, 0, 23, [])), (6, (0, 1, 24, [])), (7, (0, 6, 7, []))], [(7, [7, 4], [0]), (20, [7, 3, 5], [50, 1, 1, 1005, 1002, 1, 2, 1, 0, 3, 1, 2, 4, 7, 4, 3, 2, 1, 5, 0, 243, 1, 2]), (7, [5, 6], [2]), (20, [6, 3], [30, 0, 1, 0, 0, -1, 3, 2005000]), (20, [6, 3], [30, 0, -1, 0, 0, 1, 3, 2005000]), (20, [3, 2, 5], [30, 0, 1, 1, 170, -1, 0, 0, -36, 0, 0]), (24, [0, 3], [])], [], [(0, 0, 99999995, [])], [(20, [3, 9], [30, 0, 1, 1, 170, -1, 0, 0]), (23, [9, 2, 5], [0, 1, -1, -36])], [], [(7, 4, 0, 0), (5, 6, -4294967296, -1)])
theorem oo_Mo_writeGroup_at_l6_2 {kA : Nat → ClassId} : or_ok PRD kA GG o_Mo_writeGroup_at_l6_2 := by
  refine or_mk fun A ta ws vs hD hth hl => ?_
  intro t0 r0 t2 k2 t3 r3 t4 k4 t5 k5 t6 k6 t7 k7 d0 d1 f0 f1 f2 f3 f4 f5 f6
  replace f0 := shm_37 f0
  replace f1 := shm_585 f1
  replace f2 := shm_6 f2
  replace f3 := shm_135 f3
  replace f4 := shm_136 f4
  replace f5 := shm_1906 f5
  replace f6 := shm_5 f6
  have q3 : n_v vs 3 = n_v vs 0 := f6.symm
  simp only [q3] at f1 f3 f4 f5
  have cr_0_2 := fdq_12 hD hth r0
  have br_0_2_F5_0_0 : w_ei ws (w_ar ws (n_v vs 0) 2) (w_fi ws (n_v vs 0) 5 + 0) = w_el ws (w_ar ws (n_v vs 0) 2) (w_fi ws (n_v vs 0) 5 + 0).toNat := rfl
  have kz_0_170 := fdq_13 hD hth r0
  have kv0 := fdq_13 hD hth r0
  obtain ⟨x, ex, hx⟩ := iv_ex (ta := ta) (lo := 0) (hi := 99999995) (z := w_fi ws (n_v vs 0) 170) (by omega) (by omega) (by omega) (by omega)
  have ex2 : v_iv (Value.int x) = w_fi ws (n_v vs 0) 170 := ex
  have ex3 : 0 ≤ v_iv (Value.int x) ∧ v_iv (Value.int x) ≤ 99999995 := tv_rng hx
  have e_2 : n_v (vs ++ [Value.int x]) 2 = n_v vs 2 := n_v_old (by rw [hl]; decide)
  have e_3 : n_v (vs ++ [Value.int x]) 3 = n_v vs 3 := n_v_old (by rw [hl]; decide)
  have e_5 : n_v (vs ++ [Value.int x]) 5 = n_v vs 5 := n_v_old (by rw [hl]; decide)
  have e_9 : n_v (vs ++ [Value.int x]) 9 = Value.int x := n_v_new hl
  have nf0 : fc_1 PRD (20, [3, 9], [30, 0, 1, 1, 170, -1, 0, 0]) ws (vs ++ [Value.int x]) := by
    refine ⟨nf_inA hl rfl, sgq_140 ?_⟩
    · show 1 * w_fi ws (n_v (vs ++ [Value.int x]) 3) 170 + ((-1) * v_iv (n_v (vs ++ [Value.int x]) 9) + 0) ≤ 0
      simp only [e_3, e_9, q3]
      exact vc_Mo_writeGroup_at_l6_2_0 (v_iv (n_v vs 2)) (v_iv (n_v vs 4)) (v_iv (n_v vs 5)) (v_iv (n_v vs 6)) (v_iv (n_v vs 7)) (w_ei ws (w_ar ws (n_v vs 0) 2)) (w_fi ws (n_v vs 0) 5) (w_fi ws (n_v vs 0) 170) (v_iv (Value.int x)) k2 k4 k5 k6 k7 d0 d1 f0 f1 f2 f3 f4 f5 kz_0_170 ex2 ex3
  have nf1 : fc_1 PRD (23, [9, 2, 5], [0, 1, -1, -36]) ws (vs ++ [Value.int x]) := by
    refine ⟨nf_inA hl rfl, sgq_1908 ?_⟩
    · show 1 * v_iv (n_v (vs ++ [Value.int x]) 9) + ((-1) * v_iv (n_v (vs ++ [Value.int x]) 2) + ((-36) * v_iv (n_v (vs ++ [Value.int x]) 5) + 0)) ≤ 0
      simp only [e_2, e_5, e_9]
      exact vc_Mo_writeGroup_at_l6_2_1 (v_iv (n_v vs 2)) (v_iv (n_v vs 4)) (v_iv (n_v vs 5)) (v_iv (n_v vs 6)) (v_iv (n_v vs 7)) (w_ei ws (w_ar ws (n_v vs 0) 2)) (w_fi ws (n_v vs 0) 5) (w_fi ws (n_v vs 0) 170) (v_iv (Value.int x)) k2 k4 k5 k6 k7 d0 d1 f0 f1 f2 f3 f4 f5 kz_0_170 ex2 ex3
  exact ⟨(fun _ h => (by cases h)), [Value.int x], ag_one hx, List.forall_mem_cons.mpr ⟨⟨show (20 : Nat) < 100 from by decide, nf0⟩, List.forall_mem_cons.mpr ⟨⟨show (23 : Nat) < 100 from by decide, nf1⟩, (fun _ h => (by cases h))⟩⟩, (fun _ h => (by cases h))⟩
set_option maxHeartbeats 4000000 in
theorem vc_Mo_writeGroup_at_l6_3_0 (x2 : Int) (x4 : Int) (x5 : Int) (x6 : Int) (x7 : Int) (x9 : Int) (all_0 : Int → Int) (r_0 : Int) (texts_0 : Int) (gx : Int) (k2 : 0 ≤ x2 ∧ x2 ≤ 99998253) (k4 : 6 ≤ x4 ∧ x4 ≤ 7) (k5 : 0 ≤ x5 ∧ x5 ≤ 23) (k6 : 1 ≤ x6 ∧ x6 ≤ 24) (k7 : 6 ≤ x7 ∧ x7 ≤ 7) (k9 : 0 ≤ x9 ∧ x9 ≤ 99999995) (d0 : x4 + 0 ≤ x7 ∧ x7 ≤ x4 + 0) (d1 : x6 + (-4294967296) ≤ x5 ∧ x5 ≤ x6 + (-1)) (f0 : 1 * x9 + ((-1) * x2 + ((-36) * x5 + 0)) ≤ 0) (f1 : x7 = all_0 (((r_0 + 243) + x5))) (f2 : 1 * x6 + ((-1) * all_0 (r_0 + 0) + 0) ≤ 0) (f3 : (-1) * x6 + (1 * all_0 (r_0 + 0) + 0) ≤ 0) (f5 : 1 * texts_0 + ((-1) * x9 + 0) ≤ 5) (f7 : 1 * x9 + ((-1) * x2 + ((-36) * x5 + 0)) ≤ 0) (f8 : x7 = x4) (f9 : x5 < x6) (kz_0_170 : 0 ≤ texts_0 ∧ texts_0 ≤ 100000000) (ex2 : gx = texts_0) (ex3 : 0 ≤ gx ∧ gx ≤ 99999992) : 1 * texts_0 + ((-1) * gx + 0) ≤ 0 := by
  first | assumption | omega | grind
set_option maxHeartbeats 4000000 in
theorem vc_Mo_writeGroup_at_l6_3_1 (x2 : Int) (x4 : Int) (x5 : Int) (x6 : Int) (x7 : Int) (x9 : Int) (all_0 : Int → Int) (r_0 : Int) (texts_0 : Int) (gx : Int) (k2 : 0 ≤ x2 ∧ x2 ≤ 99998253) (k4 : 6 ≤ x4 ∧ x4 ≤ 7) (k5 : 0 ≤ x5 ∧ x5 ≤ 23) (k6 : 1 ≤ x6 ∧ x6 ≤ 24) (k7 : 6 ≤ x7 ∧ x7 ≤ 7) (k9 : 0 ≤ x9 ∧ x9 ≤ 99999995) (d0 : x4 + 0 ≤ x7 ∧ x7 ≤ x4 + 0) (d1 : x6 + (-4294967296) ≤ x5 ∧ x5 ≤ x6 + (-1)) (f0 : 1 * x9 + ((-1) * x2 + ((-36) * x5 + 0)) ≤ 0) (f1 : x7 = all_0 (((r_0 + 243) + x5))) (f2 : 1 * x6 + ((-1) * all_0 (r_0 + 0) + 0) ≤ 0) (f3 : (-1) * x6 + (1 * all_0 (r_0 + 0) + 0) ≤ 0) (f5 : 1 * texts_0 + ((-1) * x9 + 0) ≤ 5) (f7 : 1 * x9 + ((-1) * x2 + ((-36) * x5 + 0)) ≤ 0) (f8 : x7 = x4) (f9 : x5 < x6) (kz_0_170 : 0 ≤ texts_0 ∧ texts_0 ≤ 100000000) (ex2 : gx = texts_0) (ex3 : 0 ≤ gx ∧ gx ≤ 99999992) : 1 * gx + ((-1) * x2 + ((-36) * x5 + 0)) ≤ 5 := by
  first | assumption | omega | grind
def o_Mo_writeGroup_at_l6_3 : or_T := (31, 10, [(0, (2, 0, 0, [165])), (2, (0, 0, 99998253, [])), (3, (2, 0, 0, [165])), (4, (0, 6, 7, [])), (5, (0, 0, 23, [])), (6, (0, 1, 24, [])), (7, (0, 6, 7, [])), (9, (0, 0, 99999995, []))], [(23, [9, 2, 5], [0, 1, -1, -36]), (20, [7, 3, 5], [50, 1, 1, 1005, 1002, 1, 2, 1, 0, 3, 1, 2, 4, 7, 4, 3, 2, 1, 5, 0, 243, 1, 2]), (20, [6, 3], [30, 0, 1, 0, 0, -1, 3, 2005000]), (20, [6, 3], [30, 0, -1, 0, 0, 1, 3, 2005000]), (24, [0, 3], []), (20, [3, 9], [30, 5, 1, 1, 170, -1, 0, 0]), (102, [9], [7770675568902916283677847627294075626569627356208558085007249638955617140820833992704, 165170]), (23, [9, 2, 5], [0, 1, -1, -36]), (7, [7, 4], [0]), (7, [5, 6], [2])], [], [(0, 0, 99999992, [])], [(20, [3, 10], [30, 0, 1, 1, 170, -1, 0, 0]), (23, [10, 2, 5], [5, 1, -1, -36])], [], [(7, 4, 0, 0), (5, 6, -4294967296, -1)])
theorem oo_Mo_writeGroup_at_l6_3 {kA : Nat → ClassId} : or_ok PRD kA GG o_Mo_writeGroup_at_l6_3 := by
  refine or_mk fun A ta ws vs hD hth hl => ?_
  intro t0 r0 t2 k2 t3 r3 t4 k4 t5 k5 t6 k6 t7 k7 t9 k9 d0 d1 f0 f1 f2 f3 f4 f5 ta1 w1 le1 s1 f7 f8 f9
  replace f0 := shm_1908 f0
  replace f1 := shm_585 f1
  replace f2 := shm_135 f2
  replace f3 := shm_136 f3
  replace f4 := shm_5 f4
  replace f5 := shm_232 f5
  replace f7 := shm_1908 f7
  replace f8 := shm_37 f8
  replace f9 := shm_6 f9
  have q3 : n_v vs 3 = n_v vs 0 := f4.symm
  simp only [q3] at f1 f2 f3 f5
  have cr_0_2 := fdq_12 hD hth r0
  have br_0_2_F5_0_0 : w_ei ws (w_ar ws (n_v vs 0) 2) (w_fi ws (n_v vs 0) 5 + 0) = w_el ws (w_ar ws (n_v vs 0) 2) (w_fi ws (n_v vs 0) 5 + 0).toNat := rfl
  have kz_0_170 := fdq_13 hD hth r0
  have kv0 := fdq_13 hD hth r0
  obtain ⟨x, ex, hx⟩ := iv_ex (ta := ta) (lo := 0) (hi := 99999992) (z := w_fi ws (n_v vs 0) 170) (by omega) (by omega) (by omega) (by omega)
  have ex2 : v_iv (Value.int x) = w_fi ws (n_v vs 0) 170 := ex
  have ex3 : 0 ≤ v_iv (Value.int x) ∧ v_iv (Value.int x) ≤ 99999992 := tv_rng hx
  have e_2 : n_v (vs ++ [Value.int x]) 2 = n_v vs 2 := n_v_old (by rw [hl]; decide)
  have e_3 : n_v (vs ++ [Value.int x]) 3 = n_v vs 3 := n_v_old (by rw [hl]; decide)
  have e_5 : n_v (vs ++ [Value.int x]) 5 = n_v vs 5 := n_v_old (by rw [hl]; decide)
  have e_10 : n_v (vs ++ [Value.int x]) 10 = Value.int x := n_v_new hl
  have nf0 : fc_1 PRD (20, [3, 10], [30, 0, 1, 1, 170, -1, 0, 0]) ws (vs ++ [Value.int x]) := by
    refine ⟨nf_inA hl rfl, sgq_140 ?_⟩
    · show 1 * w_fi ws (n_v (vs ++ [Value.int x]) 3) 170 + ((-1) * v_iv (n_v (vs ++ [Value.int x]) 10) + 0) ≤ 0
      simp only [e_3, e_10, q3]
      exact vc_Mo_writeGroup_at_l6_3_0 (v_iv (n_v vs 2)) (v_iv (n_v vs 4)) (v_iv (n_v vs 5)) (v_iv (n_v vs 6)) (v_iv (n_v vs 7)) (v_iv (n_v vs 9)) (w_ei ws (w_ar ws (n_v vs 0) 2)) (w_fi ws (n_v vs 0) 5) (w_fi ws (n_v vs 0) 170) (v_iv (Value.int x)) k2 k4 k5 k6 k7 k9 d0 d1 f0 f1 f2 f3 f5 f7 f8 f9 kz_0_170 ex2 ex3
  have nf1 : fc_1 PRD (23, [10, 2, 5], [5, 1, -1, -36]) ws (vs ++ [Value.int x]) := by
    refine ⟨nf_inA hl rfl, sgq_1909 ?_⟩
    · show 1 * v_iv (n_v (vs ++ [Value.int x]) 10) + ((-1) * v_iv (n_v (vs ++ [Value.int x]) 2) + ((-36) * v_iv (n_v (vs ++ [Value.int x]) 5) + 0)) ≤ 5
      simp only [e_2, e_5, e_10]
      exact vc_Mo_writeGroup_at_l6_3_1 (v_iv (n_v vs 2)) (v_iv (n_v vs 4)) (v_iv (n_v vs 5)) (v_iv (n_v vs 6)) (v_iv (n_v vs 7)) (v_iv (n_v vs 9)) (w_ei ws (w_ar ws (n_v vs 0) 2)) (w_fi ws (n_v vs 0) 5) (w_fi ws (n_v vs 0) 170) (v_iv (Value.int x)) k2 k4 k5 k6 k7 k9 d0 d1 f0 f1 f2 f3 f5 f7 f8 f9 kz_0_170 ex2 ex3
  exact ⟨(fun _ h => (by cases h)), [Value.int x], ag_one hx, List.forall_mem_cons.mpr ⟨⟨show (20 : Nat) < 100 from by decide, nf0⟩, List.forall_mem_cons.mpr ⟨⟨show (23 : Nat) < 100 from by decide, nf1⟩, (fun _ h => (by cases h))⟩⟩, (fun _ h => (by cases h))⟩
set_option maxHeartbeats 4000000 in
theorem vc_Mo_writeGroup_at_l6_4_0 (x2 : Int) (x4 : Int) (x5 : Int) (x6 : Int) (x7 : Int) (x9 : Int) (x10 : Int) (x11 : Int) (x12 : Int) (all_0 : Int → Int) (r_0 : Int) (texts_0 : Int) (gx : Int) (k2 : 0 ≤ x2 ∧ x2 ≤ 99998253) (k4 : 6 ≤ x4 ∧ x4 ≤ 7) (k5 : 0 ≤ x5 ∧ x5 ≤ 23) (k6 : 1 ≤ x6 ∧ x6 ≤ 24) (k7 : 6 ≤ x7 ∧ x7 ≤ 7) (k9 : 0 ≤ x9 ∧ x9 ≤ 99999995) (k10 : 0 ≤ x10 ∧ x10 ≤ 99999992) (k11 : 0 ≤ x11 ∧ x11 ≤ 1) (k12 : 1 ≤ x12 ∧ x12 ≤ 1) (d0 : x4 + 0 ≤ x7 ∧ x7 ≤ x4 + 0) (d1 : x6 + (-4294967296) ≤ x5 ∧ x5 ≤ x6 + (-1)) (f0 : x11 ≤ x12) (f1 : x11 = all_0 (((r_0 + 219) + x5))) (f2 : 1 * x10 + ((-1) * x2 + ((-36) * x5 + 0)) ≤ 5) (f3 : 1 * x9 + ((-1) * x2 + ((-36) * x5 + 0)) ≤ 0) (f4 : x7 = all_0 (((r_0 + 243) + x5))) (f5 : 1 * x6 + ((-1) * all_0 (r_0 + 0) + 0) ≤ 0) (f6 : (-1) * x6 + (1 * all_0 (r_0 + 0) + 0) ≤ 0) (f8 : 1 * texts_0 + ((-1) * x10 + 0) ≤ 8) (f10 : 1 * x10 + ((-1) * x2 + ((-36) * x5 + 0)) ≤ 5) (f11 : 1 * x9 + ((-1) * x2 + ((-36) * x5 + 0)) ≤ 0) (f13 : 1 * x9 + ((-1) * x2 + ((-36) * x5 + 0)) ≤ 0) (f14 : x7 = x4) (f15 : x5 < x6) (kz_0_170 : 0 ≤ texts_0 ∧ texts_0 ≤ 100000000) (ex2 : gx = texts_0) (ex3 : 0 ≤ gx ∧ gx ≤ 99999998) : 1 * texts_0 + ((-1) * gx + 0) ≤ 0 := by
  first | assumption | omega | grind
set_option maxHeartbeats 4000000 in
theorem vc_Mo_writeGroup_at_l6_4_1 (x2 : Int) (x4 : Int) (x5 : Int) (x6 : Int) (x7 : Int) (x9 : Int) (x10 : Int) (x11 : Int) (x12 : Int) (all_0 : Int → Int) (r_0 : Int) (texts_0 : Int) (gx : Int) (k2 : 0 ≤ x2 ∧ x2 ≤ 99998253) (k4 : 6 ≤ x4 ∧ x4 ≤ 7) (k5 : 0 ≤ x5 ∧ x5 ≤ 23) (k6 : 1 ≤ x6 ∧ x6 ≤ 24) (k7 : 6 ≤ x7 ∧ x7 ≤ 7) (k9 : 0 ≤ x9 ∧ x9 ≤ 99999995) (k10 : 0 ≤ x10 ∧ x10 ≤ 99999992) (k11 : 0 ≤ x11 ∧ x11 ≤ 1) (k12 : 1 ≤ x12 ∧ x12 ≤ 1) (d0 : x4 + 0 ≤ x7 ∧ x7 ≤ x4 + 0) (d1 : x6 + (-4294967296) ≤ x5 ∧ x5 ≤ x6 + (-1)) (f0 : x11 ≤ x12) (f1 : x11 = all_0 (((r_0 + 219) + x5))) (f2 : 1 * x10 + ((-1) * x2 + ((-36) * x5 + 0)) ≤ 5) (f3 : 1 * x9 + ((-1) * x2 + ((-36) * x5 + 0)) ≤ 0) (f4 : x7 = all_0 (((r_0 + 243) + x5))) (f5 : 1 * x6 + ((-1) * all_0 (r_0 + 0) + 0) ≤ 0) (f6 : (-1) * x6 + (1 * all_0 (r_0 + 0) + 0) ≤ 0) (f8 : 1 * texts_0 + ((-1) * x10 + 0) ≤ 8) (f10 : 1 * x10 + ((-1) * x2 + ((-36) * x5 + 0)) ≤ 5) (f11 : 1 * x9 + ((-1) * x2 + ((-36) * x5 + 0)) ≤ 0) (f13 : 1 * x9 + ((-1) * x2 + ((-36) * x5 + 0)) ≤ 0) (f14 : x7 = x4) (f15 : x5 < x6) (kz_0_170 : 0 ≤ texts_0 ∧ texts_0 ≤ 100000000) (ex2 : gx = texts_0) (ex3 : 0 ≤ gx ∧ gx ≤ 99999998) : 1 * gx + ((-1) * x2 + ((-36) * x5 + 0)) ≤ 34 := by
  first | assumption | omega | grind
def o_Mo_writeGroup_at_l6_4 : or_T := (70, 14, [(0, (2, 0, 0, [165])), (2, (0, 0, 99998253, [])), (3, (2, 0, 0, [165])), (4, (0, 6, 7, [])), (5, (0, 0, 23, [])), (6, (0, 1, 24, [])), (7, (0, 6, 7, [])), (9, (0, 0, 99999995, [])), (10, (0, 0, 99999992, [])), (11, (0, 0, 1, [])), (12, (0, 1, 1, []))], [(7, [11, 12], [5]), (20, [11, 3, 5], [50, 1, 1, 1005, 1002, 1, 2, 1, 0, 3, 1, 2, 4, 7, 4, 3, 2, 1, 5, 0, 219, 1, 2]), (23, [10, 2, 5], [5, 1, -1, -36]), (23, [9, 2, 5], [0, 1, -1, -36]), (20, [7, 3, 5], [50, 1, 1, 1005, 1002, 1, 2, 1, 0, 3, 1, 2, 4, 7, 4, 3, 2, 1, 5, 0, 243, 1, 2]), (20, [6, 3], [30, 0, 1, 0, 0, -1, 3, 2005000]), (20, [6, 3], [30, 0, -1, 0, 0, 1, 3, 2005000]), (24, [0, 3], []), (20, [3, 10], [30, 8, 1, 1, 170, -1, 0, 0]), (102, [10], [7770675568902916283677847627294075626569627356208558085007249638955617140820833992704, 165170]), (23, [10, 2, 5], [5, 1, -1, -36]), (23, [9, 2, 5], [0, 1, -1, -36]), (102, [9], [7770675568902916283677847627294075626569627356208558085007249638955617140820833992704, 165170]), (23, [9, 2, 5], [0, 1, -1, -36]), (7, [7, 4], [0]), (7, [5, 6], [2])], [], [(0, 0, 99999998, [])], [(20, [3, 14], [30, 0, 1, 1, 170, -1, 0, 0]), (23, [14, 2, 5], [34, 1, -1, -36])], [], [(7, 4, 0, 0), (5, 6, -4294967296, -1)])
theorem oo_Mo_writeGroup_at_l6_4 {kA : Nat → ClassId} : or_ok PRD kA GG o_Mo_writeGroup_at_l6_4 := by
  refine or_mk fun A ta ws vs hD hth hl => ?_
  intro t0 r0 t2 k2 t3 r3 t4 k4 t5 k5 t6 k6 t7 k7 t9 k9 t10 k10 t11 k11 t12 k12 d0 d1 f0 f1 f2 f3 f4 f5 f6 f7 f8 ta1 w1 le1 s1 f10 f11 ta2 w2 le2 s2 f13 f14 f15
  replace f0 := shm_24 f0
  replace f1 := shm_718 f1
  replace f2 := shm_1909 f2
  replace f3 := shm_1908 f3
  replace f4 := shm_585 f4
  replace f5 := shm_135 f5
  replace f6 := shm_136 f6
  replace f7 := shm_5 f7
  replace f8 := shm_172 f8
  replace f10 := shm_1909 f10
  replace f11 := shm_1908 f11
  replace f13 := shm_1908 f13
  replace f14 := shm_37 f14
  replace f15 := shm_6 f15
  have q3 : n_v vs 3 = n_v vs 0 := f7.symm
  simp only [q3] at f1 f4 f5 f6 f8
  have cr_0_2 := fdq_12 hD hth r0
  have br_0_2_F5_0_0 : w_ei ws (w_ar ws (n_v vs 0) 2) (w_fi ws (n_v vs 0) 5 + 0) = w_el ws (w_ar ws (n_v vs 0) 2) (w_fi ws (n_v vs 0) 5 + 0).toNat := rfl
  have kz_0_170 := fdq_13 hD hth r0
  have kv0 := fdq_13 hD hth r0
  obtain ⟨x, ex, hx⟩ := iv_ex (ta := ta) (lo := 0) (hi := 99999998) (z := w_fi ws (n_v vs 0) 170) (by omega) (by omega) (by omega) (by omega)
  have ex2 : v_iv (Value.int x) = w_fi ws (n_v vs 0) 170 := ex
  have ex3 : 0 ≤ v_iv (Value.int x) ∧ v_iv (Value.int x) ≤ 99999998 := tv_rng hx
  have e_2 : n_v (vs ++ [Value.int x]) 2 = n_v vs 2 := n_v_old (by rw [hl]; decide)
  have e_3 : n_v (vs ++ [Value.int x]) 3 = n_v vs 3 := n_v_old (by rw [hl]; decide)
  have e_5 : n_v (vs ++ [Value.int x]) 5 = n_v vs 5 := n_v_old (by rw [hl]; decide)
  have e_14 : n_v (vs ++ [Value.int x]) 14 = Value.int x := n_v_new hl
  have nf0 : fc_1 PRD (20, [3, 14], [30, 0, 1, 1, 170, -1, 0, 0]) ws (vs ++ [Value.int x]) := by
    refine ⟨nf_inA hl rfl, sgq_140 ?_⟩
    · show 1 * w_fi ws (n_v (vs ++ [Value.int x]) 3) 170 + ((-1) * v_iv (n_v (vs ++ [Value.int x]) 14) + 0) ≤ 0
      simp only [e_3, e_14, q3]
      exact vc_Mo_writeGroup_at_l6_4_0 (v_iv (n_v vs 2)) (v_iv (n_v vs 4)) (v_iv (n_v vs 5)) (v_iv (n_v vs 6)) (v_iv (n_v vs 7)) (v_iv (n_v vs 9)) (v_iv (n_v vs 10)) (v_iv (n_v vs 11)) (v_iv (n_v vs 12)) (w_ei ws (w_ar ws (n_v vs 0) 2)) (w_fi ws (n_v vs 0) 5) (w_fi ws (n_v vs 0) 170) (v_iv (Value.int x)) k2 k4 k5 k6 k7 k9 k10 k11 k12 d0 d1 f0 f1 f2 f3 f4 f5 f6 f8 f10 f11 f13 f14 f15 kz_0_170 ex2 ex3
  have nf1 : fc_1 PRD (23, [14, 2, 5], [34, 1, -1, -36]) ws (vs ++ [Value.int x]) := by
    refine ⟨nf_inA hl rfl, sgq_1910 ?_⟩
    · show 1 * v_iv (n_v (vs ++ [Value.int x]) 14) + ((-1) * v_iv (n_v (vs ++ [Value.int x]) 2) + ((-36) * v_iv (n_v (vs ++ [Value.int x]) 5) + 0)) ≤ 34
      simp only [e_2, e_5, e_14]
      exact vc_Mo_writeGroup_at_l6_4_1 (v_iv (n_v vs 2)) (v_iv (n_v vs 4)) (v_iv (n_v vs 5)) (v_iv (n_v vs 6)) (v_iv (n_v vs 7)) (v_iv (n_v vs 9)) (v_iv (n_v vs 10)) (v_iv (n_v vs 11)) (v_iv (n_v vs 12)) (w_ei ws (w_ar ws (n_v vs 0) 2)) (w_fi ws (n_v vs 0) 5) (w_fi ws (n_v vs 0) 170) (v_iv (Value.int x)) k2 k4 k5 k6 k7 k9 k10 k11 k12 d0 d1 f0 f1 f2 f3 f4 f5 f6 f8 f10 f11 f13 f14 f15 kz_0_170 ex2 ex3
  exact ⟨(fun _ h => (by cases h)), [Value.int x], ag_one hx, List.forall_mem_cons.mpr ⟨⟨show (20 : Nat) < 100 from by decide, nf0⟩, List.forall_mem_cons.mpr ⟨⟨show (23 : Nat) < 100 from by decide, nf1⟩, (fun _ h => (by cases h))⟩⟩, (fun _ h => (by cases h))⟩
set_option maxHeartbeats 4000000 in
theorem vc_Mo_writeGroup_at_l6_5_0 (x2 : Int) (x4 : Int) (x5 : Int) (x6 : Int) (x7 : Int) (x9 : Int) (x10 : Int) (x11 : Int) (x12 : Int) (x14 : Int) (x15 : Int) (all_0 : Int → Int) (r_0 : Int) (texts_0 : Int) (k2 : 0 ≤ x2 ∧ x2 ≤ 99998253) (k4 : 6 ≤ x4 ∧ x4 ≤ 7) (k5 : 0 ≤ x5 ∧ x5 ≤ 23) (k6 : 1 ≤ x6 ∧ x6 ≤ 24) (k7 : 6 ≤ x7 ∧ x7 ≤ 7) (k9 : 0 ≤ x9 ∧ x9 ≤ 99999995) (k10 : 0 ≤ x10 ∧ x10 ≤ 99999992) (k11 : 0 ≤ x11 ∧ x11 ≤ 1) (k12 : 1 ≤ x12 ∧ x12 ≤ 1) (k14 : 0 ≤ x14 ∧ x14 ≤ 99999998) (k15 : 1 ≤ x15 ∧ x15 ≤ 24) (d0 : x5 + 1 ≤ x15 ∧ x15 ≤ x5 + 1) (d1 : x6 + (-4294967296) ≤ x15 ∧ x15 ≤ x6 + 0) (d2 : x4 + 0 ≤ x7 ∧ x7 ≤ x4 + 0) (d3 : x6 + (-4294967296) ≤ x5 ∧ x5 ≤ x6 + (-1)) (f0 : x15 = x5 + 1) (f1 : 1 * x14 + ((-1) * x2 + ((-36) * x5 + 0)) ≤ 34) (f2 : x11 = all_0 (((r_0 + 219) + x5))) (f3 : 1 * x10 + ((-1) * x2 + ((-36) * x5 + 0)) ≤ 5) (f4 : 1 * x9 + ((-1) * x2 + ((-36) * x5 + 0)) ≤ 0) (f5 : x7 = all_0 (((r_0 + 243) + x5))) (f6 : 1 * x6 + ((-1) * all_0 (r_0 + 0) + 0) ≤ 0) (f7 : (-1) * x6 + (1 * all_0 (r_0 + 0) + 0) ≤ 0) (f9 : 1 * texts_0 + ((-1) * x14 + 0) ≤ 2) (f11 : 1 * x14 + ((-1) * x2 + ((-36) * x5 + 0)) ≤ 34) (f12 : x11 ≤ x12) (f13 : 1 * x10 + ((-1) * x2 + ((-36) * x5 + 0)) ≤ 5) (f14 : 1 * x9 + ((-1) * x2 + ((-36) * x5 + 0)) ≤ 0) (f16 : 1 * x10 + ((-1) * x2 + ((-36) * x5 + 0)) ≤ 5) (f17 : 1 * x9 + ((-1) * x2 + ((-36) * x5 + 0)) ≤ 0) (f19 : 1 * x9 + ((-1) * x2 + ((-36) * x5 + 0)) ≤ 0) (f20 : x7 = x4) (f21 : x5 < x6) (kz_0_170 : 0 ≤ texts_0 ∧ texts_0 ≤ 100000000) : 1 * texts_0 + ((-1) * x2 + ((-36) * x15 + 0)) ≤ 0 := by
  first | assumption | omega | grind
def o_Mo_writeGroup_at_l6_5 : or_T := (2, 16, [(0, (2, 0, 0, [165])), (2, (0, 0, 99998253, [])), (4, (0, 6, 7, [])), (5, (0, 0, 23, [])), (6, (0, 1, 24, [])), (7, (0, 6, 7, [])), (9, (0, 0, 99999995, [])), (10, (0, 0, 99999992, [])), (11, (0, 0, 1, [])), (12, (0, 1, 1, [])), (14, (0, 0, 99999998, [])), (15, (0, 1, 24, []))], [(6, [15, 5], [1]), (23, [14, 2, 5], [34, 1, -1, -36]), (20, [11, 3, 5], [50, 1, 1, 1005, 1002, 1, 2, 1, 0, 3, 1, 2, 4, 7, 4, 3, 2, 1, 5, 0, 219, 1, 2]), (23, [10, 2, 5], [5, 1, -1, -36]), (23, [9, 2, 5], [0, 1, -1, -36]), (20, [7, 3, 5], [50, 1, 1, 1005, 1002, 1, 2, 1, 0, 3, 1, 2, 4, 7, 4, 3, 2, 1, 5, 0, 243, 1, 2]), (20, [6, 3], [30, 0, 1, 0, 0, -1, 3, 2005000]), (20, [6, 3], [30, 0, -1, 0, 0, 1, 3, 2005000]), (24, [0, 3], []), (20, [3, 14], [30, 2, 1, 1, 170, -1, 0, 0]), (102, [14], [7770675568902916283677847627294075626569627356208558085007249638955617140820833992704, 165170]), (23, [14, 2, 5], [34, 1, -1, -36]), (7, [11, 12], [5]), (23, [10, 2, 5], [5, 1, -1, -36]), (23, [9, 2, 5], [0, 1, -1, -36]), (102, [10], [7770675568902916283677847627294075626569627356208558085007249638955617140820833992704, 165170]), (23, [10, 2, 5], [5, 1, -1, -36]), (23, [9, 2, 5], [0, 1, -1, -36]), (102, [9], [7770675568902916283677847627294075626569627356208558085007249638955617140820833992704, 165170]), (23, [9, 2, 5], [0, 1, -1, -36]), (7, [7, 4], [0]), (7, [5, 6], [2])], [], [], [(20, [3, 2, 15], [30, 0, 1, 1, 170, -1, 0, 0, -36, 0, 0])], [], [(15, 5, 1, 1), (15, 6, -4294967296, 0), (7, 4, 0, 0), (5, 6, -4294967296, -1)])
theorem oo_Mo_writeGroup_at_l6_5 {kA : Nat → ClassId} : or_ok PRD kA GG o_Mo_writeGroup_at_l6_5 := by
  refine or_mk fun A ta ws vs hD hth hl => ?_
  intro t0 r0 t2 k2 t4 k4 t5 k5 t6 k6 t7 k7 t9 k9 t10 k10 t11 k11 t12 k12 t14 k14 t15 k15 d0 d1 d2 d3 f0 f1 f2 f3 f4 f5 f6 f7 f8 f9 ta1 w1 le1 s1 f11 f12 f13 f14 ta2 w2 le2 s2 f16 f17 ta3 w3 le3 s3 f19 f20 f21
  replace f0 := shm_4 f0
  replace f1 := shm_1910 f1
  replace f2 := shm_718 f2
  replace f3 := shm_1909 f3
  replace f4 := shm_1908 f4
  replace f5 := shm_585 f5
  replace f6 := shm_135 f6
  replace f7 := shm_136 f7
  replace f8 := shm_5 f8
  replace f9 := shm_234 f9
  replace f11 := shm_1910 f11
  replace f12 := shm_24 f12
  replace f13 := shm_1909 f13
  replace f14 := shm_1908 f14
  replace f16 := shm_1909 f16
  replace f17 := shm_1908 f17
  replace f19 := shm_1908 f19
  replace f20 := shm_37 f20
  replace f21 := shm_6 f21
  have q3 : n_v vs 3 = n_v vs 0 := f8.symm
  simp only [q3] at f2 f5 f6 f7 f9
  have kz_0_170 := fdq_13 hD hth r0
  have nf0 : fc_1 PRD (20, [3, 2, 15], [30, 0, 1, 1, 170, -1, 0, 0, -36, 0, 0]) ws (vs) := by
    refine ⟨nf_in hl rfl, sgq_1906 ?_⟩
    · show 1 * w_fi ws (n_v vs 3) 170 + ((-1) * v_iv (n_v vs 2) + ((-36) * v_iv (n_v vs 15) + 0)) ≤ 0
      rw [q3]
      exact vc_Mo_writeGroup_at_l6_5_0 (v_iv (n_v vs 2)) (v_iv (n_v vs 4)) (v_iv (n_v vs 5)) (v_iv (n_v vs 6)) (v_iv (n_v vs 7)) (v_iv (n_v vs 9)) (v_iv (n_v vs 10)) (v_iv (n_v vs 11)) (v_iv (n_v vs 12)) (v_iv (n_v vs 14)) (v_iv (n_v vs 15)) (w_ei ws (w_ar ws (n_v vs 0) 2)) (w_fi ws (n_v vs 0) 5) (w_fi ws (n_v vs 0) 170) k2 k4 k5 k6 k7 k9 k10 k11 k12 k14 k15 d0 d1 d2 d3 f0 f1 f2 f3 f4 f5 f6 f7 f9 f11 f12 f13 f14 f16 f17 f19 f20 f21 kz_0_170
  refine ⟨(fun _ h => (by cases h)), [], trivial, ?_, (fun _ h => (by cases h))⟩
  rw [List.append_nil]
  exact List.forall_mem_cons.mpr ⟨⟨show (20 : Nat) < 100 from by decide, nf0⟩, (fun _ h => (by cases h))⟩
set_option maxHeartbeats 4000000 in
theorem vc_Mo_writeGroup_at_l6_6_0 (x2 : Int) (x4 : Int) (x5 : Int) (x6 : Int) (x7 : Int) (x9 : Int) (x10 : Int) (x11 : Int) (x12 : Int) (all_0 : Int → Int) (r_0 : Int) (texts_0 : Int) (gx : Int) (k2 : 0 ≤ x2 ∧ x2 ≤ 99998253) (k4 : 6 ≤ x4 ∧ x4 ≤ 7) (k5 : 0 ≤ x5 ∧ x5 ≤ 23) (k6 : 1 ≤ x6 ∧ x6 ≤ 24) (k7 : 6 ≤ x7 ∧ x7 ≤ 7) (k9 : 0 ≤ x9 ∧ x9 ≤ 99999995) (k10 : 0 ≤ x10 ∧ x10 ≤ 99999992) (k11 : 2 ≤ x11 ∧ x11 ≤ 99) (k12 : 1 ≤ x12 ∧ x12 ≤ 1) (d0 : x4 + 0 ≤ x7 ∧ x7 ≤ x4 + 0) (d1 : x6 + (-4294967296) ≤ x5 ∧ x5 ≤ x6 + (-1)) (f0 : x12 < x11) (f1 : x11 = all_0 (((r_0 + 219) + x5))) (f2 : 1 * x10 + ((-1) * x2 + ((-36) * x5 + 0)) ≤ 5) (f3 : 1 * x9 + ((-1) * x2 + ((-36) * x5 + 0)) ≤ 0) (f4 : x7 = all_0 (((r_0 + 243) + x5))) (f5 : 1 * x6 + ((-1) * all_0 (r_0 + 0) + 0) ≤ 0) (f6 : (-1) * x6 + (1 * all_0 (r_0 + 0) + 0) ≤ 0) (f8 : 1 * texts_0 + ((-1) * x10 + 0) ≤ 8) (f10 : 1 * x10 + ((-1) * x2 + ((-36) * x5 + 0)) ≤ 5) (f11 : 1 * x9 + ((-1) * x2 + ((-36) * x5 + 0)) ≤ 0) (f13 : 1 * x9 + ((-1) * x2 + ((-36) * x5 + 0)) ≤ 0) (f14 : x7 = x4) (f15 : x5 < x6) (kz_0_170 : 0 ≤ texts_0 ∧ texts_0 ≤ 100000000) (ex2 : gx = texts_0) (ex3 : 0 ≤ gx ∧ gx ≤ 99999993) : 1 * texts_0 + ((-1) * gx + 0) ≤ 0 := by
  first | assumption | omega | grind
set_option maxHeartbeats 4000000 in
theorem vc_Mo_writeGroup_at_l6_6_1 (x2 : Int) (x4 : Int) (x5 : Int) (x6 : Int) (x7 : Int) (x9 : Int) (x10 : Int) (x11 : Int) (x12 : Int) (all_0 : Int → Int) (r_0 : Int) (texts_0 : Int) (gx : Int) (k2 : 0 ≤ x2 ∧ x2 ≤ 99998253) (k4 : 6 ≤ x4 ∧ x4 ≤ 7) (k5 : 0 ≤ x5 ∧ x5 ≤ 23) (k6 : 1 ≤ x6 ∧ x6 ≤ 24) (k7 : 6 ≤ x7 ∧ x7 ≤ 7) (k9 : 0 ≤ x9 ∧ x9 ≤ 99999995) (k10 : 0 ≤ x10 ∧ x10 ≤ 99999992) (k11 : 2 ≤ x11 ∧ x11 ≤ 99) (k12 : 1 ≤ x12 ∧ x12 ≤ 1) (d0 : x4 + 0 ≤ x7 ∧ x7 ≤ x4 + 0) (d1 : x6 + (-4294967296) ≤ x5 ∧ x5 ≤ x6 + (-1)) (f0 : x12 < x11) (f1 : x11 = all_0 (((r_0 + 219) + x5))) (f2 : 1 * x10 + ((-1) * x2 + ((-36) * x5 + 0)) ≤ 5) (f3 : 1 * x9 + ((-1) * x2 + ((-36) * x5 + 0)) ≤ 0) (f4 : x7 = all_0 (((r_0 + 243) + x5))) (f5 : 1 * x6 + ((-1) * all_0 (r_0 + 0) + 0) ≤ 0) (f6 : (-1) * x6 + (1 * all_0 (r_0 + 0) + 0) ≤ 0) (f8 : 1 * texts_0 + ((-1) * x10 + 0) ≤ 8) (f10 : 1 * x10 + ((-1) * x2 + ((-36) * x5 + 0)) ≤ 5) (f11 : 1 * x9 + ((-1) * x2 + ((-36) * x5 + 0)) ≤ 0) (f13 : 1 * x9 + ((-1) * x2 + ((-36) * x5 + 0)) ≤ 0) (f14 : x7 = x4) (f15 : x5 < x6) (kz_0_170 : 0 ≤ texts_0 ∧ texts_0 ≤ 100000000) (ex2 : gx = texts_0) (ex3 : 0 ≤ gx ∧ gx ≤ 99999993) : 1 * gx + ((-1) * x2 + ((-36) * x5 + 0)) ≤ 13 := by
  first | assumption | omega | grind
def o_Mo_writeGroup_at_l6_6 : or_T := (47, 14, [(0, (2, 0, 0, [165])), (2, (0, 0, 99998253, [])), (3, (2, 0, 0, [165])), (4, (0, 6, 7, [])), (5, (0, 0, 23, [])), (6, (0, 1, 24, [])), (7, (0, 6, 7, [])), (9, (0, 0, 99999995, [])), (10, (0, 0, 99999992, [])), (11, (0, 2, 99, [])), (12, (0, 1, 1, []))], [(7, [11, 12], [4]), (20, [11, 3, 5], [50, 1, 1, 1005, 1002, 1, 2, 1, 0, 3, 1, 2, 4, 7, 4, 3, 2, 1, 5, 0, 219, 1, 2]), (23, [10, 2, 5], [5, 1, -1, -36]), (23, [9, 2, 5], [0, 1, -1, -36]), (20, [7, 3, 5], [50, 1, 1, 1005, 1002, 1, 2, 1, 0, 3, 1, 2, 4, 7, 4, 3, 2, 1, 5, 0, 243, 1, 2]), (20, [6, 3], [30, 0, 1, 0, 0, -1, 3, 2005000]), (20, [6, 3], [30, 0, -1, 0, 0, 1, 3, 2005000]), (24, [0, 3], []), (20, [3, 10], [30, 8, 1, 1, 170, -1, 0, 0]), (102, [10], [7770675568902916283677847627294075626569627356208558085007249638955617140820833992704, 165170]), (23, [10, 2, 5], [5, 1, -1, -36]), (23, [9, 2, 5], [0, 1, -1, -36]), (102, [9], [7770675568902916283677847627294075626569627356208558085007249638955617140820833992704, 165170]), (23, [9, 2, 5], [0, 1, -1, -36]), (7, [7, 4], [0]), (7, [5, 6], [2])], [], [(0, 0, 99999993, [])], [(20, [3, 14], [30, 0, 1, 1, 170, -1, 0, 0]), (23, [14, 2, 5], [13, 1, -1, -36])], [], [(7, 4, 0, 0), (5, 6, -4294967296, -1)])
theorem oo_Mo_writeGroup_at_l6_6 {kA : Nat → ClassId} : or_ok PRD kA GG o_Mo_writeGroup_at_l6_6 := by
  refine or_mk fun A ta ws vs hD hth hl => ?_
  intro t0 r0 t2 k2 t3 r3 t4 k4 t5 k5 t6 k6 t7 k7 t9 k9 t10 k10 t11 k11 t12 k12 d0 d1 f0 f1 f2 f3 f4 f5 f6 f7 f8 ta1 w1 le1 s1 f10 f11 ta2 w2 le2 s2 f13 f14 f15
  replace f0 := shm_21 f0
  replace f1 := shm_718 f1
  replace f2 := shm_1909 f2
  replace f3 := shm_1908 f3
  replace f4 := shm_585 f4
  replace f5 := shm_135 f5
  replace f6 := shm_136 f6
  replace f7 := shm_5 f7
  replace f8 := shm_172 f8
  replace f10 := shm_1909 f10
  replace f11 := shm_1908 f11
  replace f13 := shm_1908 f13
  replace f14 := shm_37 f14
  replace f15 := shm_6 f15
  have q3 : n_v vs 3 = n_v vs 0 := f7.symm
  simp only [q3] at f1 f4 f5 f6 f8
  have cr_0_2 := fdq_12 hD hth r0
  have br_0_2_F5_0_0 : w_ei ws (w_ar ws (n_v vs 0) 2) (w_fi ws (n_v vs 0) 5 + 0) = w_el ws (w_ar ws (n_v vs 0) 2) (w_fi ws (n_v vs 0) 5 + 0).toNat := rfl
  have kz_0_170 := fdq_13 hD hth r0
  have kv0 := fdq_13 hD hth r0
  obtain ⟨x, ex, hx⟩ := iv_ex (ta := ta) (lo := 0) (hi := 99999993) (z := w_fi ws (n_v vs 0) 170) (by omega) (by omega) (by omega) (by omega)
  have ex2 : v_iv (Value.int x) = w_fi ws (n_v vs 0) 170 := ex
  have ex3 : 0 ≤ v_iv (Value.int x) ∧ v_iv (Value.int x) ≤ 99999993 := tv_rng hx
  have e_2 : n_v (vs ++ [Value.int x]) 2 = n_v vs 2 := n_v_old (by rw [hl]; decide)
  have e_3 : n_v (vs ++ [Value.int x]) 3 = n_v vs 3 := n_v_old (by rw [hl]; decide)
  have e_5 : n_v (vs ++ [Value.int x]) 5 = n_v vs 5 := n_v_old (by rw [hl]; decide)
  have e_14 : n_v (vs ++ [Value.int x]) 14 = Value.int x := n_v_new hl
  have nf0 : fc_1 PRD (20, [3, 14], [30, 0, 1, 1, 170, -1, 0, 0]) ws (vs ++ [Value.int x]) := by
    refine ⟨nf_inA hl rfl, sgq_140 ?_⟩
    · show 1 * w_fi ws (n_v (vs ++ [Value.int x]) 3) 170 + ((-1) * v_iv (n_v (vs ++ [Value.int x]) 14) + 0) ≤ 0
      simp only [e_3, e_14, q3]
      exact vc_Mo_writeGroup_at_l6_6_0 (v_iv (n_v vs 2)) (v_iv (n_v vs 4)) (v_iv (n_v vs 5)) (v_iv (n_v vs 6)) (v_iv (n_v vs 7)) (v_iv (n_v vs 9)) (v_iv (n_v vs 10)) (v_iv (n_v vs 11)) (v_iv (n_v vs 12)) (w_ei ws (w_ar ws (n_v vs 0) 2)) (w_fi ws (n_v vs 0) 5) (w_fi ws (n_v vs 0) 170) (v_iv (Value.int x)) k2 k4 k5 k6 k7 k9 k10 k11 k12 d0 d1 f0 f1 f2 f3 f4 f5 f6 f8 f10 f11 f13 f14 f15 kz_0_170 ex2 ex3
  have nf1 : fc_1 PRD (23, [14, 2, 5], [13, 1, -1, -36]) ws (vs ++ [Value.int x]) := by
    refine ⟨nf_inA hl rfl, sgq_1911 ?_⟩
    · show 1 * v_iv (n_v (vs ++ [Value.int x]) 14) + ((-1) * v_iv (n_v (vs ++ [Value.int x]) 2) + ((-36) * v_iv (n_v (vs ++ [Value.int x]) 5) + 0)) ≤ 13
      simp only [e_2, e_5, e_14]
      exact vc_Mo_writeGroup_at_l6_6_1 (v_iv (n_v vs 2)) (v_iv (n_v vs 4)) (v_iv (n_v vs 5)) (v_iv (n_v vs 6)) (v_iv (n_v vs 7)) (v_iv (n_v vs 9)) (v_iv (n_v vs 10)) (v_iv (n_v vs 11)) (v_iv (n_v vs 12)) (w_ei ws (w_ar ws (n_v vs 0) 2)) (w_fi ws (n_v vs 0) 5) (w_fi ws (n_v vs 0) 170) (v_iv (Value.int x)) k2 k4 k5 k6 k7 k9 k10 k11 k12 d0 d1 f0 f1 f2 f3 f4 f5 f6 f8 f10 f11 f13 f14 f15 kz_0_170 ex2 ex3
  exact ⟨(fun _ h => (by cases h)), [Value.int x], ag_one hx, List.forall_mem_cons.mpr ⟨⟨show (20 : Nat) < 100 from by decide, nf0⟩, List.forall_mem_cons.mpr ⟨⟨show (23 : Nat) < 100 from by decide, nf1⟩, (fun _ h => (by cases h))⟩⟩, (fun _ h => (by cases h))⟩
set_option maxHeartbeats 4000000 in
theorem vc_Mo_writeGroup_at_l6_7_0 (x2 : Int) (x4 : Int) (x5 : Int) (x6 : Int) (x7 : Int) (x9 : Int) (x10 : Int) (x11 : Int) (x12 : Int) (x14 : Int) (x15 : Int) (all_0 : Int → Int) (r_0 : Int) (texts_0 : Int) (gx : Int) (k2 : 0 ≤ x2 ∧ x2 ≤ 99998253) (k4 : 6 ≤ x4 ∧ x4 ≤ 7) (k5 : 0 ≤ x5 ∧ x5 ≤ 23) (k6 : 1 ≤ x6 ∧ x6 ≤ 24) (k7 : 6 ≤ x7 ∧ x7 ≤ 7) (k9 : 0 ≤ x9 ∧ x9 ≤ 99999995) (k10 : 0 ≤ x10 ∧ x10 ≤ 99999992) (k11 : 2 ≤ x11 ∧ x11 ≤ 99) (k12 : 1 ≤ x12 ∧ x12 ≤ 1) (k14 : 0 ≤ x14 ∧ x14 ≤ 99999993) (k15 : 0 ≤ x15 ∧ x15 ≤ 99) (d0 : x4 + 0 ≤ x7 ∧ x7 ≤ x4 + 0) (d1 : x6 + (-4294967296) ≤ x5 ∧ x5 ≤ x6 + (-1)) (f0 : x15 = all_0 (((r_0 + 219) + x5))) (f1 : 1 * x14 + ((-1) * x2 + ((-36) * x5 + 0)) ≤ 13) (f2 : x11 = all_0 (((r_0 + 219) + x5))) (f3 : 1 * x10 + ((-1) * x2 + ((-36) * x5 + 0)) ≤ 5) (f4 : 1 * x9 + ((-1) * x2 + ((-36) * x5 + 0)) ≤ 0) (f5 : x7 = all_0 (((r_0 + 243) + x5))) (f6 : 1 * x6 + ((-1) * all_0 (r_0 + 0) + 0) ≤ 0) (f7 : (-1) * x6 + (1 * all_0 (r_0 + 0) + 0) ≤ 0) (f9 : 1 * texts_0 + ((-1) * x14 + 0) ≤ 7) (f11 : 1 * x14 + ((-1) * x2 + ((-36) * x5 + 0)) ≤ 13) (f12 : x12 < x11) (f13 : 1 * x10 + ((-1) * x2 + ((-36) * x5 + 0)) ≤ 5) (f14 : 1 * x9 + ((-1) * x2 + ((-36) * x5 + 0)) ≤ 0) (f16 : 1 * x10 + ((-1) * x2 + ((-36) * x5 + 0)) ≤ 5) (f17 : 1 * x9 + ((-1) * x2 + ((-36) * x5 + 0)) ≤ 0) (f19 : 1 * x9 + ((-1) * x2 + ((-36) * x5 + 0)) ≤ 0) (f20 : x7 = x4) (f21 : x5 < x6) (kz_0_170 : 0 ≤ texts_0 ∧ texts_0 ≤ 100000000) (ex2 : gx = texts_0) (ex3 : 0 ≤ gx ∧ gx ≤ 99999987) : 1 * texts_0 + ((-1) * gx + 0) ≤ 0 := by
  first | assumption | omega | grind
set_option maxHeartbeats 4000000 in
theorem vc_Mo_writeGroup_at_l6_7_1 (x2 : Int) (x4 : Int) (x5 : Int) (x6 : Int) (x7 : Int) (x9 : Int) (x10 : Int) (x11 : Int) (x12 : Int) (x14 : Int) (x15 : Int) (all_0 : Int → Int) (r_0 : Int) (texts_0 : Int) (gx : Int) (k2 : 0 ≤ x2 ∧ x2 ≤ 99998253) (k4 : 6 ≤ x4 ∧ x4 ≤ 7) (k5 : 0 ≤ x5 ∧ x5 ≤ 23) (k6 : 1 ≤ x6 ∧ x6 ≤ 24) (k7 : 6 ≤ x7 ∧ x7 ≤ 7) (k9 : 0 ≤ x9 ∧ x9 ≤ 99999995) (k10 : 0 ≤ x10 ∧ x10 ≤ 99999992) (k11 : 2 ≤ x11 ∧ x11 ≤ 99) (k12 : 1 ≤ x12 ∧ x12 ≤ 1) (k14 : 0 ≤ x14 ∧ x14 ≤ 99999993) (k15 : 0 ≤ x15 ∧ x15 ≤ 99) (d0 : x4 + 0 ≤ x7 ∧ x7 ≤ x4 + 0) (d1 : x6 + (-4294967296) ≤ x5 ∧ x5 ≤ x6 + (-1)) (f0 : x15 = all_0 (((r_0 + 219) + x5))) (f1 : 1 * x14 + ((-1) * x2 + ((-36) * x5 + 0)) ≤ 13) (f2 : x11 = all_0 (((r_0 + 219) + x5))) (f3 : 1 * x10 + ((-1) * x2 + ((-36) * x5 + 0)) ≤ 5) (f4 : 1 * x9 + ((-1) * x2 + ((-36) * x5 + 0)) ≤ 0) (f5 : x7 = all_0 (((r_0 + 243) + x5))) (f6 : 1 * x6 + ((-1) * all_0 (r_0 + 0) + 0) ≤ 0) (f7 : (-1) * x6 + (1 * all_0 (r_0 + 0) + 0) ≤ 0) (f9 : 1 * texts_0 + ((-1) * x14 + 0) ≤ 7) (f11 : 1 * x14 + ((-1) * x2 + ((-36) * x5 + 0)) ≤ 13) (f12 : x12 < x11) (f13 : 1 * x10 + ((-1) * x2 + ((-36) * x5 + 0)) ≤ 5) (f14 : 1 * x9 + ((-1) * x2 + ((-36) * x5 + 0)) ≤ 0) (f16 : 1 * x10 + ((-1) * x2 + ((-36) * x5 + 0)) ≤ 5) (f17 : 1 * x9 + ((-1) * x2 + ((-36) * x5 + 0)) ≤ 0) (f19 : 1 * x9 + ((-1) * x2 + ((-36) * x5 + 0)) ≤ 0) (f20 : x7 = x4) (f21 : x5 < x6) (kz_0_170 : 0 ≤ texts_0 ∧ texts_0 ≤ 100000000) (ex2 : gx = texts_0) (ex3 : 0 ≤ gx ∧ gx ≤ 99999987) : 1 * gx + ((-1) * x2 + ((-36) * x5 + 0)) ≤ 20 := by
  first | assumption | omega | grind
def o_Mo_writeGroup_at_l6_7 : or_T := (56, 16, [(0, (2, 0, 0, [165])), (2, (0, 0, 99998253, [])), (3, (2, 0, 0, [165])), (4, (0, 6, 7, [])), (5, (0, 0, 23, [])), (6, (0, 1, 24, [])), (7, (0, 6, 7, [])), (9, (0, 0, 99999995, [])), (10, (0, 0, 99999992, [])), (11, (0, 2, 99, [])), (12, (0, 1, 1, [])), (14, (0, 0, 99999993, [])), (15, (0, 0, 99, []))], [(20, [15, 3, 5], [50, 1, 1, 1005, 1002, 1, 2, 1, 0, 3, 1, 2, 4, 7, 4, 3, 2, 1, 5, 0, 219, 1, 2]), (23, [14, 2, 5], [13, 1, -1, -36]), (20, [11, 3, 5], [50, 1, 1, 1005, 1002, 1, 2, 1, 0, 3, 1, 2, 4, 7, 4, 3, 2, 1, 5, 0, 219, 1, 2]), (23, [10, 2, 5], [5, 1, -1, -36]), (23, [9, 2, 5], [0, 1, -1, -36]), (20, [7, 3, 5], [50, 1, 1, 1005, 1002, 1, 2, 1, 0, 3, 1, 2, 4, 7, 4, 3, 2, 1, 5, 0, 243, 1, 2]), (20, [6, 3], [30, 0, 1, 0, 0, -1, 3, 2005000]), (20, [6, 3], [30, 0, -1, 0, 0, 1, 3, 2005000]), (24, [0, 3], []), (20, [3, 14], [30, 7, 1, 1, 170, -1, 0, 0]), (102, [14], [7770675568902916283677847627294075626569627356208558085007249638955617140820833992704, 165170]), (23, [14, 2, 5], [13, 1, -1, -36]), (7, [11, 12], [4]), (23, [10, 2, 5], [5, 1, -1, -36]), (23, [9, 2, 5], [0, 1, -1, -36]), (102, [10], [7770675568902916283677847627294075626569627356208558085007249638955617140820833992704, 165170]), (23, [10, 2, 5], [5, 1, -1, -36]), (23, [9, 2, 5], [0, 1, -1, -36]), (102, [9], [7770675568902916283677847627294075626569627356208558085007249638955617140820833992704, 165170]), (23, [9, 2, 5], [0, 1, -1, -36]), (7, [7, 4], [0]), (7, [5, 6], [2])], [], [(0, 0, 99999987, [])], [(20, [3, 16], [30, 0, 1, 1, 170, -1, 0, 0]), (23, [16, 2, 5], [20, 1, -1, -36])], [], [(7, 4, 0, 0), (5, 6, -4294967296, -1)])
theorem oo_Mo_writeGroup_at_l6_7 {kA : Nat → ClassId} : or_ok PRD kA GG o_Mo_writeGroup_at_l6_7 := by
  refine or_mk fun A ta ws vs hD hth hl => ?_
  intro t0 r0 t2 k2 t3 r3 t4 k4 t5 k5 t6 k6 t7 k7 t9 k9 t10 k10 t11 k11 t12 k12 t14 k14 t15 k15 d0 d1 f0 f1 f2 f3 f4 f5 f6 f7 f8 f9 ta1 w1 le1 s1 f11 f12 f13 f14 ta2 w2 le2 s2 f16 f17 ta3 w3 le3 s3 f19 f20 f21
  replace f0 := shm_718 f0
  replace f1 := shm_1911 f1
  replace f2 := shm_718 f2
  replace f3 := shm_1909 f3
  replace f4 := shm_1908 f4
  replace f5 := shm_585 f5
  replace f6 := shm_135 f6
  replace f7 := shm_136 f7
  replace f8 := shm_5 f8
  replace f9 := shm_233 f9
  replace f11 := shm_1911 f11
  replace f12 := shm_21 f12
  replace f13 := shm_1909 f13
  replace f14 := shm_1908 f14
  replace f16 := shm_1909 f16
  replace f17 := shm_1908 f17
  replace f19 := shm_1908 f19
  replace f20 := shm_37 f20
  replace f21 := shm_6 f21
  have q3 : n_v vs 3 = n_v vs 0 := f8.symm
  simp only [q3] at f0 f2 f5 f6 f7 f9
  have cr_0_2 := fdq_12 hD hth r0
  have br_0_2_F5_0_0 : w_ei ws (w_ar ws (n_v vs 0) 2) (w_fi ws (n_v vs 0) 5 + 0) = w_el ws (w_ar ws (n_v vs 0) 2) (w_fi ws (n_v vs 0) 5 + 0).toNat := rfl
  have kz_0_170 := fdq_13 hD hth r0
  have kv0 := fdq_13 hD hth r0
  obtain ⟨x, ex, hx⟩ := iv_ex (ta := ta) (lo := 0) (hi := 99999987) (z := w_fi ws (n_v vs 0) 170) (by omega) (by omega) (by omega) (by omega)
  have ex2 : v_iv (Value.int x) = w_fi ws (n_v vs 0) 170 := ex
  have ex3 : 0 ≤ v_iv (Value.int x) ∧ v_iv (Value.int x) ≤ 99999987 := tv_rng hx
  have e_2 : n_v (vs ++ [Value.int x]) 2 = n_v vs 2 := n_v_old (by rw [hl]; decide)
  have e_3 : n_v (vs ++ [Value.int x]) 3 = n_v vs 3 := n_v_old (by rw [hl]; decide)
  have e_5 : n_v (vs ++ [Value.int x]) 5 = n_v vs 5 := n_v_old (by rw [hl]; decide)
  have e_16 : n_v (vs ++ [Value.int x]) 16 = Value.int x := n_v_new hl
  have nf0 : fc_1 PRD (20, [3, 16], [30, 0, 1, 1, 170, -1, 0, 0]) ws (vs ++ [Value.int x]) := by
    refine ⟨nf_inA hl rfl, sgq_140 ?_⟩
    · show 1 * w_fi ws (n_v (vs ++ [Value.int x]) 3) 170 + ((-1) * v_iv (n_v (vs ++ [Value.int x]) 16) + 0) ≤ 0
      simp only [e_3, e_16, q3]
      exact vc_Mo_writeGroup_at_l6_7_0 (v_iv (n_v vs 2)) (v_iv (n_v vs 4)) (v_iv (n_v vs 5)) (v_iv (n_v vs 6)) (v_iv (n_v vs 7)) (v_iv (n_v vs 9)) (v_iv (n_v vs 10)) (v_iv (n_v vs 11)) (v_iv (n_v vs 12)) (v_iv (n_v vs 14)) (v_iv (n_v vs 15)) (w_ei ws (w_ar ws (n_v vs 0) 2)) (w_fi ws (n_v vs 0) 5) (w_fi ws (n_v vs 0) 170) (v_iv (Value.int x)) k2 k4 k5 k6 k7 k9 k10 k11 k12 k14 k15 d0 d1 f0 f1 f2 f3 f4 f5 f6 f7 f9 f11 f12 f13 f14 f16 f17 f19 f20 f21 kz_0_170 ex2 ex3
  have nf1 : fc_1 PRD (23, [16, 2, 5], [20, 1, -1, -36]) ws (vs ++ [Value.int x]) := by
    refine ⟨nf_inA hl rfl, sgq_1912 ?_⟩
    · show 1 * v_iv (n_v (vs ++ [Value.int x]) 16) + ((-1) * v_iv (n_v (vs ++ [Value.int x]) 2) + ((-36) * v_iv (n_v (vs ++ [Value.int x]) 5) + 0)) ≤ 20
      simp only [e_2, e_5, e_16]
      exact vc_Mo_writeGroup_at_l6_7_1 (v_iv (n_v vs 2)) (v_iv (n_v vs 4)) (v_iv (n_v vs 5)) (v_iv (n_v vs 6)) (v_iv (n_v vs 7)) (v_iv (n_v vs 9)) (v_iv (n_v vs 10)) (v_iv (n_v vs 11)) (v_iv (n_v vs 12)) (v_iv (n_v vs 14)) (v_iv (n_v vs 15)) (w_ei ws (w_ar ws (n_v vs 0) 2)) (w_fi ws (n_v vs 0) 5) (w_fi ws (n_v vs 0) 170) (v_iv (Value.int x)) k2 k4 k5 k6 k7 k9 k10 k11 k12 k14 k15 d0 d1 f0 f1 f2 f3 f4 f5 f6 f7 f9 f11 f12 f13 f14 f16 f17 f19 f20 f21 kz_0_170 ex2 ex3
  exact ⟨(fun _ h => (by cases h)), [Value.int x], ag_one hx, List.forall_mem_cons.mpr ⟨⟨show (20 : Nat) < 100 from by decide, nf0⟩, List.forall_mem_cons.mpr ⟨⟨show (23 : Nat) < 100 from by decide, nf1⟩, (fun _ h => (by cases h))⟩⟩, (fun _ h => (by cases h))⟩
set_option maxHeartbeats 4000000 in
theorem vc_Mo_writeGroup_at_l6_8_0 (x2 : Int) (x4 : Int) (x5 : Int) (x6 : Int) (x7 : Int) (x9 : Int) (x10 : Int) (x11 : Int) (x12 : Int) (x14 : Int) (x15 : Int) (x16 : Int) (all_0 : Int → Int) (r_0 : Int) (texts_0 : Int) (gx : Int) (k2 : 0 ≤ x2 ∧ x2 ≤ 99998253) (k4 : 6 ≤ x4 ∧ x4 ≤ 7) (k5 : 0 ≤ x5 ∧ x5 ≤ 23) (k6 : 1 ≤ x6 ∧ x6 ≤ 24) (k7 : 6 ≤ x7 ∧ x7 ≤ 7) (k9 : 0 ≤ x9 ∧ x9 ≤ 99999995) (k10 : 0 ≤ x10 ∧ x10 ≤ 99999992) (k11 : 2 ≤ x11 ∧ x11 ≤ 99) (k12 : 1 ≤ x12 ∧ x12 ≤ 1) (k14 : 0 ≤ x14 ∧ x14 ≤ 99999993) (k15 : 0 ≤ x15 ∧ x15 ≤ 99) (k16 : 0 ≤ x16 ∧ x16 ≤ 99999987) (d0 : x4 + 0 ≤ x7 ∧ x7 ≤ x4 + 0) (d1 : x6 + (-4294967296) ≤ x5 ∧ x5 ≤ x6 + (-1)) (f0 : 1 * x16 + ((-1) * x2 + ((-36) * x5 + 0)) ≤ 20) (f1 : x15 = all_0 (((r_0 + 219) + x5))) (f2 : 1 * x14 + ((-1) * x2 + ((-36) * x5 + 0)) ≤ 13) (f3 : x11 = all_0 (((r_0 + 219) + x5))) (f4 : 1 * x10 + ((-1) * x2 + ((-36) * x5 + 0)) ≤ 5) (f5 : 1 * x9 + ((-1) * x2 + ((-36) * x5 + 0)) ≤ 0) (f6 : x7 = all_0 (((r_0 + 243) + x5))) (f7 : 1 * x6 + ((-1) * all_0 (r_0 + 0) + 0) ≤ 0) (f8 : (-1) * x6 + (1 * all_0 (r_0 + 0) + 0) ≤ 0) (f10 : 1 * texts_0 + ((-1) * x16 + 0) ≤ 13) (f12 : 1 * x16 + ((-1) * x2 + ((-36) * x5 + 0)) ≤ 20) (f13 : 1 * x14 + ((-1) * x2 + ((-36) * x5 + 0)) ≤ 13) (f14 : 1 * x10 + ((-1) * x2 + ((-36) * x5 + 0)) ≤ 5) (f15 : 1 * x9 + ((-1) * x2 + ((-36) * x5 + 0)) ≤ 0) (f17 : 1 * x14 + ((-1) * x2 + ((-36) * x5 + 0)) ≤ 13) (f18 : x12 < x11) (f19 : 1 * x10 + ((-1) * x2 + ((-36) * x5 + 0)) ≤ 5) (f20 : 1 * x9 + ((-1) * x2 + ((-36) * x5 + 0)) ≤ 0) (f22 : 1 * x10 + ((-1) * x2 + ((-36) * x5 + 0)) ≤ 5) (f23 : 1 * x9 + ((-1) * x2 + ((-36) * x5 + 0)) ≤ 0) (f25 : 1 * x9 + ((-1) * x2 + ((-36) * x5 + 0)) ≤ 0) (f26 : x7 = x4) (f27 : x5 < x6) (kz_0_170 : 0 ≤ texts_0 ∧ texts_0 ≤ 100000000) (ex2 : gx = texts_0) (ex3 : 0 ≤ gx ∧ gx ≤ 99999999) : 1 * texts_0 + ((-1) * gx + 0) ≤ 0 := by
  first | assumption | omega | grind
set_option maxHeartbeats 4000000 in
theorem vc_Mo_writeGroup_at_l6_8_1 (x2 : Int) (x4 : Int) (x5 : Int) (x6 : Int) (x7 : Int) (x9 : Int) (x10 : Int) (x11 : Int) (x12 : Int) (x14 : Int) (x15 : Int) (x16 : Int) (all_0 : Int → Int) (r_0 : Int) (texts_0 : Int) (gx : Int) (k2 : 0 ≤ x2 ∧ x2 ≤ 99998253) (k4 : 6 ≤ x4 ∧ x4 ≤ 7) (k5 : 0 ≤ x5 ∧ x5 ≤ 23) (k6 : 1 ≤ x6 ∧ x6 ≤ 24) (k7 : 6 ≤ x7 ∧ x7 ≤ 7) (k9 : 0 ≤ x9 ∧ x9 ≤ 99999995) (k10 : 0 ≤ x10 ∧ x10 ≤ 99999992) (k11 : 2 ≤ x11 ∧ x11 ≤ 99) (k12 : 1 ≤ x12 ∧ x12 ≤ 1) (k14 : 0 ≤ x14 ∧ x14 ≤ 99999993) (k15 : 0 ≤ x15 ∧ x15 ≤ 99) (k16 : 0 ≤ x16 ∧ x16 ≤ 99999987) (d0 : x4 + 0 ≤ x7 ∧ x7 ≤ x4 + 0) (d1 : x6 + (-4294967296) ≤ x5 ∧ x5 ≤ x6 + (-1)) (f0 : 1 * x16 + ((-1) * x2 + ((-36) * x5 + 0)) ≤ 20) (f1 : x15 = all_0 (((r_0 + 219) + x5))) (f2 : 1 * x14 + ((-1) * x2 + ((-36) * x5 + 0)) ≤ 13) (f3 : x11 = all_0 (((r_0 + 219) + x5))) (f4 : 1 * x10 + ((-1) * x2 + ((-36) * x5 + 0)) ≤ 5) (f5 : 1 * x9 + ((-1) * x2 + ((-36) * x5 + 0)) ≤ 0) (f6 : x7 = all_0 (((r_0 + 243) + x5))) (f7 : 1 * x6 + ((-1) * all_0 (r_0 + 0) + 0) ≤ 0) (f8 : (-1) * x6 + (1 * all_0 (r_0 + 0) + 0) ≤ 0) (f10 : 1 * texts_0 + ((-1) * x16 + 0) ≤ 13) (f12 : 1 * x16 + ((-1) * x2 + ((-36) * x5 + 0)) ≤ 20) (f13 : 1 * x14 + ((-1) * x2 + ((-36) * x5 + 0)) ≤ 13) (f14 : 1 * x10 + ((-1) * x2 + ((-36) * x5 + 0)) ≤ 5) (f15 : 1 * x9 + ((-1) * x2 + ((-36) * x5 + 0)) ≤ 0) (f17 : 1 * x14 + ((-1) * x2 + ((-36) * x5 + 0)) ≤ 13) (f18 : x12 < x11) (f19 : 1 * x10 + ((-1) * x2 + ((-36) * x5 + 0)) ≤ 5) (f20 : 1 * x9 + ((-1) * x2 + ((-36) * x5 + 0)) ≤ 0) (f22 : 1 * x10 + ((-1) * x2 + ((-36) * x5 + 0)) ≤ 5) (f23 : 1 * x9 + ((-1) * x2 + ((-36) * x5 + 0)) ≤ 0) (f25 : 1 * x9 + ((-1) * x2 + ((-36) * x5 + 0)) ≤ 0) (f26 : x7 = x4) (f27 : x5 < x6) (kz_0_170 : 0 ≤ texts_0 ∧ texts_0 ≤ 100000000) (ex2 : gx = texts_0) (ex3 : 0 ≤ gx ∧ gx ≤ 99999999) : 1 * gx + ((-1) * x2 + ((-36) * x5 + 0)) ≤ 33 := by
  first | assumption | omega | grind
def o_Mo_writeGroup_at_l6_8 : or_T := (63, 18, [(0, (2, 0, 0, [165])), (2, (0, 0, 99998253, [])), (3, (2, 0, 0, [165])), (4, (0, 6, 7, [])), (5, (0, 0, 23, [])), (6, (0, 1, 24, [])), (7, (0, 6, 7, [])), (9, (0, 0, 99999995, [])), (10, (0, 0, 99999992, [])), (11, (0, 2, 99, [])), (12, (0, 1, 1, [])), (14, (0, 0, 99999993, [])), (15, (0, 0, 99, [])), (16, (0, 0, 99999987, []))], [(23, [16, 2, 5], [20, 1, -1, -36]), (20, [15, 3, 5], [50, 1, 1, 1005, 1002, 1, 2, 1, 0, 3, 1, 2, 4, 7, 4, 3, 2, 1, 5, 0, 219, 1, 2]), (23, [14, 2, 5], [13, 1, -1, -36]), (20, [11, 3, 5], [50, 1, 1, 1005, 1002, 1, 2, 1, 0, 3, 1, 2, 4, 7, 4, 3, 2, 1, 5, 0, 219, 1, 2]), (23, [10, 2, 5], [5, 1, -1, -36]), (23, [9, 2, 5], [0, 1, -1, -36]), (20, [7, 3, 5], [50, 1, 1, 1005, 1002, 1, 2, 1, 0, 3, 1, 2, 4, 7, 4, 3, 2, 1, 5, 0, 243, 1, 2]), (20, [6, 3], [30, 0, 1, 0, 0, -1, 3, 2005000]), (20, [6, 3], [30, 0, -1, 0, 0, 1, 3, 2005000]), (24, [0, 3], []), (20, [3, 16], [30, 13, 1, 1, 170, -1, 0, 0]), (102, [16], [7770675568902916283677847627294075626569627356208558085007249638955617140820833992704, 165170]), (23, [16, 2, 5], [20, 1, -1, -36]), (23, [14, 2, 5], [13, 1, -1, -36]), (23, [10, 2, 5], [5, 1, -1, -36]), (23, [9, 2, 5], [0, 1, -1, -36]), (102, [14], [7770675568902916283677847627294075626569627356208558085007249638955617140820833992704, 165170]), (23, [14, 2, 5], [13, 1, -1, -36]), (7, [11, 12], [4]), (23, [10, 2, 5], [5, 1, -1, -36]), (23, [9, 2, 5], [0, 1, -1, -36]), (102, [10], [7770675568902916283677847627294075626569627356208558085007249638955617140820833992704, 165170]), (23, [10, 2, 5], [5, 1, -1, -36]), (23, [9, 2, 5], [0, 1, -1, -36]), (102, [9], [7770675568902916283677847627294075626569627356208558085007249638955617140820833992704, 165170]), (23, [9, 2, 5], [0, 1, -1, -36]), (7, [7, 4], [0]), (7, [5, 6], [2])], [], [(0, 0, 99999999, [])], [(20, [3, 18], [30, 0, 1, 1, 170, -1, 0, 0]), (23, [18, 2, 5], [33, 1, -1, -36])], [], [(7, 4, 0, 0), (5, 6, -4294967296, -1)])
theorem oo_Mo_writeGroup_at_l6_8 {kA : Nat → ClassId} : or_ok PRD kA GG o_Mo_writeGroup_at_l6_8 := by
  refine or_mk fun A ta ws vs hD hth hl => ?_
  intro t0 r0 t2 k2 t3 r3 t4 k4 t5 k5 t6 k6 t7 k7 t9 k9 t10 k10 t11 k11 t12 k12 t14 k14 t15 k15 t16 k16 d0 d1 f0 f1 f2 f3 f4 f5 f6 f7 f8 f9 f10 ta1 w1 le1 s1 f12 f13 f14 f15 ta2 w2 le2 s2 f17 f18 f19 f20 ta3 w3 le3 s3 f22 f23 ta4 w4 le4 s4 f25 f26 f27
  replace f0 := shm_1912 f0
  replace f1 := shm_718 f1
  replace f2 := shm_1911 f2
  replace f3 := shm_718 f3
  replace f4 := shm_1909 f4
  replace f5 := shm_1908 f5
  replace f6 := shm_585 f6
  replace f7 := shm_135 f7
  replace f8 := shm_136 f8
  replace f9 := shm_5 f9
  replace f10 := shm_1026 f10
  replace f12 := shm_1912 f12
  replace f13 := shm_1911 f13
  replace f14 := shm_1909 f14
  replace f15 := shm_1908 f15
  replace f17 := shm_1911 f17
  replace f18 := shm_21 f18
  replace f19 := shm_1909 f19
  replace f20 := shm_1908 f20
  replace f22 := shm_1909 f22
  replace f23 := shm_1908 f23
  replace f25 := shm_1908 f25
  replace f26 := shm_37 f26
  replace f27 := shm_6 f27
  have q3 : n_v vs 3 = n_v vs 0 := f9.symm
  simp only [q3] at f1 f3 f6 f7 f8 f10
  have cr_0_2 := fdq_12 hD hth r0
  have br_0_2_F5_0_0 : w_ei ws (w_ar ws (n_v vs 0) 2) (w_fi ws (n_v vs 0) 5 + 0) = w_el ws (w_ar ws (n_v vs 0) 2) (w_fi ws (n_v vs 0) 5 + 0).toNat := rfl
  have kz_0_170 := fdq_13 hD hth r0
  have kv0 := fdq_13 hD hth r0
  obtain ⟨x, ex, hx⟩ := iv_ex (ta := ta) (lo := 0) (hi := 99999999) (z := w_fi ws (n_v vs 0) 170) (by omega) (by omega) (by omega) (by omega)
  have ex2 : v_iv (Value.int x) = w_fi ws (n_v vs 0) 170 := ex
  have ex3 : 0 ≤ v_iv (Value.int x) ∧ v_iv (Value.int x) ≤ 99999999 := tv_rng hx
  have e_2 : n_v (vs ++ [Value.int x]) 2 = n_v vs 2 := n_v_old (by rw [hl]; decide)
  have e_3 : n_v (vs ++ [Value.int x]) 3 = n_v vs 3 := n_v_old (by rw [hl]; decide)
  have e_5 : n_v (vs ++ [Value.int x]) 5 = n_v vs 5 := n_v_old (by rw [hl]; decide)
  have e_18 : n_v (vs ++ [Value.int x]) 18 = Value.int x := n_v_new hl
  have nf0 : fc_1 PRD (20, [3, 18], [30, 0, 1, 1, 170, -1, 0, 0]) ws (vs ++ [Value.int x]) := by
    refine ⟨nf_inA hl rfl, sgq_140 ?_⟩
    · show 1 * w_fi ws (n_v (vs ++ [Value.int x]) 3) 170 + ((-1) * v_iv (n_v (vs ++ [Value.int x]) 18) + 0) ≤ 0
      simp only [e_3, e_18, q3]
      exact vc_Mo_writeGroup_at_l6_8_0 (v_iv (n_v vs 2)) (v_iv (n_v vs 4)) (v_iv (n_v vs 5)) (v_iv (n_v vs 6)) (v_iv (n_v vs 7)) (v_iv (n_v vs 9)) (v_iv (n_v vs 10)) (v_iv (n_v vs 11)) (v_iv (n_v vs 12)) (v_iv (n_v vs 14)) (v_iv (n_v vs 15)) (v_iv (n_v vs 16)) (w_ei ws (w_ar ws (n_v vs 0) 2)) (w_fi ws (n_v vs 0) 5) (w_fi ws (n_v vs 0) 170) (v_iv (Value.int x)) k2 k4 k5 k6 k7 k9 k10 k11 k12 k14 k15 k16 d0 d1 f0 f1 f2 f3 f4 f5 f6 f7 f8 f10 f12 f13 f14 f15 f17 f18 f19 f20 f22 f23 f25 f26 f27 kz_0_170 ex2 ex3
  have nf1 : fc_1 PRD (23, [18, 2, 5], [33, 1, -1, -36]) ws (vs ++ [Value.int x]) := by
    refine ⟨nf_inA hl rfl, sgq_1913 ?_⟩
    · show 1 * v_iv (n_v (vs ++ [Value.int x]) 18) + ((-1) * v_iv (n_v (vs ++ [Value.int x]) 2) + ((-36) * v_iv (n_v (vs ++ [Value.int x]) 5) + 0)) ≤ 33
      simp only [e_2, e_5, e_18]
      exact vc_Mo_writeGroup_at_l6_8_1 (v_iv (n_v vs 2)) (v_iv (n_v vs 4)) (v_iv (n_v vs 5)) (v_iv (n_v vs 6)) (v_iv (n_v vs 7)) (v_iv (n_v vs 9)) (v_iv (n_v vs 10)) (v_iv (n_v vs 11)) (v_iv (n_v vs 12)) (v_iv (n_v vs 14)) (v_iv (n_v vs 15)) (v_iv (n_v vs 16)) (w_ei ws (w_ar ws (n_v vs 0) 2)) (w_fi ws (n_v vs 0) 5) (w_fi ws (n_v vs 0) 170) (v_iv (Value.int x)) k2 k4 k5 k6 k7 k9 k10 k11 k12 k14 k15 k16 d0 d1 f0 f1 f2 f3 f4 f5 f6 f7 f8 f10 f12 f13 f14 f15 f17 f18 f19 f20 f22 f23 f25 f26 f27 kz_0_170 ex2 ex3
  exact ⟨(fun _ h => (by cases h)), [Value.int x], ag_one hx, List.forall_mem_cons.mpr ⟨⟨show (20 : Nat) < 100 from by decide, nf0⟩, List.forall_mem_cons.mpr ⟨⟨show (23 : Nat) < 100 from by decide, nf1⟩, (fun _ h => (by cases h))⟩⟩, (fun _ h => (by cases h))⟩
set_option maxHeartbeats 4000000 in
theorem vc_Mo_writeGroup_at_l6_9_0 (x2 : Int) (x4 : Int) (x5 : Int) (x6 : Int) (x7 : Int) (x9 : Int) (x10 : Int) (x11 : Int) (x12 : Int) (x14 : Int) (x15 : Int) (x16 : Int) (x18 : Int) (all_0 : Int → Int) (r_0 : Int) (texts_0 : Int) (gx : Int) (k2 : 0 ≤ x2 ∧ x2 ≤ 99998253) (k4 : 6 ≤ x4 ∧ x4 ≤ 7) (k5 : 0 ≤ x5 ∧ x5 ≤ 23) (k6 : 1 ≤ x6 ∧ x6 ≤ 24) (k7 : 6 ≤ x7 ∧ x7 ≤ 7) (k9 : 0 ≤ x9 ∧ x9 ≤ 99999995) (k10 : 0 ≤ x10 ∧ x10 ≤ 99999992) (k11 : 2 ≤ x11 ∧ x11 ≤ 99) (k12 : 1 ≤ x12 ∧ x12 ≤ 1) (k14 : 0 ≤ x14 ∧ x14 ≤ 99999993) (k15 : 0 ≤ x15 ∧ x15 ≤ 99) (k16 : 0 ≤ x16 ∧ x16 ≤ 99999987) (k18 : 0 ≤ x18 ∧ x18 ≤ 99999999) (d0 : x4 + 0 ≤ x7 ∧ x7 ≤ x4 + 0) (d1 : x6 + (-4294967296) ≤ x5 ∧ x5 ≤ x6 + (-1)) (f0 : 1 * x18 + ((-1) * x2 + ((-36) * x5 + 0)) ≤ 33) (f1 : 1 * x16 + ((-1) * x2 + ((-36) * x5 + 0)) ≤ 20) (f2 : x15 = all_0 (((r_0 + 219) + x5))) (f3 : 1 * x14 + ((-1) * x2 + ((-36) * x5 + 0)) ≤ 13) (f4 : x11 = all_0 (((r_0 + 219) + x5))) (f5 : 1 * x10 + ((-1) * x2 + ((-36) * x5 + 0)) ≤ 5) (f6 : 1 * x9 + ((-1) * x2 + ((-36) * x5 + 0)) ≤ 0) (f7 : x7 = all_0 (((r_0 + 243) + x5))) (f8 : 1 * x6 + ((-1) * all_0 (r_0 + 0) + 0) ≤ 0) (f9 : (-1) * x6 + (1 * all_0 (r_0 + 0) + 0) ≤ 0) (f11 : 1 * texts_0 + ((-1) * x18 + 0) ≤ 1) (f13 : 1 * x18 + ((-1) * x2 + ((-36) * x5 + 0)) ≤ 33) (f14 : 1 * x16 + ((-1) * x2 + ((-36) * x5 + 0)) ≤ 20) (f15 : 1 * x14 + ((-1) * x2 + ((-36) * x5 + 0)) ≤ 13) (f16 : 1 * x10 + ((-1) * x2 + ((-36) * x5 + 0)) ≤ 5) (f17 : 1 * x9 + ((-1) * x2 + ((-36) * x5 + 0)) ≤ 0) (f19 : 1 * x16 + ((-1) * x2 + ((-36) * x5 + 0)) ≤ 20) (f20 : 1 * x14 + ((-1) * x2 + ((-36) * x5 + 0)) ≤ 13) (f21 : 1 * x10 + ((-1) * x2 + ((-36) * x5 + 0)) ≤ 5) (f22 : 1 * x9 + ((-1) * x2 + ((-36) * x5 + 0)) ≤ 0) (f24 : 1 * x14 + ((-1) * x2 + ((-36) * x5 + 0)) ≤ 13) (f25 : x12 < x11) (f26 : 1 * x10 + ((-1) * x2 + ((-36) * x5 + 0)) ≤ 5) (f27 : 1 * x9 + ((-1) * x2 + ((-36) * x5 + 0)) ≤ 0) (f29 : 1 * x10 + ((-1) * x2 + ((-36) * x5 + 0)) ≤ 5) (f30 : 1 * x9 + ((-1) * x2 + ((-36) * x5 + 0)) ≤ 0) (f32 : 1 * x9 + ((-1) * x2 + ((-36) * x5 + 0)) ≤ 0) (f33 : x7 = x4) (f34 : x5 < x6) (kz_0_170 : 0 ≤ texts_0 ∧ texts_0 ≤ 100000000) (ex2 : gx = texts_0) (ex3 : 0 ≤ gx ∧ gx ≤ 99999998) : 1 * texts_0 + ((-1) * gx + 0) ≤ 0 := by
  first | assumption | omega | grind
set_option maxHeartbeats 4000000 in
theorem vc_Mo_writeGroup_at_l6_9_1 (x2 : Int) (x4 : Int) (x5 : Int) (x6 : Int) (x7 : Int) (x9 : Int) (x10 : Int) (x11 : Int) (x12 : Int) (x14 : Int) (x15 : Int) (x16 : Int) (x18 : Int) (all_0 : Int → Int) (r_0 : Int) (texts_0 : Int) (gx : Int) (k2 : 0 ≤ x2 ∧ x2 ≤ 99998253) (k4 : 6 ≤ x4 ∧ x4 ≤ 7) (k5 : 0 ≤ x5 ∧ x5 ≤ 23) (k6 : 1 ≤ x6 ∧ x6 ≤ 24) (k7 : 6 ≤ x7 ∧ x7 ≤ 7) (k9 : 0 ≤ x9 ∧ x9 ≤ 99999995) (k10 : 0 ≤ x10 ∧ x10 ≤ 99999992) (k11 : 2 ≤ x11 ∧ x11 ≤ 99) (k12 : 1 ≤ x12 ∧ x12 ≤ 1) (k14 : 0 ≤ x14 ∧ x14 ≤ 99999993) (k15 : 0 ≤ x15 ∧ x15 ≤ 99) (k16 : 0 ≤ x16 ∧ x16 ≤ 99999987) (k18 : 0 ≤ x18 ∧ x18 ≤ 99999999) (d0 : x4 + 0 ≤ x7 ∧ x7 ≤ x4 + 0) (d1 : x6 + (-4294967296) ≤ x5 ∧ x5 ≤ x6 + (-1)) (f0 : 1 * x18 + ((-1) * x2 + ((-36) * x5 + 0)) ≤ 33) (f1 : 1 * x16 + ((-1) * x2 + ((-36) * x5 + 0)) ≤ 20) (f2 : x15 = all_0 (((r_0 + 219) + x5))) (f3 : 1 * x14 + ((-1) * x2 + ((-36) * x5 + 0)) ≤ 13) (f4 : x11 = all_0 (((r_0 + 219) + x5))) (f5 : 1 * x10 + ((-1) * x2 + ((-36) * x5 + 0)) ≤ 5) (f6 : 1 * x9 + ((-1) * x2 + ((-36) * x5 + 0)) ≤ 0) (f7 : x7 = all_0 (((r_0 + 243) + x5))) (f8 : 1 * x6 + ((-1) * all_0 (r_0 + 0) + 0) ≤ 0) (f9 : (-1) * x6 + (1 * all_0 (r_0 + 0) + 0) ≤ 0) (f11 : 1 * texts_0 + ((-1) * x18 + 0) ≤ 1) (f13 : 1 * x18 + ((-1) * x2 + ((-36) * x5 + 0)) ≤ 33) (f14 : 1 * x16 + ((-1) * x2 + ((-36) * x5 + 0)) ≤ 20) (f15 : 1 * x14 + ((-1) * x2 + ((-36) * x5 + 0)) ≤ 13) (f16 : 1 * x10 + ((-1) * x2 + ((-36) * x5 + 0)) ≤ 5) (f17 : 1 * x9 + ((-1) * x2 + ((-36) * x5 + 0)) ≤ 0) (f19 : 1 * x16 + ((-1) * x2 + ((-36) * x5 + 0)) ≤ 20) (f20 : 1 * x14 + ((-1) * x2 + ((-36) * x5 + 0)) ≤ 13) (f21 : 1 * x10 + ((-1) * x2 + ((-36) * x5 + 0)) ≤ 5) (f22 : 1 * x9 + ((-1) * x2 + ((-36) * x5 + 0)) ≤ 0) (f24 : 1 * x14 + ((-1) * x2 + ((-36) * x5 + 0)) ≤ 13) (f25 : x12 < x11) (f26 : 1 * x10 + ((-1) * x2 + ((-36) * x5 + 0)) ≤ 5) (f27 : 1 * x9 + ((-1) * x2 + ((-36) * x5 + 0)) ≤ 0) (f29 : 1 * x10 + ((-1) * x2 + ((-36) * x5 + 0)) ≤ 5) (f30 : 1 * x9 + ((-1) * x2 + ((-36) * x5 + 0)) ≤ 0) (f32 : 1 * x9 + ((-1) * x2 + ((-36) * x5 + 0)) ≤ 0) (f33 : x7 = x4) (f34 : x5 < x6) (kz_0_170 : 0 ≤ texts_0 ∧ texts_0 ≤ 100000000) (ex2 : gx = texts_0) (ex3 : 0 ≤ gx ∧ gx ≤ 99999998) : 1 * gx + ((-1) * x2 + ((-36) * x5 + 0)) ≤ 34 := by
  first | assumption | omega | grind
def o_Mo_writeGroup_at_l6_9 : or_T := (70, 20, [(0, (2, 0, 0, [165])), (2, (0, 0, 99998253, [])), (3, (2, 0, 0, [165])), (4, (0, 6, 7, [])), (5, (0, 0, 23, [])), (6, (0, 1, 24, [])), (7, (0, 6, 7, [])), (9, (0, 0, 99999995, [])), (10, (0, 0, 99999992, [])), (11, (0, 2, 99, [])), (12, (0, 1, 1, [])), (14, (0, 0, 99999993, [])), (15, (0, 0, 99, [])), (16, (0, 0, 99999987, [])), (18, (0, 0, 99999999, []))], [(23, [18, 2, 5], [33, 1, -1, -36]), (23, [16, 2, 5], [20, 1, -1, -36]), (20, [15, 3, 5], [50, 1, 1, 1005, 1002, 1, 2, 1, 0, 3, 1, 2, 4, 7, 4, 3, 2, 1, 5, 0, 219, 1, 2]), (23, [14, 2, 5], [13, 1, -1, -36]), (20, [11, 3, 5], [50, 1, 1, 1005, 1002, 1, 2, 1, 0, 3, 1, 2, 4, 7, 4, 3, 2, 1, 5, 0, 219, 1, 2]), (23, [10, 2, 5], [5, 1, -1, -36]), (23, [9, 2, 5], [0, 1, -1, -36]), (20, [7, 3, 5], [50, 1, 1, 1005, 1002, 1, 2, 1, 0, 3, 1, 2, 4, 7, 4, 3, 2, 1, 5, 0, 243, 1, 2]), (20, [6, 3], [30, 0, 1, 0, 0, -1, 3, 2005000]), (20, [6, 3], [30, 0, -1, 0, 0, 1, 3, 2005000]), (24, [0, 3], []), (20, [3, 18], [30, 1, 1, 1, 170, -1, 0, 0]), (102, [18], [7770675568902916283677847627294075626569627356208558085007249638955617140820833992704, 165170]), (23, [18, 2, 5], [33, 1, -1, -36]), (23, [16, 2, 5], [20, 1, -1, -36]), (23, [14, 2, 5], [13, 1, -1, -36]), (23, [10, 2, 5], [5, 1, -1, -36]), (23, [9, 2, 5], [0, 1, -1, -36]), (102, [16], [7770675568902916283677847627294075626569627356208558085007249638955617140820833992704, 165170]), (23, [16, 2, 5], [20, 1, -1, -36]), (23, [14, 2, 5], [13, 1, -1, -36]), (23, [10, 2, 5], [5, 1, -1, -36]), (23, [9, 2, 5], [0, 1, -1, -36]), (102, [14], [7770675568902916283677847627294075626569627356208558085007249638955617140820833992704, 165170]), (23, [14, 2, 5], [13, 1, -1, -36]), (7, [11, 12], [4]), (23, [10, 2, 5], [5, 1, -1, -36]), (23, [9, 2, 5], [0, 1, -1, -36]), (102, [10], [7770675568902916283677847627294075626569627356208558085007249638955617140820833992704, 165170]), (23, [10, 2, 5], [5, 1, -1, -36]), (23, [9, 2, 5], [0, 1, -1, -36]), (102, [9], [7770675568902916283677847627294075626569627356208558085007249638955617140820833992704, 165170]), (23, [9, 2, 5], [0, 1, -1, -36]), (7, [7, 4], [0]), (7, [5, 6], [2])], [], [(0, 0, 99999998, [])], [(20, [3, 20], [30, 0, 1, 1, 170, -1, 0, 0]), (23, [20, 2, 5], [34, 1, -1, -36])], [], [(7, 4, 0, 0), (5, 6, -4294967296, -1)])
theorem oo_Mo_writeGroup_at_l6_9 {kA : Nat → ClassId} : or_ok PRD kA GG o_Mo_writeGroup_at_l6_9 := by
  refine or_mk fun A ta ws vs hD hth hl => ?_
  intro t0 r0 t2 k2 t3 r3 t4 k4 t5 k5 t6 k6 t7 k7 t9 k9 t10 k10 t11 k11 t12 k12 t14 k14 t15 k15 t16 k16 t18 k18 d0 d1 f0 f1 f2 f3 f4 f5 f6 f7 f8 f9 f10 f11 ta1 w1 le1 s1 f13 f14 f15 f16 f17 ta2 w2 le2 s2 f19 f20 f21 f22 ta3 w3 le3 s3 f24 f25 f26 f27 ta4 w4 le4 s4 f29 f30 ta5 w5 le5 s5 f32 f33 f34
  replace f0 := shm_1913 f0
  replace f1 := shm_1912 f1
  replace f2 := shm_718 f2
  replace f3 := shm_1911 f3
  replace f4 := shm_718 f4
  replace f5 := shm_1909 f5
  replace f6 := shm_1908 f6
  replace f7 := shm_585 f7
  replace f8 := shm_135 f8
  replace f9 := shm_136 f9
  replace f10 := shm_5 f10
  replace f11 := shm_141 f11
  replace f13 := shm_1913 f13
  replace f14 := shm_1912 f14
  replace f15 := shm_1911 f15
  replace f16 := shm_1909 f16
  replace f17 := shm_1908 f17
  replace f19 := shm_1912 f19
  replace f20 := shm_1911 f20
  replace f21 := shm_1909 f21
  replace f22 := shm_1908 f22
  replace f24 := shm_1911 f24
  replace f25 := shm_21 f25
  replace f26 := shm_1909 f26
  replace f27 := shm_1908 f27
  replace f29 := shm_1909 f29
  replace f30 := shm_1908 f30
  replace f32 := shm_1908 f32
  replace f33 := shm_37 f33
  replace f34 := shm_6 f34
  have q3 : n_v vs 3 = n_v vs 0 := f10.symm
  simp only [q3] at f2 f4 f7 f8 f9 f11
  have cr_0_2 := fdq_12 hD hth r0
  have br_0_2_F5_0_0 : w_ei ws (w_ar ws (n_v vs 0) 2) (w_fi ws (n_v vs 0) 5 + 0) = w_el ws (w_ar ws (n_v vs 0) 2) (w_fi ws (n_v vs 0) 5 + 0).toNat := rfl
  have kz_0_170 := fdq_13 hD hth r0
  have kv0 := fdq_13 hD hth r0
  obtain ⟨x, ex, hx⟩ := iv_ex (ta := ta) (lo := 0) (hi := 99999998) (z := w_fi ws (n_v vs 0) 170) (by omega) (by omega) (by omega) (by omega)
  have ex2 : v_iv (Value.int x) = w_fi ws (n_v vs 0) 170 := ex
  have ex3 : 0 ≤ v_iv (Value.int x) ∧ v_iv (Value.int x) ≤ 99999998 := tv_rng hx
  have e_2 : n_v (vs ++ [Value.int x]) 2 = n_v vs 2 := n_v_old (by rw [hl]; decide)
  have e_3 : n_v (vs ++ [Value.int x]) 3 = n_v vs 3 := n_v_old (by rw [hl]; decide)
  have e_5 : n_v (vs ++ [Value.int x]) 5 = n_v vs 5 := n_v_old (by rw [hl]; decide)
  have e_20 : n_v (vs ++ [Value.int x]) 20 = Value.int x := n_v_new hl
  have nf0 : fc_1 PRD (20, [3, 20], [30, 0, 1, 1, 170, -1, 0, 0]) ws (vs ++ [Value.int x]) := by
    refine ⟨nf_inA hl rfl, sgq_140 ?_⟩
    · show 1 * w_fi ws (n_v (vs ++ [Value.int x]) 3) 170 + ((-1) * v_iv (n_v (vs ++ [Value.int x]) 20) + 0) ≤ 0
      simp only [e_3, e_20, q3]
      exact vc_Mo_writeGroup_at_l6_9_0 (v_iv (n_v vs 2)) (v_iv (n_v vs 4)) (v_iv (n_v vs 5)) (v_iv (n_v vs 6)) (v_iv (n_v vs 7)) (v_iv (n_v vs 9)) (v_iv (n_v vs 10)) (v_iv (n_v vs 11)) (v_iv (n_v vs 12)) (v_iv (n_v vs 14)) (v_iv (n_v vs 15)) (v_iv (n_v vs 16)) (v_iv (n_v vs 18)) (w_ei ws (w_ar ws (n_v vs 0) 2)) (w_fi ws (n_v vs 0) 5) (w_fi ws (n_v vs 0) 170) (v_iv (Value.int x)) k2 k4 k5 k6 k7 k9 k10 k11 k12 k14 k15 k16 k18 d0 d1 f0 f1 f2 f3 f4 f5 f6 f7 f8 f9 f11 f13 f14 f15 f16 f17 f19 f20 f21 f22 f24 f25 f26 f27 f29 f30 f32 f33 f34 kz_0_170 ex2 ex3
  have nf1 : fc_1 PRD (23, [20, 2, 5], [34, 1, -1, -36]) ws (vs ++ [Value.int x]) := by
    refine ⟨nf_inA hl rfl, sgq_1910 ?_⟩
    · show 1 * v_iv (n_v (vs ++ [Value.int x]) 20) + ((-1) * v_iv (n_v (vs ++ [Value.int x]) 2) + ((-36) * v_iv (n_v (vs ++ [Value.int x]) 5) + 0)) ≤ 34
      simp only [e_2, e_5, e_20]
      exact vc_Mo_writeGroup_at_l6_9_1 (v_iv (n_v vs 2)) (v_iv (n_v vs 4)) (v_iv (n_v vs 5)) (v_iv (n_v vs 6)) (v_iv (n_v vs 7)) (v_iv (n_v vs 9)) (v_iv (n_v vs 10)) (v_iv (n_v vs 11)) (v_iv (n_v vs 12)) (v_iv (n_v vs 14)) (v_iv (n_v vs 15)) (v_iv (n_v vs 16)) (v_iv (n_v vs 18)) (w_ei ws (w_ar ws (n_v vs 0) 2)) (w_fi ws (n_v vs 0) 5) (w_fi ws (n_v vs 0) 170) (v_iv (Value.int x)) k2 k4 k5 k6 k7 k9 k10 k11 k12 k14 k15 k16 k18 d0 d1 f0 f1 f2 f3 f4 f5 f6 f7 f8 f9 f11 f13 f14 f15 f16 f17 f19 f20 f21 f22 f24 f25 f26 f27 f29 f30 f32 f33 f34 kz_0_170 ex2 ex3
  exact ⟨(fun _ h => (by cases h)), [Value.int x], ag_one hx, List.forall_mem_cons.mpr ⟨⟨show (20 : Nat) < 100 from by decide, nf0⟩, List.forall_mem_cons.mpr ⟨⟨show (23 : Nat) < 100 from by decide, nf1⟩, (fun _ h => (by cases h))⟩⟩, (fun _ h => (by cases h))⟩
set_option maxHeartbeats 4000000 in
theorem vc_Mo_writeGroup_at_l6_10_0 (x2 : Int) (x4 : Int) (x5 : Int) (x6 : Int) (x7 : Int) (x9 : Int) (x10 : Int) (x11 : Int) (x12 : Int) (x14 : Int) (x15 : Int) (x16 : Int) (x18 : Int) (x20 : Int) (x21 : Int) (all_0 : Int → Int) (r_0 : Int) (texts_0 : Int) (k2 : 0 ≤ x2 ∧ x2 ≤ 99998253) (k4 : 6 ≤ x4 ∧ x4 ≤ 7) (k5 : 0 ≤ x5 ∧ x5 ≤ 23) (k6 : 1 ≤ x6 ∧ x6 ≤ 24) (k7 : 6 ≤ x7 ∧ x7 ≤ 7) (k9 : 0 ≤ x9 ∧ x9 ≤ 99999995) (k10 : 0 ≤ x10 ∧ x10 ≤ 99999992) (k11 : 2 ≤ x11 ∧ x11 ≤ 99) (k12 : 1 ≤ x12 ∧ x12 ≤ 1) (k14 : 0 ≤ x14 ∧ x14 ≤ 99999993) (k15 : 0 ≤ x15 ∧ x15 ≤ 99) (k16 : 0 ≤ x16 ∧ x16 ≤ 99999987) (k18 : 0 ≤ x18 ∧ x18 ≤ 99999999) (k20 : 0 ≤ x20 ∧ x20 ≤ 99999998) (k21 : 1 ≤ x21 ∧ x21 ≤ 24) (d0 : x5 + 1 ≤ x21 ∧ x21 ≤ x5 + 1) (d1 : x6 + (-4294967296) ≤ x21 ∧ x21 ≤ x6 + 0) (d2 : x4 + 0 ≤ x7 ∧ x7 ≤ x4 + 0) (d3 : x6 + (-4294967296) ≤ x5 ∧ x5 ≤ x6 + (-1)) (f0 : x21 = x5 + 1) (f1 : 1 * x20 + ((-1) * x2 + ((-36) * x5 + 0)) ≤ 34) (f2 : 1 * x18 + ((-1) * x2 + ((-36) * x5 + 0)) ≤ 33) (f3 : 1 * x16 + ((-1) * x2 + ((-36) * x5 + 0)) ≤ 20) (f4 : x15 = all_0 (((r_0 + 219) + x5))) (f5 : 1 * x14 + ((-1) * x2 + ((-36) * x5 + 0)) ≤ 13) (f6 : x11 = all_0 (((r_0 + 219) + x5))) (f7 : 1 * x10 + ((-1) * x2 + ((-36) * x5 + 0)) ≤ 5) (f8 : 1 * x9 + ((-1) * x2 + ((-36) * x5 + 0)) ≤ 0) (f9 : x7 = all_0 (((r_0 + 243) + x5))) (f10 : 1 * x6 + ((-1) * all_0 (r_0 + 0) + 0) ≤ 0) (f11 : (-1) * x6 + (1 * all_0 (r_0 + 0) + 0) ≤ 0) (f13 : 1 * texts_0 + ((-1) * x20 + 0) ≤ 2) (f15 : 1 * x20 + ((-1) * x2 + ((-36) * x5 + 0)) ≤ 34) (f16 : 1 * x18 + ((-1) * x2 + ((-36) * x5 + 0)) ≤ 33) (f17 : 1 * x16 + ((-1) * x2 + ((-36) * x5 + 0)) ≤ 20) (f18 : 1 * x14 + ((-1) * x2 + ((-36) * x5 + 0)) ≤ 13) (f19 : 1 * x10 + ((-1) * x2 + ((-36) * x5 + 0)) ≤ 5) (f20 : 1 * x9 + ((-1) * x2 + ((-36) * x5 + 0)) ≤ 0) (f22 : 1 * x18 + ((-1) * x2 + ((-36) * x5 + 0)) ≤ 33) (f23 : 1 * x16 + ((-1) * x2 + ((-36) * x5 + 0)) ≤ 20) (f24 : 1 * x14 + ((-1) * x2 + ((-36) * x5 + 0)) ≤ 13) (f25 : 1 * x10 + ((-1) * x2 + ((-36) * x5 + 0)) ≤ 5) (f26 : 1 * x9 + ((-1) * x2 + ((-36) * x5 + 0)) ≤ 0) (f28 : 1 * x16 + ((-1) * x2 + ((-36) * x5 + 0)) ≤ 20) (f29 : 1 * x14 + ((-1) * x2 + ((-36) * x5 + 0)) ≤ 13) (f30 : 1 * x10 + ((-1) * x2 + ((-36) * x5 + 0)) ≤ 5) (f31 : 1 * x9 + ((-1) * x2 + ((-36) * x5 + 0)) ≤ 0) (f33 : 1 * x14 + ((-1) * x2 + ((-36) * x5 + 0)) ≤ 13) (f34 : x12 < x11) (f35 : 1 * x10 + ((-1) * x2 + ((-36) * x5 + 0)) ≤ 5) (f36 : 1 * x9 + ((-1) * x2 + ((-36) * x5 + 0)) ≤ 0) (f38 : 1 * x10 + ((-1) * x2 + ((-36) * x5 + 0)) ≤ 5) (f39 : 1 * x9 + ((-1) * x2 + ((-36) * x5 + 0)) ≤ 0) (f41 : 1 * x9 + ((-1) * x2 + ((-36) * x5 + 0)) ≤ 0) (f42 : x7 = x4) (f43 : x5 < x6) (kz_0_170 : 0 ≤ texts_0 ∧ texts_0 ≤ 100000000) : 1 * texts_0 + ((-1) * x2 + ((-36) * x21 + 0)) ≤ 0 := by
  first | assumption | omega | grind
def o_Mo_writeGroup_at_l6_10 : or_T := (2, 22, [(0, (2, 0, 0, [165])), (2, (0, 0, 99998253, [])), (4, (0, 6, 7, [])), (5, (0, 0, 23, [])), (6, (0, 1, 24, [])), (7, (0, 6, 7, [])), (9, (0, 0, 99999995, [])), (10, (0, 0, 99999992, [])), (11, (0, 2, 99, [])), (12, (0, 1, 1, [])), (14, (0, 0, 99999993, [])), (15, (0, 0, 99, [])), (16, (0, 0, 99999987, [])), (18, (0, 0, 99999999, [])), (20, (0, 0, 99999998, [])), (21, (0, 1, 24, []))], [(6, [21, 5], [1]), (23, [20, 2, 5], [34, 1, -1, -36]), (23, [18, 2, 5], [33, 1, -1, -36]), (23, [16, 2, 5], [20, 1, -1, -36]), (20, [15, 3, 5], [50, 1, 1, 1005, 1002, 1, 2, 1, 0, 3, 1, 2, 4, 7, 4, 3, 2, 1, 5, 0, 219, 1, 2]), (23, [14, 2, 5], [13, 1, -1, -36]), (20, [11, 3, 5], [50, 1, 1, 1005, 1002, 1, 2, 1, 0, 3, 1, 2, 4, 7, 4, 3, 2, 1, 5, 0, 219, 1, 2]), (23, [10, 2, 5], [5, 1, -1, -36]), (23, [9, 2, 5], [0, 1, -1, -36]), (20, [7, 3, 5], [50, 1, 1, 1005, 1002, 1, 2, 1, 0, 3, 1, 2, 4, 7, 4, 3, 2, 1, 5, 0, 243, 1, 2]), (20, [6, 3], [30, 0, 1, 0, 0, -1, 3, 2005000]), (20, [6, 3], [30, 0, -1, 0, 0, 1, 3, 2005000]), (24, [0, 3], []), (20, [3, 20], [30, 2, 1, 1, 170, -1, 0, 0]), (102, [20], [7770675568902916283677847627294075626569627356208558085007249638955617140820833992704, 165170]), (23, [20, 2, 5], [34, 1, -1, -36]), (23, [18, 2, 5], [33, 1, -1, -36]), (23, [16, 2, 5], [20, 1, -1, -36]), (23, [14, 2, 5], [13, 1, -1, -36]), (23, [10, 2, 5], [5, 1, -1, -36]), (23, [9, 2, 5], [0, 1, -1, -36]), (102, [18], [7770675568902916283677847627294075626569627356208558085007249638955617140820833992704, 165170]), (23, [18, 2, 5], [33, 1, -1, -36]), (23, [16, 2, 5], [20, 1, -1, -36]), (23, [14, 2, 5], [13, 1, -1, -36]), (23, [10, 2, 5], [5, 1, -1, -36]), (23, [9, 2, 5], [0, 1, -1, -36]), (102, [16], [7770675568902916283677847627294075626569627356208558085007249638955617140820833992704, 165170]), (23, [16, 2, 5], [20, 1, -1, -36]), (23, [14, 2, 5], [13, 1, -1, -36]), (23, [10, 2, 5], [5, 1, -1, -36]), (23, [9, 2, 5], [0, 1, -1, -36]), (102, [14], [7770675568902916283677847627294075626569627356208558085007249638955617140820833992704, 165170]), (23, [14, 2, 5], [13, 1, -1, -36]), (7, [11, 12], [4]), (23, [10, 2, 5], [5, 1, -1, -36]), (23, [9, 2, 5], [0, 1, -1, -36]), (102, [10], [7770675568902916283677847627294075626569627356208558085007249638955617140820833992704, 165170]), (23, [10, 2, 5], [5, 1, -1, -36]), (23, [9, 2, 5], [0, 1, -1, -36]), (102, [9], [7770675568902916283677847627294075626569627356208558085007249638955617140820833992704, 165170]), (23, [9, 2, 5], [0, 1, -1, -36]), (7, [7, 4], [0]), (7, [5, 6], [2])], [], [], [(20, [3, 2, 21], [30, 0, 1, 1, 170, -1, 0, 0, -36, 0, 0])], [], [(21, 5, 1, 1), (21, 6, -4294967296, 0), (7, 4, 0, 0), (5, 6, -4294967296, -1)])
theorem oo_Mo_writeGroup_at_l6_10 {kA : Nat → ClassId} : or_ok PRD kA GG o_Mo_writeGroup_at_l6_10 := by
  refine or_mk fun A ta ws vs hD hth hl => ?_
  intro t0 r0 t2 k2 t4 k4 t5 k5 t6 k6 t7 k7 t9 k9 t10 k10 t11 k11 t12 k12 t14 k14 t15 k15 t16 k16 t18 k18 t20 k20 t21 k21 d0 d1 d2 d3 f0 f1 f2 f3 f4 f5 f6 f7 f8 f9 f10 f11 f12 f13 ta1 w1 le1 s1 f15 f16 f17 f18 f19 f20 ta2 w2 le2 s2 f22 f23 f24 f25 f26 ta3 w3 le3 s3 f28 f29 f30 f31 ta4 w4 le4 s4 f33 f34 f35 f36 ta5 w5 le5 s5 f38 f39 ta6 w6 le6 s6 f41 f42 f43
  replace f0 := shm_4 f0
  replace f1 := shm_1910 f1
  replace f2 := shm_1913 f2
  replace f3 := shm_1912 f3
  replace f4 := shm_718 f4
  replace f5 := shm_1911 f5
  replace f6 := shm_718 f6
  replace f7 := shm_1909 f7
  replace f8 := shm_1908 f8
  replace f9 := shm_585 f9
  replace f10 := shm_135 f10
  replace f11 := shm_136 f11
  replace f12 := shm_5 f12
  replace f13 := shm_234 f13
  replace f15 := shm_1910 f15
  replace f16 := shm_1913 f16
  replace f17 := shm_1912 f17
  replace f18 := shm_1911 f18
  replace f19 := shm_1909 f19
  replace f20 := shm_1908 f20
  replace f22 := shm_1913 f22
  replace f23 := shm_1912 f23
  replace f24 := shm_1911 f24
  replace f25 := shm_1909 f25
  replace f26 := shm_1908 f26
  replace f28 := shm_1912 f28
  replace f29 := shm_1911 f29
  replace f30 := shm_1909 f30
  replace f31 := shm_1908 f31
  replace f33 := shm_1911 f33
  replace f34 := shm_21 f34
  replace f35 := shm_1909 f35
  replace f36 := shm_1908 f36
  replace f38 := shm_1909 f38
  replace f39 := shm_1908 f39
  replace f41 := shm_1908 f41
  replace f42 := shm_37 f42
  replace f43 := shm_6 f43
  have q3 : n_v vs 3 = n_v vs 0 := f12.symm
  simp only [q3] at f4 f6 f9 f10 f11 f13
  have kz_0_170 := fdq_13 hD hth r0
  have nf0 : fc_1 PRD (20, [3, 2, 21], [30, 0, 1, 1, 170, -1, 0, 0, -36, 0, 0]) ws (vs) := by
    refine ⟨nf_in hl rfl, sgq_1906 ?_⟩
    · show 1 * w_fi ws (n_v vs 3) 170 + ((-1) * v_iv (n_v vs 2) + ((-36) * v_iv (n_v vs 21) + 0)) ≤ 0
      rw [q3]
      exact vc_Mo_writeGroup_at_l6_10_0 (v_iv (n_v vs 2)) (v_iv (n_v vs 4)) (v_iv (n_v vs 5)) (v_iv (n_v vs 6)) (v_iv (n_v vs 7)) (v_iv (n_v vs 9)) (v_iv (n_v vs 10)) (v_iv (n_v vs 11)) (v_iv (n_v vs 12)) (v_iv (n_v vs 14)) (v_iv (n_v vs 15)) (v_iv (n_v vs 16)) (v_iv (n_v vs 18)) (v_iv (n_v vs 20)) (v_iv (n_v vs 21)) (w_ei ws (w_ar ws (n_v vs 0) 2)) (w_fi ws (n_v vs 0) 5) (w_fi ws (n_v vs 0) 170) k2 k4 k5 k6 k7 k9 k10 k11 k12 k14 k15 k16 k18 k20 k21 d0 d1 d2 d3 f0 f1 f2 f3 f4 f5 f6 f7 f8 f9 f10 f11 f13 f15 f16 f17 f18 f19 f20 f22 f23 f24 f25 f26 f28 f29 f30 f31 f33 f34 f35 f36 f38 f39 f41 f42 f43 kz_0_170
  refine ⟨(fun _ h => (by cases h)), [], trivial, ?_, (fun _ h => (by cases h))⟩
  rw [List.append_nil]
  exact List.forall_mem_cons.mpr ⟨⟨show (20 : Nat) < 100 from by decide, nf0⟩, (fun _ h => (by cases h))⟩
set_option maxHeartbeats 4000000 in
theorem vc_Mo_writeGroup_at_l6_11_0 (x2 : Int) (x4 : Int) (x5 : Int) (x6 : Int) (x7 : Int) (x8 : Int) (all_0 : Int → Int) (r_0 : Int) (texts_0 : Int) (k2 : 0 ≤ x2 ∧ x2 ≤ 99998253) (k4 : 6 ≤ x4 ∧ x4 ≤ 7) (k5 : 0 ≤ x5 ∧ x5 ≤ 23) (k6 : 1 ≤ x6 ∧ x6 ≤ 24) (k7 : 0 ≤ x7 ∧ x7 ≤ 7) (k8 : 1 ≤ x8 ∧ x8 ≤ 24) (d0 : x5 + 1 ≤ x8 ∧ x8 ≤ x5 + 1) (d1 : x6 + (-4294967296) ≤ x8 ∧ x8 ≤ x6 + 0) (d2 : x6 + (-4294967296) ≤ x5 ∧ x5 ≤ x6 + (-1)) (f0 : x8 = x5 + 1) (f1 : x7 ≠ x4) (f2 : x7 = all_0 (((r_0 + 243) + x5))) (f3 : x5 < x6) (f4 : 1 * x6 + ((-1) * all_0 (r_0 + 0) + 0) ≤ 0) (f5 : (-1) * x6 + (1 * all_0 (r_0 + 0) + 0) ≤ 0) (f6 : 1 * texts_0 + ((-1) * x2 + ((-36) * x5 + 0)) ≤ 0) (kz_0_170 : 0 ≤ texts_0 ∧ texts_0 ≤ 100000000) : 1 * texts_0 + ((-1) * x2 + ((-36) * x8 + 0)) ≤ 0 := by
  first | assumption | omega | grind
def o_Mo_writeGroup_at_l6_11 : or_T := (2, 9, [(0, (2, 0, 0, [165])), (2, (0, 0, 99998253, [])), (4, (0, 6, 7, [])), (5, (0, 0, 23, [])), (6, (0, 1, 24, [])), (7, (0, 0, 7, [])), (8, (0, 1, 24, []))], [(6, [8, 5], [1]), (7, [7, 4], [1]), (20, [7, 3, 5], [50, 1, 1, 1005, 1002, 1, 2, 1, 0, 3, 1, 2, 4, 7, 4, 3, 2, 1, 5, 0, 243, 1, 2]), (7, [5, 6], [2]), (20, [6, 3], [30, 0, 1, 0, 0, -1, 3, 2005000]), (20, [6, 3], [30, 0, -1, 0, 0, 1, 3, 2005000]), (20, [3, 2, 5], [30, 0, 1, 1, 170, -1, 0, 0, -36, 0, 0]), (24, [0, 3], [])], [], [], [(20, [3, 2, 8], [30, 0, 1, 1, 170, -1, 0, 0, -36, 0, 0])], [], [(8, 5, 1, 1), (8, 6, -4294967296, 0), (5, 6, -4294967296, -1)])
theorem oo_Mo_writeGroup_at_l6_11 {kA : Nat → ClassId} : or_ok PRD kA GG o_Mo_writeGroup_at_l6_11 := by
  refine or_mk fun A ta ws vs hD hth hl => ?_
  intro t0 r0 t2 k2 t4 k4 t5 k5 t6 k6 t7 k7 t8 k8 d0 d1 d2 f0 f1 f2 f3 f4 f5 f6 f7
  replace f0 := shm_4 f0
  replace f1 := shm_40 f1
  replace f2 := shm_585 f2
  replace f3 := shm_6 f3
  replace f4 := shm_135 f4
  replace f5 := shm_136 f5
  replace f6 := shm_1906 f6
  replace f7 := shm_5 f7
  have q3 : n_v vs 3 = n_v vs 0 := f7.symm
  simp only [q3] at f2 f4 f5 f6
  have kz_0_170 := fdq_13 hD hth r0
  have nf0 : fc_1 PRD (20, [3, 2, 8], [30, 0, 1, 1, 170, -1, 0, 0, -36, 0, 0]) ws (vs) := by
    refine ⟨nf_in hl rfl, sgq_1906 ?_⟩
    · show 1 * w_fi ws (n_v vs 3) 170 + ((-1) * v_iv (n_v vs 2) + ((-36) * v_iv (n_v vs 8) + 0)) ≤ 0
      rw [q3]
      exact vc_Mo_writeGroup_at_l6_11_0 (v_iv (n_v vs 2)) (v_iv (n_v vs 4)) (v_iv (n_v vs 5)) (v_iv (n_v vs 6)) (v_iv (n_v vs 7)) (v_iv (n_v vs 8)) (w_ei ws (w_ar ws (n_v vs 0) 2)) (w_fi ws (n_v vs 0) 5) (w_fi ws (n_v vs 0) 170) k2 k4 k5 k6 k7 k8 d0 d1 d2 f0 f1 f2 f3 f4 f5 f6 kz_0_170
  refine ⟨(fun _ h => (by cases h)), [], trivial, ?_, (fun _ h => (by cases h))⟩
  rw [List.append_nil]
  exact List.forall_mem_cons.mpr ⟨⟨show (20 : Nat) < 100 from by decide, nf0⟩, (fun _ h => (by cases h))⟩
set_option maxHeartbeats 4000000 in
theorem vc_Mo_writeGroup_at_l6_12_0 (x2 : Int) (x4 : Int) (x5 : Int) (x6 : Int) (all_0 : Int → Int) (r_0 : Int) (texts_0 : Int) (k2 : 0 ≤ x2 ∧ x2 ≤ 99998253) (k4 : 6 ≤ x4 ∧ x4 ≤ 7) (k5 : 7 ≤ x5 ∧ x5 ≤ 8) (k6 : 0 ≤ x6 ∧ x6 ≤ 8) (d0 : x6 + 0 ≤ x5 ∧ x5 ≤ x6 + 4294967296) (d1 : x5 + (-4294967296) ≤ x4 ∧ x4 ≤ x5 + (-1)) (f0 : x6 ≤ x5) (f1 : 1 * x6 + ((-1) * all_0 (r_0 + 2) + 0) ≤ 0) (f2 : (-1) * x6 + (1 * all_0 (r_0 + 2) + 0) ≤ 0) (f3 : 1 * texts_0 + ((-1) * x2 + ((-883) * x5 + (883 * x4 + 0))) ≤ (-19)) (kz_0_170 : 0 ≤ texts_0 ∧ texts_0 ≤ 100000000) : 1 * texts_0 + ((-1) * x2 + 0) ≤ 1747 := by
  first | assumption | omega | grind
def o_Mo_writeGroup_at_l6_12 : or_T := (177, 7, [(0, (2, 0, 0, [165])), (2, (0, 0, 99998253, [])), (4, (0, 6, 7, [])), (5, (0, 7, 8, [])), (6, (0, 0, 8, []))], [(7, [5, 6], [3]), (20, [6, 3], [30, 0, 1, 0, 0, -1, 3, 2005002]), (20, [6, 3], [30, 0, -1, 0, 0, 1, 3, 2005002]), (20, [3, 2, 5, 4], [30, -19, 1, 1, 170, -1, 0, 0, -883, 0, 0, 883, 0, 0]), (24, [0, 3], [])], [], [], [(20, [0, 2], [30, 1747, 1, 1, 170, -1, 0, 0])], [], [(5, 6, 0, 4294967296), (4, 5, -4294967296, -1)])
theorem oo_Mo_writeGroup_at_l6_12 {kA : Nat → ClassId} : or_ok PRD kA GG o_Mo_writeGroup_at_l6_12 := by
  refine or_mk fun A ta ws vs hD hth hl => ?_
  intro t0 r0 t2 k2 t4 k4 t5 k5 t6 k6 d0 d1 f0 f1 f2 f3 f4
  replace f1 := shm_132 f1
  replace f2 := shm_133 f2
  replace f3 := shm_1956 f3
  replace f4 := shm_5 f4
  have q3 : n_v vs 3 = n_v vs 0 := f4.symm
  simp only [q3] at f1 f2 f3
  have kz_0_170 := fdq_13 hD hth r0
  have nf0 : fc_1 PRD (20, [0, 2], [30, 1747, 1, 1, 170, -1, 0, 0]) ws (vs) := ⟨nf_in hl rfl, sgq_1954 (vc_Mo_writeGroup_at_l6_12_0 (v_iv (n_v vs 2)) (v_iv (n_v vs 4)) (v_iv (n_v vs 5)) (v_iv (n_v vs 6)) (w_ei ws (w_ar ws (n_v vs 0) 2)) (w_fi ws (n_v vs 0) 5) (w_fi ws (n_v vs 0) 170) k2 k4 k5 k6 d0 d1 (shm_2 f0) f1 f2 f3 kz_0_170)⟩
  refine ⟨(fun _ h => (by cases h)), [], trivial, ?_, (fun _ h => (by cases h))⟩
  rw [List.append_nil]
  exact List.forall_mem_cons.mpr ⟨⟨show (20 : Nat) < 100 from by decide, nf0⟩, (fun _ h => (by cases h))⟩
def o_Mo_writeGroup_at_l6_13 : or_T := (117, 14, [(0, (2, 0, 0, [165])), (2, (0, 0, 99998253, [])), (3, (2, 0, 0, [165])), (4, (0, 6, 6, [])), (5, (0, 7, 7, [])), (6, (0, 8, 8, [])), (7, (2, 0, 0, [167])), (8, (0, 0, 66297, [])), (9, (0, 531, 531, [])), (10, (0, 531, 66828, [])), (11, (0, 538, 66835, [])), (12, (0, 6, 6, []))], [(7, [12, 4], [0]), (10, [12, 7, 11], []), (1, [11, 10, 5], []), (1, [10, 8, 9], []), (9, [8, 3], [5]), (9, [7, 3], [2]), (7, [5, 6], [2]), (20, [6, 3], [30, 0, 1, 0, 0, -1, 3, 2005002]), (20, [6, 3], [30, 0, -1, 0, 0, 1, 3, 2005002]), (20, [3, 2, 5, 4], [30, -19, 1, 1, 170, -1, 0, 0, -883, 0, 0, 883, 0, 0]), (24, [0, 3], [])], [], [(0, 0, 99999994, [])], [(20, [3, 14], [30, 0, 1, 1, 170, -1, 0, 0]), (23, [14, 2, 5, 4], [-19, 1, -1, -883, 883])], [], [(11, 10, 7, 7), (11, 8, 538, 538), (10, 8, 531, 531)])
theorem oo_Mo_writeGroup_at_l6_13 {kA : Nat → ClassId} : or_ok PRD kA GG o_Mo_writeGroup_at_l6_13 := by
  refine or_mk fun A ta ws vs hD hth hl => ?_
  intro t0 r0 t2 k2 t3 r3 t4 k4 t5 k5 t6 k6 t7 r7 t8 k8 t9 k9 t10 k10 t11 k11 t12 k12 d0 d1 d2 f0 f1 f2 f3 f4 f5 f6 f7 f8 f9 f10
  replace f0 := shm_37 f0
  replace f1 := shm_106 f1
  replace f2 := shm_12 f2
  replace f3 := shm_12 f3
  replace f4 := shm_109 f4
  replace f5 := shm_129 f5
  replace f6 := shm_6 f6
  replace f7 := shm_132 f7
  replace f8 := shm_133 f8
  replace f9 := shm_1956 f9
  replace f10 := shm_5 f10
  have q3 : n_v vs 3 = n_v vs 0 := f10.symm
  simp only [q3] at f4 f5 f7 f8 f9
  have cr_0_2 := fdq_12 hD hth r0
  have ad_7 : v_ad (n_v vs 7) = w_ar ws (n_v vs 0) 2 := congrArg v_ad f5
  simp only [ad_7] at f1
  have h1 : v_iv (n_v vs 12) = w_ei ws (w_ar ws (n_v vs 0) 2) (v_iv (n_v vs 11)) := f1
  have g4 : v_iv (n_v vs 8) = w_fi ws (n_v vs 0) 5 := congrArg v_iv f4
  have cg1_F5_2 : v_iv (n_v vs 11) = w_fi ws (n_v vs 0) 5 + 2 → w_el ws (w_ar ws (n_v vs 0) 2) (v_iv (n_v vs 11)).toNat = w_el ws (w_ar ws (n_v vs 0) 2) (w_fi ws (n_v vs 0) 5 + 2).toNat := fun h => by rw [h]
  have kz_0_170 := fdq_13 hD hth r0
  have kv0 := fdq_13 hD hth r0
  obtain ⟨x, ex, hx⟩ := iv_ex (ta := ta) (lo := 0) (hi := 99999994) (z := w_fi ws (n_v vs 0) 170) (by omega) (by omega) (by omega) (by omega)
  have ex2 : v_iv (Value.int x) = w_fi ws (n_v vs 0) 170 := ex
  have ex3 : 0 ≤ v_iv (Value.int x) ∧ v_iv (Value.int x) ≤ 99999994 := tv_rng hx
  have e_2 : n_v (vs ++ [Value.int x]) 2 = n_v vs 2 := n_v_old (by rw [hl]; decide)
  have e_3 : n_v (vs ++ [Value.int x]) 3 = n_v vs 3 := n_v_old (by rw [hl]; decide)
  have e_4 : n_v (vs ++ [Value.int x]) 4 = n_v vs 4 := n_v_old (by rw [hl]; decide)
  have e_5 : n_v (vs ++ [Value.int x]) 5 = n_v vs 5 := n_v_old (by rw [hl]; decide)
  have e_14 : n_v (vs ++ [Value.int x]) 14 = Value.int x := n_v_new hl
  have nf0 : fc_1 PRD (20, [3, 14], [30, 0, 1, 1, 170, -1, 0, 0]) ws (vs ++ [Value.int x]) := by
    refine ⟨nf_inA hl rfl, sgq_140 ?_⟩
    · show 1 * w_fi ws (n_v (vs ++ [Value.int x]) 3) 170 + ((-1) * v_iv (n_v (vs ++ [Value.int x]) 14) + 0) ≤ 0
      simp only [e_3, e_14, q3]
      omega
  have nf1 : fc_1 PRD (23, [14, 2, 5, 4], [-19, 1, -1, -883, 883]) ws (vs ++ [Value.int x]) := by
    refine ⟨nf_inA hl rfl, sgq_1957 ?_⟩
    · show 1 * v_iv (n_v (vs ++ [Value.int x]) 14) + ((-1) * v_iv (n_v (vs ++ [Value.int x]) 2) + ((-883) * v_iv (n_v (vs ++ [Value.int x]) 5) + (883 * v_iv (n_v (vs ++ [Value.int x]) 4) + 0))) ≤ (-19)
      simp only [e_2, e_4, e_5, e_14]
      omega
  exact ⟨(fun _ h => (by cases h)), [Value.int x], ag_one hx, List.forall_mem_cons.mpr ⟨⟨show (20 : Nat) < 100 from by decide, nf0⟩, List.forall_mem_cons.mpr ⟨⟨show (23 : Nat) < 100 from by decide, nf1⟩, (fun _ h => (by cases h))⟩⟩, (fun _ h => (by cases h))⟩
set_option maxHeartbeats 4000000 in
theorem vc_Mo_writeGroup_at_l6_14_0 (x2 : Int) (x4 : Int) (x5 : Int) (x6 : Int) (x8 : Int) (x12 : Int) (x14 : Int) (r_0 : Int) (all_0 : Int → Int) (texts_0 : Int) (gx : Int) (k2 : 0 ≤ x2 ∧ x2 ≤ 99998253) (k4 : 6 ≤ x4 ∧ x4 ≤ 6) (k5 : 7 ≤ x5 ∧ x5 ≤ 7) (k6 : 8 ≤ x6 ∧ x6 ≤ 8) (k8 : 0 ≤ x8 ∧ x8 ≤ 66297) (k12 : 6 ≤ x12 ∧ x12 ≤ 6) (k14 : 0 ≤ x14 ∧ x14 ≤ 99999994) (g0 : x8 = r_0) (f2 : 1 * x14 + ((-1) * x2 + ((-883) * x5 + (883 * x4 + 0))) ≤ (-19)) (f3 : 1 * x6 + ((-1) * all_0 (r_0 + 2) + 0) ≤ 0) (f4 : (-1) * x6 + (1 * all_0 (r_0 + 2) + 0) ≤ 0) (f6 : 1 * texts_0 + ((-1) * x14 + 0) ≤ 6) (f8 : 1 * x14 + ((-1) * x2 + ((-883) * x5 + (883 * x4 + 0))) ≤ (-19)) (f9 : x12 = x4) (f10 : x5 < x6) (kz_0_170 : 0 ≤ texts_0 ∧ texts_0 ≤ 100000000) (ex2 : gx = texts_0) (ex3 : 0 ≤ gx ∧ gx ≤ 99999992) : 1 * texts_0 + ((-1) * gx + 0) ≤ 0 := by
  first | assumption | omega | grind
set_option maxHeartbeats 4000000 in
theorem vc_Mo_writeGroup_at_l6_14_1 (x2 : Int) (x4 : Int) (x5 : Int) (x6 : Int) (x8 : Int) (x12 : Int) (x14 : Int) (r_0 : Int) (all_0 : Int → Int) (texts_0 : Int) (gx : Int) (k2 : 0 ≤ x2 ∧ x2 ≤ 99998253) (k4 : 6 ≤ x4 ∧ x4 ≤ 6) (k5 : 7 ≤ x5 ∧ x5 ≤ 7) (k6 : 8 ≤ x6 ∧ x6 ≤ 8) (k8 : 0 ≤ x8 ∧ x8 ≤ 66297) (k12 : 6 ≤ x12 ∧ x12 ≤ 6) (k14 : 0 ≤ x14 ∧ x14 ≤ 99999994) (g0 : x8 = r_0) (f2 : 1 * x14 + ((-1) * x2 + ((-883) * x5 + (883 * x4 + 0))) ≤ (-19)) (f3 : 1 * x6 + ((-1) * all_0 (r_0 + 2) + 0) ≤ 0) (f4 : (-1) * x6 + (1 * all_0 (r_0 + 2) + 0) ≤ 0) (f6 : 1 * texts_0 + ((-1) * x14 + 0) ≤ 6) (f8 : 1 * x14 + ((-1) * x2 + ((-883) * x5 + (883 * x4 + 0))) ≤ (-19)) (f9 : x12 = x4) (f10 : x5 < x6) (kz_0_170 : 0 ≤ texts_0 ∧ texts_0 ≤ 100000000) (ex2 : gx = texts_0) (ex3 : 0 ≤ gx ∧ gx ≤ 99999992) : 1 * gx + ((-1) * x2 + ((-883) * x5 + (883 * x4 + 0))) ≤ (-13) := by
  first | assumption | omega | grind
def o_Mo_writeGroup_at_l6_14 : or_T := (149, 24, [(0, (2, 0, 0, [165])), (2, (0, 0, 99998253, [])), (3, (2, 0, 0, [165])), (4, (0, 6, 6, [])), (5, (0, 7, 7, [])), (6, (0, 8, 8, [])), (7, (2, 0, 0, [167])), (8, (0, 0, 66297, [])), (12, (0, 6, 6, [])), (14, (0, 0, 99999994, []))], [(9, [8, 3], [5]), (9, [7, 3], [2]), (23, [14, 2, 5, 4], [-19, 1, -1, -883, 883]), (20, [6, 3], [30, 0, 1, 0, 0, -1, 3, 2005002]), (20, [6, 3], [30, 0, -1, 0, 0, 1, 3, 2005002]), (24, [0, 3], []), (20, [3, 14], [30, 6, 1, 1, 170, -1, 0, 0]), (102, [14], [7770675568902916283677847627294075626569627356208558085007249638955617140820833992704, 165170]), (23, [14, 2, 5, 4], [-19, 1, -1, -883, 883]), (7, [12, 4], [0]), (7, [5, 6], [2])], [], [(0, 0, 99999992, [])], [(20, [3, 24], [30, 0, 1, 1, 170, -1, 0, 0]), (23, [24, 2, 5, 4], [-13, 1, -1, -883, 883])], [], [])
theorem oo_Mo_writeGroup_at_l6_14 {kA : Nat → ClassId} : or_ok PRD kA GG o_Mo_writeGroup_at_l6_14 := by
  refine or_mk fun A ta ws vs hD hth hl => ?_
  intro t0 r0 t2 k2 t3 r3 t4 k4 t5 k5 t6 k6 t7 r7 t8 k8 t12 k12 t14 k14 f0 f1 f2 f3 f4 f5 f6 ta1 w1 le1 s1 f8 f9 f10
  replace f0 := shm_109 f0
  replace f1 := shm_129 f1
  replace f2 := shm_1957 f2
  replace f3 := shm_132 f3
  replace f4 := shm_133 f4
  replace f5 := shm_5 f5
  replace f6 := shm_235 f6
  replace f8 := shm_1957 f8
  replace f9 := shm_37 f9
  replace f10 := shm_6 f10
  have q3 : n_v vs 3 = n_v vs 0 := f5.symm
  simp only [q3] at f0 f1 f3 f4 f6
  have cr_0_2 := fdq_12 hD hth r0
  have ad_7 : v_ad (n_v vs 7) = w_ar ws (n_v vs 0) 2 := congrArg v_ad f1
  have g0 : v_iv (n_v vs 8) = w_fi ws (n_v vs 0) 5 := congrArg v_iv f0
  have kz_0_170 := fdq_13 hD hth r0
  have kv0 := fdq_13 hD hth r0
  obtain ⟨x, ex, hx⟩ := iv_ex (ta := ta) (lo := 0) (hi := 99999992) (z := w_fi ws (n_v vs 0) 170) (by omega) (by omega) (by omega) (by omega)
  have ex2 : v_iv (Value.int x) = w_fi ws (n_v vs 0) 170 := ex
  have ex3 : 0 ≤ v_iv (Value.int x) ∧ v_iv (Value.int x) ≤ 99999992 := tv_rng hx
  have e_2 : n_v (vs ++ [Value.int x]) 2 = n_v vs 2 := n_v_old (by rw [hl]; decide)
  have e_3 : n_v (vs ++ [Value.int x]) 3 = n_v vs 3 := n_v_old (by rw [hl]; decide)
  have e_4 : n_v (vs ++ [Value.int x]) 4 = n_v vs 4 := n_v_old (by rw [hl]; decide)
  have e_5 : n_v (vs ++ [Value.int x]) 5 = n_v vs 5 := n_v_old (by rw [hl]; decide)
  have e_24 : n_v (vs ++ [Value.int x]) 24 = Value.int x := n_v_new hl
  have nf0 : fc_1 PRD (20, [3, 24], [30, 0, 1, 1, 170, -1, 0, 0]) ws (vs ++ [Value.int x]) := by
    refine ⟨nf_inA hl rfl, sgq_140 ?_⟩
    · show 1 * w_fi ws (n_v (vs ++ [Value.int x]) 3) 170 + ((-1) * v_iv (n_v (vs ++ [Value.int x]) 24) + 0) ≤ 0
      simp only [e_3, e_24, q3]
      exact vc_Mo_writeGroup_at_l6_14_0 (v_iv (n_v vs 2)) (v_iv (n_v vs 4)) (v_iv (n_v vs 5)) (v_iv (n_v vs 6)) (v_iv (n_v vs 8)) (v_iv (n_v vs 12)) (v_iv (n_v vs 14)) (w_fi ws (n_v vs 0) 5) (w_ei ws (w_ar ws (n_v vs 0) 2)) (w_fi ws (n_v vs 0) 170) (v_iv (Value.int x)) k2 k4 k5 k6 k8 k12 k14 g0 f2 f3 f4 f6 f8 f9 f10 kz_0_170 ex2 ex3
  have nf1 : fc_1 PRD (23, [24, 2, 5, 4], [-13, 1, -1, -883, 883]) ws (vs ++ [Value.int x]) := by
    refine ⟨nf_inA hl rfl, sgq_1958 ?_⟩
    · show 1 * v_iv (n_v (vs ++ [Value.int x]) 24) + ((-1) * v_iv (n_v (vs ++ [Value.int x]) 2) + ((-883) * v_iv (n_v (vs ++ [Value.int x]) 5) + (883 * v_iv (n_v (vs ++ [Value.int x]) 4) + 0))) ≤ (-13)
      simp only [e_2, e_4, e_5, e_24]
      exact vc_Mo_writeGroup_at_l6_14_1 (v_iv (n_v vs 2)) (v_iv (n_v vs 4)) (v_iv (n_v vs 5)) (v_iv (n_v vs 6)) (v_iv (n_v vs 8)) (v_iv (n_v vs 12)) (v_iv (n_v vs 14)) (w_fi ws (n_v vs 0) 5) (w_ei ws (w_ar ws (n_v vs 0) 2)) (w_fi ws (n_v vs 0) 170) (v_iv (Value.int x)) k2 k4 k5 k6 k8 k12 k14 g0 f2 f3 f4 f6 f8 f9 f10 kz_0_170 ex2 ex3
  exact ⟨(fun _ h => (by cases h)), [Value.int x], ag_one hx, List.forall_mem_cons.mpr ⟨⟨show (20 : Nat) < 100 from by decide, nf0⟩, List.forall_mem_cons.mpr ⟨⟨show (23 : Nat) < 100 from by decide, nf1⟩, (fun _ h => (by cases h))⟩⟩, (fun _ h => (by cases h))⟩
set_option maxHeartbeats 4000000 in
theorem vc_Mo_writeGroup_at_l6_15_0 (x2 : Int) (x4 : Int) (x5 : Int) (x6 : Int) (x12 : Int) (x14 : Int) (x24 : Int) (all_0 : Int → Int) (r_0 : Int) (texts_0 : Int) (gx : Int) (k2 : 0 ≤ x2 ∧ x2 ≤ 99998253) (k4 : 6 ≤ x4 ∧ x4 ≤ 6) (k5 : 7 ≤ x5 ∧ x5 ≤ 7) (k6 : 8 ≤ x6 ∧ x6 ≤ 8) (k12 : 6 ≤ x12 ∧ x12 ≤ 6) (k14 : 0 ≤ x14 ∧ x14 ≤ 99999994) (k24 : 0 ≤ x24 ∧ x24 ≤ 99999992) (f0 : 1 * x24 + ((-1) * x2 + ((-883) * x5 + (883 * x4 + 0))) ≤ (-13)) (f1 : 1 * x14 + ((-1) * x2 + ((-883) * x5 + (883 * x4 + 0))) ≤ (-19)) (f2 : 1 * x6 + ((-1) * all_0 (r_0 + 2) + 0) ≤ 0) (f3 : (-1) * x6 + (1 * all_0 (r_0 + 2) + 0) ≤ 0) (f5 : 1 * texts_0 + ((-1) * x24 + 0) ≤ 8) (f7 : 1 * x24 + ((-1) * x2 + ((-883) * x5 + (883 * x4 + 0))) ≤ (-13)) (f8 : 1 * x14 + ((-1) * x2 + ((-883) * x5 + (883 * x4 + 0))) ≤ (-19)) (f10 : 1 * x14 + ((-1) * x2 + ((-883) * x5 + (883 * x4 + 0))) ≤ (-19)) (f11 : x12 = x4) (f12 : x5 < x6) (kz_0_170 : 0 ≤ texts_0 ∧ texts_0 ≤ 100000000) (ex2 : gx = texts_0) (ex3 : 0 ≤ gx ∧ gx ≤ 99999997) : 1 * texts_0 + ((-1) * gx + 0) ≤ 0 := by
  first | assumption | omega | grind
set_option maxHeartbeats 4000000 in
theorem vc_Mo_writeGroup_at_l6_15_1 (x2 : Int) (x4 : Int) (x5 : Int) (x6 : Int) (x12 : Int) (x14 : Int) (x24 : Int) (all_0 : Int → Int) (r_0 : Int) (texts_0 : Int) (gx : Int) (k2 : 0 ≤ x2 ∧ x2 ≤ 99998253) (k4 : 6 ≤ x4 ∧ x4 ≤ 6) (k5 : 7 ≤ x5 ∧ x5 ≤ 7) (k6 : 8 ≤ x6 ∧ x6 ≤ 8) (k12 : 6 ≤ x12 ∧ x12 ≤ 6) (k14 : 0 ≤ x14 ∧ x14 ≤ 99999994) (k24 : 0 ≤ x24 ∧ x24 ≤ 99999992) (f0 : 1 * x24 + ((-1) * x2 + ((-883) * x5 + (883 * x4 + 0))) ≤ (-13)) (f1 : 1 * x14 + ((-1) * x2 + ((-883) * x5 + (883 * x4 + 0))) ≤ (-19)) (f2 : 1 * x6 + ((-1) * all_0 (r_0 + 2) + 0) ≤ 0) (f3 : (-1) * x6 + (1 * all_0 (r_0 + 2) + 0) ≤ 0) (f5 : 1 * texts_0 + ((-1) * x24 + 0) ≤ 8) (f7 : 1 * x24 + ((-1) * x2 + ((-883) * x5 + (883 * x4 + 0))) ≤ (-13)) (f8 : 1 * x14 + ((-1) * x2 + ((-883) * x5 + (883 * x4 + 0))) ≤ (-19)) (f10 : 1 * x14 + ((-1) * x2 + ((-883) * x5 + (883 * x4 + 0))) ≤ (-19)) (f11 : x12 = x4) (f12 : x5 < x6) (kz_0_170 : 0 ≤ texts_0 ∧ texts_0 ≤ 100000000) (ex2 : gx = texts_0) (ex3 : 0 ≤ gx ∧ gx ≤ 99999997) : 1 * gx + ((-1) * x2 + ((-883) * x5 + (883 * x4 + 0))) ≤ (-5) := by
  first | assumption | omega | grind
def o_Mo_writeGroup_at_l6_15 : or_T := (156, 26, [(0, (2, 0, 0, [165])), (2, (0, 0, 99998253, [])), (3, (2, 0, 0, [165])), (4, (0, 6, 6, [])), (5, (0, 7, 7, [])), (6, (0, 8, 8, [])), (12, (0, 6, 6, [])), (14, (0, 0, 99999994, [])), (24, (0, 0, 99999992, []))], [(23, [24, 2, 5, 4], [-13, 1, -1, -883, 883]), (23, [14, 2, 5, 4], [-19, 1, -1, -883, 883]), (20, [6, 3], [30, 0, 1, 0, 0, -1, 3, 2005002]), (20, [6, 3], [30, 0, -1, 0, 0, 1, 3, 2005002]), (24, [0, 3], []), (20, [3, 24], [30, 8, 1, 1, 170, -1, 0, 0]), (102, [24], [7770675568902916283677847627294075626569627356208558085007249638955617140820833992704, 165170]), (23, [24, 2, 5, 4], [-13, 1, -1, -883, 883]), (23, [14, 2, 5, 4], [-19, 1, -1, -883, 883]), (102, [14], [7770675568902916283677847627294075626569627356208558085007249638955617140820833992704, 165170]), (23, [14, 2, 5, 4], [-19, 1, -1, -883, 883]), (7, [12, 4], [0]), (7, [5, 6], [2])], [], [(0, 0, 99999997, [])], [(20, [3, 26], [30, 0, 1, 1, 170, -1, 0, 0]), (23, [26, 2, 5, 4], [-5, 1, -1, -883, 883])], [], [])
theorem oo_Mo_writeGroup_at_l6_15 {kA : Nat → ClassId} : or_ok PRD kA GG o_Mo_writeGroup_at_l6_15 := by
  refine or_mk fun A ta ws vs hD hth hl => ?_
  intro t0 r0 t2 k2 t3 r3 t4 k4 t5 k5 t6 k6 t12 k12 t14 k14 t24 k24 f0 f1 f2 f3 f4 f5 ta1 w1 le1 s1 f7 f8 ta2 w2 le2 s2 f10 f11 f12
  replace f0 := shm_1958 f0
  replace f1 := shm_1957 f1
  replace f2 := shm_132 f2
  replace f3 := shm_133 f3
  replace f4 := shm_5 f4
  replace f5 := shm_172 f5
  replace f7 := shm_1958 f7
  replace f8 := shm_1957 f8
  replace f10 := shm_1957 f10
  replace f11 := shm_37 f11
  replace f12 := shm_6 f12
  have q3 : n_v vs 3 = n_v vs 0 := f4.symm
  simp only [q3] at f2 f3 f5
  have cr_0_2 := fdq_12 hD hth r0
  have kz_0_170 := fdq_13 hD hth r0
  have kv0 := fdq_13 hD hth r0
  obtain ⟨x, ex, hx⟩ := iv_ex (ta := ta) (lo := 0) (hi := 99999997) (z := w_fi ws (n_v vs 0) 170) (by omega) (by omega) (by omega) (by omega)
  have ex2 : v_iv (Value.int x) = w_fi ws (n_v vs 0) 170 := ex
  have ex3 : 0 ≤ v_iv (Value.int x) ∧ v_iv (Value.int x) ≤ 99999997 := tv_rng hx
  have e_2 : n_v (vs ++ [Value.int x]) 2 = n_v vs 2 := n_v_old (by rw [hl]; decide)
  have e_3 : n_v (vs ++ [Value.int x]) 3 = n_v vs 3 := n_v_old (by rw [hl]; decide)
  have e_4 : n_v (vs ++ [Value.int x]) 4 = n_v vs 4 := n_v_old (by rw [hl]; decide)
  have e_5 : n_v (vs ++ [Value.int x]) 5 = n_v vs 5 := n_v_old (by rw [hl]; decide)
  have e_26 : n_v (vs ++ [Value.int x]) 26 = Value.int x := n_v_new hl
  have nf0 : fc_1 PRD (20, [3, 26], [30, 0, 1, 1, 170, -1, 0, 0]) ws (vs ++ [Value.int x]) := by
    refine ⟨nf_inA hl rfl, sgq_140 ?_⟩
    · show 1 * w_fi ws (n_v (vs ++ [Value.int x]) 3) 170 + ((-1) * v_iv (n_v (vs ++ [Value.int x]) 26) + 0) ≤ 0
      simp only [e_3, e_26, q3]
      exact vc_Mo_writeGroup_at_l6_15_0 (v_iv (n_v vs 2)) (v_iv (n_v vs 4)) (v_iv (n_v vs 5)) (v_iv (n_v vs 6)) (v_iv (n_v vs 12)) (v_iv (n_v vs 14)) (v_iv (n_v vs 24)) (w_ei ws (w_ar ws (n_v vs 0) 2)) (w_fi ws (n_v vs 0) 5) (w_fi ws (n_v vs 0) 170) (v_iv (Value.int x)) k2 k4 k5 k6 k12 k14 k24 f0 f1 f2 f3 f5 f7 f8 f10 f11 f12 kz_0_170 ex2 ex3
  have nf1 : fc_1 PRD (23, [26, 2, 5, 4], [-5, 1, -1, -883, 883]) ws (vs ++ [Value.int x]) := by
    refine ⟨nf_inA hl rfl, sgq_1959 ?_⟩
    · show 1 * v_iv (n_v (vs ++ [Value.int x]) 26) + ((-1) * v_iv (n_v (vs ++ [Value.int x]) 2) + ((-883) * v_iv (n_v (vs ++ [Value.int x]) 5) + (883 * v_iv (n_v (vs ++ [Value.int x]) 4) + 0))) ≤ (-5)
      simp only [e_2, e_4, e_5, e_26]
      exact vc_Mo_writeGroup_at_l6_15_1 (v_iv (n_v vs 2)) (v_iv (n_v vs 4)) (v_iv (n_v vs 5)) (v_iv (n_v vs 6)) (v_iv (n_v vs 12)) (v_iv (n_v vs 14)) (v_iv (n_v vs 24)) (w_ei ws (w_ar ws (n_v vs 0) 2)) (w_fi ws (n_v vs 0) 5) (w_fi ws (n_v vs 0) 170) (v_iv (Value.int x)) k2 k4 k5 k6 k12 k14 k24 f0 f1 f2 f3 f5 f7 f8 f10 f11 f12 kz_0_170 ex2 ex3
  exact ⟨(fun _ h => (by cases h)), [Value.int x], ag_one hx, List.forall_mem_cons.mpr ⟨⟨show (20 : Nat) < 100 from by decide, nf0⟩, List.forall_mem_cons.mpr ⟨⟨show (23 : Nat) < 100 from by decide, nf1⟩, (fun _ h => (by cases h))⟩⟩, (fun _ h => (by cases h))⟩
set_option maxHeartbeats 4000000 in
theorem vc_Mo_writeGroup_at_l6_16_0 (x2 : Int) (x4 : Int) (x5 : Int) (x6 : Int) (x12 : Int) (x14 : Int) (x24 : Int) (x26 : Int) (all_0 : Int → Int) (r_0 : Int) (texts_0 : Int) (gx : Int) (k2 : 0 ≤ x2 ∧ x2 ≤ 99998253) (k4 : 6 ≤ x4 ∧ x4 ≤ 6) (k5 : 7 ≤ x5 ∧ x5 ≤ 7) (k6 : 8 ≤ x6 ∧ x6 ≤ 8) (k12 : 6 ≤ x12 ∧ x12 ≤ 6) (k14 : 0 ≤ x14 ∧ x14 ≤ 99999994) (k24 : 0 ≤ x24 ∧ x24 ≤ 99999992) (k26 : 0 ≤ x26 ∧ x26 ≤ 99999997) (f0 : 1 * x26 + ((-1) * x2 + ((-883) * x5 + (883 * x4 + 0))) ≤ (-5)) (f1 : 1 * x24 + ((-1) * x2 + ((-883) * x5 + (883 * x4 + 0))) ≤ (-13)) (f2 : 1 * x14 + ((-1) * x2 + ((-883) * x5 + (883 * x4 + 0))) ≤ (-19)) (f3 : 1 * x6 + ((-1) * all_0 (r_0 + 2) + 0) ≤ 0) (f4 : (-1) * x6 + (1 * all_0 (r_0 + 2) + 0) ≤ 0) (f6 : 1 * texts_0 + ((-1) * x26 + 0) ≤ 3) (f8 : 1 * x26 + ((-1) * x2 + ((-883) * x5 + (883 * x4 + 0))) ≤ (-5)) (f9 : 1 * x24 + ((-1) * x2 + ((-883) * x5 + (883 * x4 + 0))) ≤ (-13)) (f10 : 1 * x14 + ((-1) * x2 + ((-883) * x5 + (883 * x4 + 0))) ≤ (-19)) (f12 : 1 * x24 + ((-1) * x2 + ((-883) * x5 + (883 * x4 + 0))) ≤ (-13)) (f13 : 1 * x14 + ((-1) * x2 + ((-883) * x5 + (883 * x4 + 0))) ≤ (-19)) (f15 : 1 * x14 + ((-1) * x2 + ((-883) * x5 + (883 * x4 + 0))) ≤ (-19)) (f16 : x12 = x4) (f17 : x5 < x6) (kz_0_170 : 0 ≤ texts_0 ∧ texts_0 ≤ 100000000) (ex2 : gx = texts_0) (ex3 : 0 ≤ gx ∧ gx ≤ 99999136) : 1 * texts_0 + ((-1) * gx + 0) ≤ 0 := by
  first | assumption | omega | grind
set_option maxHeartbeats 4000000 in
theorem vc_Mo_writeGroup_at_l6_16_1 (x2 : Int) (x4 : Int) (x5 : Int) (x6 : Int) (x12 : Int) (x14 : Int) (x24 : Int) (x26 : Int) (all_0 : Int → Int) (r_0 : Int) (texts_0 : Int) (gx : Int) (k2 : 0 ≤ x2 ∧ x2 ≤ 99998253) (k4 : 6 ≤ x4 ∧ x4 ≤ 6) (k5 : 7 ≤ x5 ∧ x5 ≤ 7) (k6 : 8 ≤ x6 ∧ x6 ≤ 8) (k12 : 6 ≤ x12 ∧ x12 ≤ 6) (k14 : 0 ≤ x14 ∧ x14 ≤ 99999994) (k24 : 0 ≤ x24 ∧ x24 ≤ 99999992) (k26 : 0 ≤ x26 ∧ x26 ≤ 99999997) (f0 : 1 * x26 + ((-1) * x2 + ((-883) * x5 + (883 * x4 + 0))) ≤ (-5)) (f1 : 1 * x24 + ((-1) * x2 + ((-883) * x5 + (883 * x4 + 0))) ≤ (-13)) (f2 : 1 * x14 + ((-1) * x2 + ((-883) * x5 + (883 * x4 + 0))) ≤ (-19)) (f3 : 1 * x6 + ((-1) * all_0 (r_0 + 2) + 0) ≤ 0) (f4 : (-1) * x6 + (1 * all_0 (r_0 + 2) + 0) ≤ 0) (f6 : 1 * texts_0 + ((-1) * x26 + 0) ≤ 3) (f8 : 1 * x26 + ((-1) * x2 + ((-883) * x5 + (883 * x4 + 0))) ≤ (-5)) (f9 : 1 * x24 + ((-1) * x2 + ((-883) * x5 + (883 * x4 + 0))) ≤ (-13)) (f10 : 1 * x14 + ((-1) * x2 + ((-883) * x5 + (883 * x4 + 0))) ≤ (-19)) (f12 : 1 * x24 + ((-1) * x2 + ((-883) * x5 + (883 * x4 + 0))) ≤ (-13)) (f13 : 1 * x14 + ((-1) * x2 + ((-883) * x5 + (883 * x4 + 0))) ≤ (-19)) (f15 : 1 * x14 + ((-1) * x2 + ((-883) * x5 + (883 * x4 + 0))) ≤ (-19)) (f16 : x12 = x4) (f17 : x5 < x6) (kz_0_170 : 0 ≤ texts_0 ∧ texts_0 ≤ 100000000) (ex2 : gx = texts_0) (ex3 : 0 ≤ gx ∧ gx ≤ 99999136) : 1 * gx + ((-1) * x2 + ((-883) * x5 + (883 * x4 + 0))) ≤ (-2) := by
  first | assumption | omega | grind
def o_Mo_writeGroup_at_l6_16 : or_T := (161, 27, [(0, (2, 0, 0, [165])), (2, (0, 0, 99998253, [])), (3, (2, 0, 0, [165])), (4, (0, 6, 6, [])), (5, (0, 7, 7, [])), (6, (0, 8, 8, [])), (12, (0, 6, 6, [])), (14, (0, 0, 99999994, [])), (24, (0, 0, 99999992, [])), (26, (0, 0, 99999997, []))], [(23, [26, 2, 5, 4], [-5, 1, -1, -883, 883]), (23, [24, 2, 5, 4], [-13, 1, -1, -883, 883]), (23, [14, 2, 5, 4], [-19, 1, -1, -883, 883]), (20, [6, 3], [30, 0, 1, 0, 0, -1, 3, 2005002]), (20, [6, 3], [30, 0, -1, 0, 0, 1, 3, 2005002]), (24, [0, 3], []), (20, [3, 26], [30, 3, 1, 1, 170, -1, 0, 0]), (102, [26], [7770675568902916283677847627294075626569627356208558085007249638955617140820833992704, 165170]), (23, [26, 2, 5, 4], [-5, 1, -1, -883, 883]), (23, [24, 2, 5, 4], [-13, 1, -1, -883, 883]), (23, [14, 2, 5, 4], [-19, 1, -1, -883, 883]), (102, [24], [7770675568902916283677847627294075626569627356208558085007249638955617140820833992704, 165170]), (23, [24, 2, 5, 4], [-13, 1, -1, -883, 883]), (23, [14, 2, 5, 4], [-19, 1, -1, -883, 883]), (102, [14], [7770675568902916283677847627294075626569627356208558085007249638955617140820833992704, 165170]), (23, [14, 2, 5, 4], [-19, 1, -1, -883, 883]), (7, [12, 4], [0]), (7, [5, 6], [2])], [], [(0, 0, 99999136, [])], [(20, [3, 27], [30, 0, 1, 1, 170, -1, 0, 0]), (23, [27, 2, 5, 4], [-2, 1, -1, -883, 883])], [], [])
theorem oo_Mo_writeGroup_at_l6_16 {kA : Nat → ClassId} : or_ok PRD kA GG o_Mo_writeGroup_at_l6_16 := by
  refine or_mk fun A ta ws vs hD hth hl => ?_
  intro t0 r0 t2 k2 t3 r3 t4 k4 t5 k5 t6 k6 t12 k12 t14 k14 t24 k24 t26 k26 f0 f1 f2 f3 f4 f5 f6 ta1 w1 le1 s1 f8 f9 f10 ta2 w2 le2 s2 f12 f13 ta3 w3 le3 s3 f15 f16 f17
  replace f0 := shm_1959 f0
  replace f1 := shm_1958 f1
  replace f2 := shm_1957 f2
  replace f3 := shm_132 f3
  replace f4 := shm_133 f4
  replace f5 := shm_5 f5
  replace f6 := shm_236 f6
  replace f8 := shm_1959 f8
  replace f9 := shm_1958 f9
  replace f10 := shm_1957 f10
  replace f12 := shm_1958 f12
  replace f13 := shm_1957 f13
  replace f15 := shm_1957 f15
  replace f16 := shm_37 f16
  replace f17 := shm_6 f17
  have q3 : n_v vs 3 = n_v vs 0 := f5.symm
  simp only [q3] at f3 f4 f6
  have cr_0_2 := fdq_12 hD hth r0
  have kz_0_170 := fdq_13 hD hth r0
  have kv0 := fdq_13 hD hth r0
  obtain ⟨x, ex, hx⟩ := iv_ex (ta := ta) (lo := 0) (hi := 99999136) (z := w_fi ws (n_v vs 0) 170) (by omega) (by omega) (by omega) (by omega)
  have ex2 : v_iv (Value.int x) = w_fi ws (n_v vs 0) 170 := ex
  have ex3 : 0 ≤ v_iv (Value.int x) ∧ v_iv (Value.int x) ≤ 99999136 := tv_rng hx
  have e_2 : n_v (vs ++ [Value.int x]) 2 = n_v vs 2 := n_v_old (by rw [hl]; decide)
  have e_3 : n_v (vs ++ [Value.int x]) 3 = n_v vs 3 := n_v_old (by rw [hl]; decide)
  have e_4 : n_v (vs ++ [Value.int x]) 4 = n_v vs 4 := n_v_old (by rw [hl]; decide)
  have e_5 : n_v (vs ++ [Value.int x]) 5 = n_v vs 5 := n_v_old (by rw [hl]; decide)
  have e_27 : n_v (vs ++ [Value.int x]) 27 = Value.int x := n_v_new hl
  have nf0 : fc_1 PRD (20, [3, 27], [30, 0, 1, 1, 170, -1, 0, 0]) ws (vs ++ [Value.int x]) := by
    refine ⟨nf_inA hl rfl, sgq_140 ?_⟩
    · show 1 * w_fi ws (n_v (vs ++ [Value.int x]) 3) 170 + ((-1) * v_iv (n_v (vs ++ [Value.int x]) 27) + 0) ≤ 0
      simp only [e_3, e_27, q3]
      exact vc_Mo_writeGroup_at_l6_16_0 (v_iv (n_v vs 2)) (v_iv (n_v vs 4)) (v_iv (n_v vs 5)) (v_iv (n_v vs 6)) (v_iv (n_v vs 12)) (v_iv (n_v vs 14)) (v_iv (n_v vs 24)) (v_iv (n_v vs 26)) (w_ei ws (w_ar ws (n_v vs 0) 2)) (w_fi ws (n_v vs 0) 5) (w_fi ws (n_v vs 0) 170) (v_iv (Value.int x)) k2 k4 k5 k6 k12 k14 k24 k26 f0 f1 f2 f3 f4 f6 f8 f9 f10 f12 f13 f15 f16 f17 kz_0_170 ex2 ex3
  have nf1 : fc_1 PRD (23, [27, 2, 5, 4], [-2, 1, -1, -883, 883]) ws (vs ++ [Value.int x]) := by
    refine ⟨nf_inA hl rfl, sgq_1960 ?_⟩
    · show 1 * v_iv (n_v (vs ++ [Value.int x]) 27) + ((-1) * v_iv (n_v (vs ++ [Value.int x]) 2) + ((-883) * v_iv (n_v (vs ++ [Value.int x]) 5) + (883 * v_iv (n_v (vs ++ [Value.int x]) 4) + 0))) ≤ (-2)
      simp only [e_2, e_4, e_5, e_27]
      exact vc_Mo_writeGroup_at_l6_16_1 (v_iv (n_v vs 2)) (v_iv (n_v vs 4)) (v_iv (n_v vs 5)) (v_iv (n_v vs 6)) (v_iv (n_v vs 12)) (v_iv (n_v vs 14)) (v_iv (n_v vs 24)) (v_iv (n_v vs 26)) (w_ei ws (w_ar ws (n_v vs 0) 2)) (w_fi ws (n_v vs 0) 5) (w_fi ws (n_v vs 0) 170) (v_iv (Value.int x)) k2 k4 k5 k6 k12 k14 k24 k26 f0 f1 f2 f3 f4 f6 f8 f9 f10 f12 f13 f15 f16 f17 kz_0_170 ex2 ex3
  exact ⟨(fun _ h => (by cases h)), [Value.int x], ag_one hx, List.forall_mem_cons.mpr ⟨⟨show (20 : Nat) < 100 from by decide, nf0⟩, List.forall_mem_cons.mpr ⟨⟨show (23 : Nat) < 100 from by decide, nf1⟩, (fun _ h => (by cases h))⟩⟩, (fun _ h => (by cases h))⟩
set_option maxHeartbeats 4000000 in
theorem vc_Mo_writeGroup_at_l6_17_0 (x2 : Int) (x4 : Int) (x5 : Int) (x6 : Int) (x12 : Int) (x14 : Int) (x24 : Int) (x26 : Int) (x27 : Int) (all_0 : Int → Int) (r_0 : Int) (texts_0 : Int) (gx : Int) (k2 : 0 ≤ x2 ∧ x2 ≤ 99998253) (k4 : 6 ≤ x4 ∧ x4 ≤ 6) (k5 : 7 ≤ x5 ∧ x5 ≤ 7) (k6 : 8 ≤ x6 ∧ x6 ≤ 8) (k12 : 6 ≤ x12 ∧ x12 ≤ 6) (k14 : 0 ≤ x14 ∧ x14 ≤ 99999994) (k24 : 0 ≤ x24 ∧ x24 ≤ 99999992) (k26 : 0 ≤ x26 ∧ x26 ≤ 99999997) (k27 : 0 ≤ x27 ∧ x27 ≤ 99999136) (f0 : 1 * x27 + ((-1) * x2 + ((-883) * x5 + (883 * x4 + 0))) ≤ (-2)) (f1 : 1 * x26 + ((-1) * x2 + ((-883) * x5 + (883 * x4 + 0))) ≤ (-5)) (f2 : 1 * x24 + ((-1) * x2 + ((-883) * x5 + (883 * x4 + 0))) ≤ (-13)) (f3 : 1 * x14 + ((-1) * x2 + ((-883) * x5 + (883 * x4 + 0))) ≤ (-19)) (f4 : 1 * x6 + ((-1) * all_0 (r_0 + 2) + 0) ≤ 0) (f5 : (-1) * x6 + (1 * all_0 (r_0 + 2) + 0) ≤ 0) (f7 : 1 * texts_0 + ((-1) * x27 + 0) ≤ 864) (f9 : 1 * x27 + ((-1) * x2 + ((-883) * x5 + (883 * x4 + 0))) ≤ (-2)) (f10 : 1 * x26 + ((-1) * x2 + ((-883) * x5 + (883 * x4 + 0))) ≤ (-5)) (f11 : 1 * x24 + ((-1) * x2 + ((-883) * x5 + (883 * x4 + 0))) ≤ (-13)) (f12 : 1 * x14 + ((-1) * x2 + ((-883) * x5 + (883 * x4 + 0))) ≤ (-19)) (f14 : 1 * x26 + ((-1) * x2 + ((-883) * x5 + (883 * x4 + 0))) ≤ (-5)) (f15 : 1 * x24 + ((-1) * x2 + ((-883) * x5 + (883 * x4 + 0))) ≤ (-13)) (f16 : 1 * x14 + ((-1) * x2 + ((-883) * x5 + (883 * x4 + 0))) ≤ (-19)) (f18 : 1 * x24 + ((-1) * x2 + ((-883) * x5 + (883 * x4 + 0))) ≤ (-13)) (f19 : 1 * x14 + ((-1) * x2 + ((-883) * x5 + (883 * x4 + 0))) ≤ (-19)) (f21 : 1 * x14 + ((-1) * x2 + ((-883) * x5 + (883 * x4 + 0))) ≤ (-19)) (f22 : x12 = x4) (f23 : x5 < x6) (kz_0_170 : 0 ≤ texts_0 ∧ texts_0 ≤ 100000000) (ex2 : gx = texts_0) (ex3 : 0 ≤ gx ∧ gx ≤ 99999998) : 1 * texts_0 + ((-1) * gx + 0) ≤ 0 := by
  first | assumption | omega | grind
set_option maxHeartbeats 4000000 in
theorem vc_Mo_writeGroup_at_l6_17_1 (x2 : Int) (x4 : Int) (x5 : Int) (x6 : Int) (x12 : Int) (x14 : Int) (x24 : Int) (x26 : Int) (x27 : Int) (all_0 : Int → Int) (r_0 : Int) (texts_0 : Int) (gx : Int) (k2 : 0 ≤ x2 ∧ x2 ≤ 99998253) (k4 : 6 ≤ x4 ∧ x4 ≤ 6) (k5 : 7 ≤ x5 ∧ x5 ≤ 7) (k6 : 8 ≤ x6 ∧ x6 ≤ 8) (k12 : 6 ≤ x12 ∧ x12 ≤ 6) (k14 : 0 ≤ x14 ∧ x14 ≤ 99999994) (k24 : 0 ≤ x24 ∧ x24 ≤ 99999992) (k26 : 0 ≤ x26 ∧ x26 ≤ 99999997) (k27 : 0 ≤ x27 ∧ x27 ≤ 99999136) (f0 : 1 * x27 + ((-1) * x2 + ((-883) * x5 + (883 * x4 + 0))) ≤ (-2)) (f1 : 1 * x26 + ((-1) * x2 + ((-883) * x5 + (883 * x4 + 0))) ≤ (-5)) (f2 : 1 * x24 + ((-1) * x2 + ((-883) * x5 + (883 * x4 + 0))) ≤ (-13)) (f3 : 1 * x14 + ((-1) * x2 + ((-883) * x5 + (883 * x4 + 0))) ≤ (-19)) (f4 : 1 * x6 + ((-1) * all_0 (r_0 + 2) + 0) ≤ 0) (f5 : (-1) * x6 + (1 * all_0 (r_0 + 2) + 0) ≤ 0) (f7 : 1 * texts_0 + ((-1) * x27 + 0) ≤ 864) (f9 : 1 * x27 + ((-1) * x2 + ((-883) * x5 + (883 * x4 + 0))) ≤ (-2)) (f10 : 1 * x26 + ((-1) * x2 + ((-883) * x5 + (883 * x4 + 0))) ≤ (-5)) (f11 : 1 * x24 + ((-1) * x2 + ((-883) * x5 + (883 * x4 + 0))) ≤ (-13)) (f12 : 1 * x14 + ((-1) * x2 + ((-883) * x5 + (883 * x4 + 0))) ≤ (-19)) (f14 : 1 * x26 + ((-1) * x2 + ((-883) * x5 + (883 * x4 + 0))) ≤ (-5)) (f15 : 1 * x24 + ((-1) * x2 + ((-883) * x5 + (883 * x4 + 0))) ≤ (-13)) (f16 : 1 * x14 + ((-1) * x2 + ((-883) * x5 + (883 * x4 + 0))) ≤ (-19)) (f18 : 1 * x24 + ((-1) * x2 + ((-883) * x5 + (883 * x4 + 0))) ≤ (-13)) (f19 : 1 * x14 + ((-1) * x2 + ((-883) * x5 + (883 * x4 + 0))) ≤ (-19)) (f21 : 1 * x14 + ((-1) * x2 + ((-883) * x5 + (883 * x4 + 0))) ≤ (-19)) (f22 : x12 = x4) (f23 : x5 < x6) (kz_0_170 : 0 ≤ texts_0 ∧ texts_0 ≤ 100000000) (ex2 : gx = texts_0) (ex3 : 0 ≤ gx ∧ gx ≤ 99999998) : 1 * gx + ((-1) * x2 + ((-883) * x5 + (883 * x4 + 0))) ≤ 862 := by
  first | assumption | omega | grind
def o_Mo_writeGroup_at_l6_17 : or_T := (168, 29, [(0, (2, 0, 0, [165])), (2, (0, 0, 99998253, [])), (3, (2, 0, 0, [165])), (4, (0, 6, 6, [])), (5, (0, 7, 7, [])), (6, (0, 8, 8, [])), (12, (0, 6, 6, [])), (14, (0, 0, 99999994, [])), (24, (0, 0, 99999992, [])), (26, (0, 0, 99999997, [])), (27, (0, 0, 99999136, []))], [(23, [27, 2, 5, 4], [-2, 1, -1, -883, 883]), (23, [26, 2, 5, 4], [-5, 1, -1, -883, 883]), (23, [24, 2, 5, 4], [-13, 1, -1, -883, 883]), (23, [14, 2, 5, 4], [-19, 1, -1, -883, 883]), (20, [6, 3], [30, 0, 1, 0, 0, -1, 3, 2005002]), (20, [6, 3], [30, 0, -1, 0, 0, 1, 3, 2005002]), (24, [0, 3], []), (20, [3, 27], [30, 864, 1, 1, 170, -1, 0, 0]), (102, [27], [7770675568902916283677847627294075626569627356208558085007249638955617140820833992704, 165170]), (23, [27, 2, 5, 4], [-2, 1, -1, -883, 883]), (23, [26, 2, 5, 4], [-5, 1, -1, -883, 883]), (23, [24, 2, 5, 4], [-13, 1, -1, -883, 883]), (23, [14, 2, 5, 4], [-19, 1, -1, -883, 883]), (102, [26], [7770675568902916283677847627294075626569627356208558085007249638955617140820833992704, 165170]), (23, [26, 2, 5, 4], [-5, 1, -1, -883, 883]), (23, [24, 2, 5, 4], [-13, 1, -1, -883, 883]), (23, [14, 2, 5, 4], [-19, 1, -1, -883, 883]), (102, [24], [7770675568902916283677847627294075626569627356208558085007249638955617140820833992704, 165170]), (23, [24, 2, 5, 4], [-13, 1, -1, -883, 883]), (23, [14, 2, 5, 4], [-19, 1, -1, -883, 883]), (102, [14], [7770675568902916283677847627294075626569627356208558085007249638955617140820833992704, 165170]), (23, [14, 2, 5, 4], [-19, 1, -1, -883, 883]), (7, [12, 4], [0]), (7, [5, 6], [2])], [], [(0, 0, 99999998, [])], [(20, [3, 29], [30, 0, 1, 1, 170, -1, 0, 0]), (23, [29, 2, 5, 4], [862, 1, -1, -883, 883])], [], [])
